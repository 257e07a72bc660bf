set_option maxHeartbeats 4000000 in
set_option maxRecDepth 100000 in
theorem m_X5_add_26 (l : Launch) (hfl : l.stackTraces = false) (D : va_G) (ad : Nat → Nat) (cA : Nat → ClassId) (g : gv_T) (p1 : Int64) (σ : Sg) (Q : Sg → Prop) (hw : w_X5_add_26 p1 σ Q) : MC l yX5_add cX5_add 8 none (RM 0 0 0 0) D ad cA g [.ref (ad 26), .long p1] σ (fun v σ' => v = none ∧ Q σ') (fun _ _ => False) := by
  refine MC.of (plainFor_of_name (by decide +kernel)) (Nat.le_of_ble_eq_true rfl) ?_
  intro p e s m args below meth c A ls hx hb hr hml hown hG hlocks htab hA hS hP hK hD hGV hl
  have hown : s.vm.findClass RX5 = some m.cls := hown
  have hl : lv_has ls 8 [(0, .ref (ad 26)), (1, .long p1)] := hl
  have hSF : CF p m c cX5_add 8 s args RX5 := ⟨hx, hb, hml, hown, hG⟩
  refine lv_lload_n hx hb dX5_add_0 rfl (lv_at hl 1 rfl) ?_
  refine lv_lstore_n (lv' := [(3, .long p1), (0, .ref (ad 26)), (1, .long p1)]) hx hb dX5_add_1 rfl hl (by decide) rfl (fun ls hl => ?_)
  refine lv_iconst (v := 0) hx hb dX5_add_2 (by decide) ?_
  refine lv_istore (lv' := [(5, .int 0), (3, .long p1), (0, .ref (ad 26)), (1, .long p1)]) hx hb dX5_add_3 hl (by decide) rfl (fun ls hl => ?_)
  obtain ⟨I1, μ1, hI1, hw1⟩ := hw
  have hl : lv_has ls 8 [(0, .ref (ad 26)), (3, .long p1), (5, .int 0)] := lv_sub hl [2, 1, 0] rfl
  suffices key1 : ∀ (n1 : Nat) (i3_1 : Int64) (i5_1 : Int32) (σ1 : Sg), μ1 i3_1 i5_1 σ1 < n1 → I1 i3_1 i5_1 σ1 → ∀ (H : Heap) (locs : List Loc) (ls : Array Slot), va_P D vwCl (WL ad cA σ1) H → va_D A (WL ad cA σ1) → va_S A s.heap H locs → lv_has ls 8 [(0, .ref (ad 26)), (3, .long i3_1), (5, .int i5_1)] → W p l e (RM 0 0 0 0) s m args below meth c H locs (0) (0) (vx_MQ below (QM D ad cA A (fun v σ' => v = none ∧ Q σ')) (XM D ad cA A (fun _ _ => False)) args s (RM 0 0 0 0).cells (RM 0 0 0 0).slots A) (F0 m 5 ls []) from key1 _ _ _ _ (Nat.lt_succ_self _) hI1 _ _ ls hP hD hS hl
  clear hP hD hS hl
  intro n1
  induction n1 with
  | zero => intro _ _ _ h; exact absurd h (Nat.not_lt_zero _)
  | succ n1 ih1 =>
    intro i3_1 i5_1 σ1 hm1 hI1 H locs ls hP hD hS hl
    have hw := hw1 i3_1 i5_1 σ1 hI1
    refine lv_iload hx hb dX5_add_5 (lv_at hl 2 rfl) ?_
    refine lv_bipush (v := 8) hx hb dX5_add_7 (by decide) ?_
    refine lv_icmp_ge (tgt := 57) hx hb dX5_add_9 (by decide) (fun k2 => ?_) (fun k2 => ?_)
    · skip
      have hw := hw.1 k2
      exact vx_ret (m_v ⟨rfl, hw⟩ hx hb hr hlocks hP hD hS (Nat.le_of_ble_eq_true rfl) (Nat.le_of_ble_eq_true rfl) dX5_add_57)
    · skip
      have hw := hw.2 k2
      refine lv_aload_n hx hb dX5_add_12 rfl (lv_at hl 0 rfl) ?_
      refine k_get (ci := 7) (C := RX5) (T := TX5) (N := 1) (v := .ref (ad 27)) hx hb hG inX5 hown hK hP 26 wl_26 rfl 0 (by decide) gw134 rfl dX5_add_13 ?_
      refine lv_iload hx hb dX5_add_16 (lv_at hl 2 rfl) ?_
      obtain ⟨hc3, hw⟩ := hw
      refine k_lald (v := gB σ1 8 (ix i5_1)) hx hb hK hP 27 wl_27 (ix i5_1) rfl rfl hc3 dX5_add_18 ?_
      refine lv_lload_n hx hb dX5_add_19 rfl (lv_at hl 1 rfl) ?_
      refine lv_ldc2 hx hb hown (hG _ gw393) dX5_add_20 ?_
      refine k_land (v := i3_1 &&& 4294967295) hx hb dX5_add_23 rfl ?_
      refine k_ladd (v := (gB σ1 8 (ix i5_1)) + (i3_1 &&& 4294967295)) hx hb dX5_add_24 rfl ?_
      obtain ⟨v4, ev4⟩ : ∃ z : Int64, z = (gB σ1 8 (ix i5_1)) + (i3_1 &&& 4294967295) := ⟨_, rfl⟩
      have hw := hw v4 ev4
      refine lv_lstore (lv' := [(6, .long v4), (0, .ref (ad 26)), (3, .long i3_1), (5, .int i5_1)]) hx hb dX5_add_25 hl (by decide) (by subst ev4; rfl) (fun ls hl => ?_)
      refine lv_aload_n hx hb dX5_add_27 rfl (lv_at hl 1 rfl) ?_
      refine k_get (ci := 7) (C := RX5) (T := TX5) (N := 1) (v := .ref (ad 27)) hx hb hG inX5 hown hK hP 26 wl_26 rfl 0 (by decide) gw134 rfl dX5_add_28 ?_
      refine lv_iload hx hb dX5_add_31 (lv_at hl 3 rfl) ?_
      refine lv_lload hx hb dX5_add_33 (lv_at hl 0 rfl) ?_
      refine lv_ldc2 hx hb hown (hG _ gw393) dX5_add_35 ?_
      refine k_land (v := v4 &&& 4294967295) hx hb dX5_add_38 rfl ?_
      obtain ⟨hc5, hw⟩ := hw
      obtain ⟨σ6, eσ6⟩ : ∃ z : Sg, z = sB σ1 8 (ix i5_1) (v4 &&& 4294967295) := ⟨_, rfl⟩
      have hw := hw σ6 eσ6
      refine k_last (ws1 := WL ad cA σ6) hx hb hK hP hD hS 27 wl_27 (ws_27 eσ6) hc5 dX5_add_39 (fun H locs hP hD hS => ?_)
      refine lv_lload_n hx hb dX5_add_40 rfl (lv_at hl 2 rfl) ?_
      refine lv_bipush (v := 32) hx hb dX5_add_41 (by decide) ?_
      refine lv_lushr (v := lUshr i3_1 32) hx hb dX5_add_43 rfl ?_
      refine lv_lload hx hb dX5_add_44 (lv_at hl 0 rfl) ?_
      refine lv_bipush (v := 32) hx hb dX5_add_46 (by decide) ?_
      refine lv_lushr (v := lUshr v4 32) hx hb dX5_add_48 rfl ?_
      refine k_ladd (v := (lUshr i3_1 32) + (lUshr v4 32)) hx hb dX5_add_49 rfl ?_
      obtain ⟨v7, ev7⟩ : ∃ z : Int64, z = (lUshr i3_1 32) + (lUshr v4 32) := ⟨_, rfl⟩
      have hw := hw v7 ev7
      refine lv_lstore_n (lv' := [(3, .long v7), (6, .long v4), (0, .ref (ad 26)), (5, .int i5_1)]) hx hb dX5_add_50 rfl hl (by decide) (by subst ev7; rfl) (fun ls hl => ?_)
      refine lv_iinc (v := i5_1 + 1) (lv' := [(5, .int (i5_1 + 1)), (3, .long v7), (6, .long v4), (0, .ref (ad 26))]) hx hb dX5_add_51 hl (k := 3) rfl rfl (by decide) rfl (fun ls hl => ?_)
      refine lv_goto (tgt := 5) hx hb dX5_add_54 (by decide) ?_
      exact ih1 v7 (i5_1 + 1) σ6 (Nat.lt_of_lt_of_le hw.2 (Nat.le_of_lt_succ hm1)) hw.1 _ _ ls hP hD hS (lv_sub hl [3, 1, 0] rfl)

set_option maxHeartbeats 4000000 in
set_option maxRecDepth 100000 in
theorem m_X5_setProduct_28_26_26 (l : Launch) (hfl : l.stackTraces = false) (D : va_G) (ad : Nat → Nat) (cA : Nat → ClassId) (g : gv_T) (σ : Sg) (Q : Sg → Prop) (hw : w_X5_setProduct_28_26_26  σ Q) : MC l yX5_setProduct cX5_setProduct 7 none (RM 0 0 0 0) D ad cA g [.ref (ad 28), .ref (ad 26), .ref (ad 26)] σ (fun v σ' => v = none ∧ Q σ') (fun _ _ => False) := by
  refine MC.of (plainFor_of_name (by decide +kernel)) (Nat.le_of_ble_eq_true rfl) ?_
  intro p e s m args below meth c A ls hx hb hr hml hown hG hlocks htab hA hS hP hK hD hGV hl
  have hown : s.vm.findClass RX5 = some m.cls := hown
  have hl : lv_has ls 7 [(0, .ref (ad 28)), (1, .ref (ad 26)), (2, .ref (ad 26))] := hl
  have hSF : CF p m c cX5_setProduct 7 s args RX5 := ⟨hx, hb, hml, hown, hG⟩
  refine lv_iconst (v := 0) hx hb dX5_setProduct_0 (by decide) ?_
  refine lv_istore_n (lv' := [(3, .int 0), (0, .ref (ad 28)), (1, .ref (ad 26)), (2, .ref (ad 26))]) hx hb dX5_setProduct_1 rfl hl (by decide) rfl (fun ls hl => ?_)
  obtain ⟨I1, μ1, hI1, hw1⟩ := hw
  have hl : lv_has ls 7 [(0, .ref (ad 28)), (1, .ref (ad 26)), (2, .ref (ad 26)), (3, .int 0)] := lv_sub hl [1, 2, 3, 0] rfl
  suffices key1 : ∀ (n1 : Nat) (i3_1 : Int32) (σ1 : Sg), μ1 i3_1 σ1 < n1 → I1 i3_1 σ1 → ∀ (H : Heap) (locs : List Loc) (ls : Array Slot), va_P D vwCl (WL ad cA σ1) H → va_D A (WL ad cA σ1) → va_S A s.heap H locs → lv_has ls 7 [(0, .ref (ad 28)), (1, .ref (ad 26)), (2, .ref (ad 26)), (3, .int i3_1)] → W p l e (RM 0 0 0 0) s m args below meth c H locs (0) (0) (vx_MQ below (QM D ad cA A (fun v σ' => v = none ∧ Q σ')) (XM D ad cA A (fun _ _ => False)) args s (RM 0 0 0 0).cells (RM 0 0 0 0).slots A) (F0 m 2 ls []) from key1 _ _ _ (Nat.lt_succ_self _) hI1 _ _ ls hP hD hS hl
  clear hP hD hS hl
  intro n1
  induction n1 with
  | zero => intro _ _ h; exact absurd h (Nat.not_lt_zero _)
  | succ n1 ih1 =>
    intro i3_1 σ1 hm1 hI1 H locs ls hP hD hS hl
    have hw := hw1 i3_1 σ1 hI1
    refine lv_iload_n hx hb dX5_setProduct_2 rfl (lv_at hl 3 rfl) ?_
    refine lv_bipush (v := 8) hx hb dX5_setProduct_3 (by decide) ?_
    refine lv_icmp_ge (tgt := 21) hx hb dX5_setProduct_5 (by decide) (fun k2 => ?_) (fun k2 => ?_)
    · skip
      have hw := hw.1 k2
      refine lv_iconst (v := 0) hx hb dX5_setProduct_21 (by decide) ?_
      refine lv_istore_n (lv' := [(3, .int 0), (0, .ref (ad 28)), (1, .ref (ad 26)), (2, .ref (ad 26))]) hx hb dX5_setProduct_22 rfl hl (by decide) rfl (fun ls hl => ?_)
      obtain ⟨I3, μ3, hI3, hw3⟩ := hw
      have hl : lv_has ls 7 [(0, .ref (ad 28)), (1, .ref (ad 26)), (2, .ref (ad 26)), (3, .int 0)] := lv_sub hl [1, 2, 3, 0] rfl
      suffices key3 : ∀ (n3 : Nat) (i3_3 : Int32) (σ3 : Sg), μ3 i3_3 σ3 < n3 → I3 i3_3 σ3 → ∀ (H : Heap) (locs : List Loc) (ls : Array Slot), va_P D vwCl (WL ad cA σ3) H → va_D A (WL ad cA σ3) → va_S A s.heap H locs → lv_has ls 7 [(0, .ref (ad 28)), (1, .ref (ad 26)), (2, .ref (ad 26)), (3, .int i3_3)] → W p l e (RM 0 0 0 0) s m args below meth c H locs (0) (0) (vx_MQ below (QM D ad cA A (fun v σ' => v = none ∧ Q σ')) (XM D ad cA A (fun _ _ => False)) args s (RM 0 0 0 0).cells (RM 0 0 0 0).slots A) (F0 m 23 ls []) from key3 _ _ _ (Nat.lt_succ_self _) hI3 _ _ ls hP hD hS hl
      clear hP hD hS hl
      intro n3
      induction n3 with
      | zero => intro _ _ h; exact absurd h (Nat.not_lt_zero _)
      | succ n3 ih3 =>
        intro i3_3 σ3 hm3 hI3 H locs ls hP hD hS hl
        have hw := hw3 i3_3 σ3 hI3
        refine lv_iload_n hx hb dX5_setProduct_23 rfl (lv_at hl 3 rfl) ?_
        refine lv_bipush (v := 8) hx hb dX5_setProduct_24 (by decide) ?_
        refine lv_icmp_ge (tgt := 103) hx hb dX5_setProduct_26 (by decide) (fun k4 => ?_) (fun k4 => ?_)
        · skip
          have hw := hw.1 k4
          exact vx_ret (m_v ⟨rfl, hw⟩ hx hb hr hlocks hP hD hS (Nat.le_of_ble_eq_true rfl) (Nat.le_of_ble_eq_true rfl) dX5_setProduct_103)
        · skip
          have hw := hw.2 k4
          refine lv_lconst (v := 0) hx hb dX5_setProduct_29 (by decide) ?_
          refine lv_lstore (lv' := [(4, .long 0), (0, .ref (ad 28)), (1, .ref (ad 26)), (2, .ref (ad 26)), (3, .int i3_3)]) hx hb dX5_setProduct_30 hl (by decide) rfl (fun ls hl => ?_)
          refine lv_iload_n hx hb dX5_setProduct_32 rfl (lv_at hl 4 rfl) ?_
          refine lv_istore (lv' := [(6, .int i3_3), (4, .long 0), (0, .ref (ad 28)), (1, .ref (ad 26)), (2, .ref (ad 26)), (3, .int i3_3)]) hx hb dX5_setProduct_33 hl (by decide) rfl (fun ls hl => ?_)
          obtain ⟨I5, μ5, hI5, hw5⟩ := hw
          have hl : lv_has ls 7 [(0, .ref (ad 28)), (1, .ref (ad 26)), (2, .ref (ad 26)), (3, .int i3_3), (4, .long 0), (6, .int i3_3)] := lv_sub hl [2, 3, 4, 5, 1, 0] rfl
          suffices key5 : ∀ (n5 : Nat) (i4_5 : Int64) (i6_5 : Int32) (σ5 : Sg), μ5 i4_5 i6_5 σ5 < n5 → I5 i4_5 i6_5 σ5 → ∀ (H : Heap) (locs : List Loc) (ls : Array Slot), va_P D vwCl (WL ad cA σ5) H → va_D A (WL ad cA σ5) → va_S A s.heap H locs → lv_has ls 7 [(0, .ref (ad 28)), (1, .ref (ad 26)), (2, .ref (ad 26)), (3, .int i3_3), (4, .long i4_5), (6, .int i6_5)] → W p l e (RM 0 0 0 0) s m args below meth c H locs (0) (0) (vx_MQ below (QM D ad cA A (fun v σ' => v = none ∧ Q σ')) (XM D ad cA A (fun _ _ => False)) args s (RM 0 0 0 0).cells (RM 0 0 0 0).slots A) (F0 m 35 ls []) from key5 _ _ _ _ (Nat.lt_succ_self _) hI5 _ _ ls hP hD hS hl
          clear hP hD hS hl
          intro n5
          induction n5 with
          | zero => intro _ _ _ h; exact absurd h (Nat.not_lt_zero _)
          | succ n5 ih5 =>
            intro i4_5 i6_5 σ5 hm5 hI5 H locs ls hP hD hS hl
            have hw := hw5 i4_5 i6_5 σ5 hI5
            refine lv_iload hx hb dX5_setProduct_35 (lv_at hl 5 rfl) ?_
            refine lv_bipush (v := 8) hx hb dX5_setProduct_37 (by decide) ?_
            refine lv_icmp_ge (tgt := 97) hx hb dX5_setProduct_39 (by decide) (fun k6 => ?_) (fun k6 => ?_)
            · skip
              have hw := hw.1 k6
              refine lv_iinc (v := i3_3 + 1) (lv' := [(3, .int (i3_3 + 1)), (0, .ref (ad 28)), (1, .ref (ad 26)), (2, .ref (ad 26)), (4, .long i4_5), (6, .int i6_5)]) hx hb dX5_setProduct_97 hl (k := 3) rfl rfl (by decide) rfl (fun ls hl => ?_)
              refine lv_goto (tgt := 23) hx hb dX5_setProduct_100 (by decide) ?_
              exact ih3 (i3_3 + 1) σ5 (Nat.lt_of_lt_of_le hw.2 (Nat.le_of_lt_succ hm3)) hw.1 _ _ ls hP hD hS (lv_sub hl [1, 2, 3, 0] rfl)
            · skip
              have hw := hw.2 k6
              refine lv_lload hx hb dX5_setProduct_42 (lv_at hl 4 rfl) ?_
              refine lv_aload_n hx hb dX5_setProduct_44 rfl (lv_at hl 1 rfl) ?_
              refine k_get (ci := 7) (C := RX5) (T := TX5) (N := 1) (v := .ref (ad 27)) hx hb hG inX5 hown hK hP 26 wl_26 rfl 0 (by decide) gw134 rfl dX5_setProduct_45 ?_
              refine lv_iload_n hx hb dX5_setProduct_48 rfl (lv_at hl 3 rfl) ?_
              obtain ⟨hc7, hw⟩ := hw
              refine k_lald (v := gB σ5 8 (ix i3_3)) hx hb hK hP 27 wl_27 (ix i3_3) rfl rfl hc7 dX5_setProduct_49 ?_
              refine lv_aload_n hx hb dX5_setProduct_50 rfl (lv_at hl 2 rfl) ?_
              refine k_get (ci := 7) (C := RX5) (T := TX5) (N := 1) (v := .ref (ad 27)) hx hb hG inX5 hown hK hP 26 wl_26 rfl 0 (by decide) gw134 rfl dX5_setProduct_51 ?_
              refine lv_iload hx hb dX5_setProduct_54 (lv_at hl 5 rfl) ?_
              refine lv_iload_n hx hb dX5_setProduct_56 rfl (lv_at hl 3 rfl) ?_
              refine k_isub (v := i6_5 - i3_3) hx hb dX5_setProduct_57 rfl ?_
              obtain ⟨hc8, hw⟩ := hw
              refine k_lald (v := gB σ5 8 (ix (i6_5 - i3_3))) hx hb hK hP 27 wl_27 (ix (i6_5 - i3_3)) rfl rfl hc8 dX5_setProduct_58 ?_
              refine k_lmul (v := (gB σ5 8 (ix i3_3)) * (gB σ5 8 (ix (i6_5 - i3_3)))) hx hb dX5_setProduct_59 rfl ?_
              refine lv_aload_n hx hb dX5_setProduct_60 rfl (lv_at hl 0 rfl) ?_
              refine k_get (ci := 7) (C := RX5) (T := TX5) (N := 1) (v := .ref (ad 29)) hx hb hG inX5 hown hK hP 28 wl_28 rfl 0 (by decide) gw134 rfl dX5_setProduct_61 ?_
              refine lv_iload hx hb dX5_setProduct_64 (lv_at hl 5 rfl) ?_
              obtain ⟨hc9, hw⟩ := hw
              refine k_lald (v := gB σ5 9 (ix i6_5)) hx hb hK hP 29 wl_29 (ix i6_5) rfl rfl hc9 dX5_setProduct_66 ?_
              refine k_ladd (v := ((gB σ5 8 (ix i3_3)) * (gB σ5 8 (ix (i6_5 - i3_3)))) + (gB σ5 9 (ix i6_5))) hx hb dX5_setProduct_67 rfl ?_
              refine k_ladd (v := i4_5 + (((gB σ5 8 (ix i3_3)) * (gB σ5 8 (ix (i6_5 - i3_3)))) + (gB σ5 9 (ix i6_5)))) hx hb dX5_setProduct_68 rfl ?_
              obtain ⟨v10, ev10⟩ : ∃ z : Int64, z = i4_5 + (((gB σ5 8 (ix i3_3)) * (gB σ5 8 (ix (i6_5 - i3_3)))) + (gB σ5 9 (ix i6_5))) := ⟨_, rfl⟩
              have hw := hw v10 ev10
              refine lv_lstore (lv' := [(4, .long v10), (0, .ref (ad 28)), (1, .ref (ad 26)), (2, .ref (ad 26)), (3, .int i3_3), (6, .int i6_5)]) hx hb dX5_setProduct_69 hl (by decide) (by subst ev10; rfl) (fun ls hl => ?_)
              refine lv_aload_n hx hb dX5_setProduct_71 rfl (lv_at hl 1 rfl) ?_
              refine k_get (ci := 7) (C := RX5) (T := TX5) (N := 1) (v := .ref (ad 29)) hx hb hG inX5 hown hK hP 28 wl_28 rfl 0 (by decide) gw134 rfl dX5_setProduct_72 ?_
              refine lv_iload hx hb dX5_setProduct_75 (lv_at hl 5 rfl) ?_
              refine lv_lload hx hb dX5_setProduct_77 (lv_at hl 0 rfl) ?_
              refine lv_ldc2 hx hb hown (hG _ gw393) dX5_setProduct_79 ?_
              refine k_land (v := v10 &&& 4294967295) hx hb dX5_setProduct_82 rfl ?_
              obtain ⟨hc11, hw⟩ := hw
              obtain ⟨σ12, eσ12⟩ : ∃ z : Sg, z = sB σ5 9 (ix i6_5) (v10 &&& 4294967295) := ⟨_, rfl⟩
              have hw := hw σ12 eσ12
              refine k_last (ws1 := WL ad cA σ12) hx hb hK hP hD hS 29 wl_29 (ws_29 eσ12) hc11 dX5_setProduct_83 (fun H locs hP hD hS => ?_)
              refine lv_lload hx hb dX5_setProduct_84 (lv_at hl 0 rfl) ?_
              refine lv_bipush (v := 32) hx hb dX5_setProduct_86 (by decide) ?_
              refine lv_lushr (v := lUshr v10 32) hx hb dX5_setProduct_88 rfl ?_
              obtain ⟨v13, ev13⟩ : ∃ z : Int64, z = lUshr v10 32 := ⟨_, rfl⟩
              have hw := hw v13 ev13
              refine lv_lstore (lv' := [(4, .long v13), (0, .ref (ad 28)), (1, .ref (ad 26)), (2, .ref (ad 26)), (3, .int i3_3), (6, .int i6_5)]) hx hb dX5_setProduct_89 hl (by decide) (by subst ev13; rfl) (fun ls hl => ?_)
              refine lv_iinc (v := i6_5 + 1) (lv' := [(6, .int (i6_5 + 1)), (4, .long v13), (0, .ref (ad 28)), (1, .ref (ad 26)), (2, .ref (ad 26)), (3, .int i3_3)]) hx hb dX5_setProduct_91 hl (k := 5) rfl rfl (by decide) rfl (fun ls hl => ?_)
              refine lv_goto (tgt := 35) hx hb dX5_setProduct_94 (by decide) ?_
              exact ih5 v13 (i6_5 + 1) σ12 (Nat.lt_of_lt_of_le hw.2 (Nat.le_of_lt_succ hm5)) hw.1 _ _ ls hP hD hS (lv_sub hl [2, 3, 4, 5, 1, 0] rfl)
    · skip
      have hw := hw.2 k2
      refine lv_aload_n hx hb dX5_setProduct_8 rfl (lv_at hl 0 rfl) ?_
      refine k_get (ci := 7) (C := RX5) (T := TX5) (N := 1) (v := .ref (ad 29)) hx hb hG inX5 hown hK hP 28 wl_28 rfl 0 (by decide) gw134 rfl dX5_setProduct_9 ?_
      refine lv_iload_n hx hb dX5_setProduct_12 rfl (lv_at hl 3 rfl) ?_
      refine lv_lconst (v := 0) hx hb dX5_setProduct_13 (by decide) ?_
      obtain ⟨hc14, hw⟩ := hw
      obtain ⟨σ15, eσ15⟩ : ∃ z : Sg, z = sB σ1 9 (ix i3_1) 0 := ⟨_, rfl⟩
      have hw := hw σ15 eσ15
      refine k_last (ws1 := WL ad cA σ15) hx hb hK hP hD hS 29 wl_29 (ws_29 eσ15) hc14 dX5_setProduct_14 (fun H locs hP hD hS => ?_)
      refine lv_iinc (v := i3_1 + 1) (lv' := [(3, .int (i3_1 + 1)), (0, .ref (ad 28)), (1, .ref (ad 26)), (2, .ref (ad 26))]) hx hb dX5_setProduct_15 hl (k := 3) rfl rfl (by decide) rfl (fun ls hl => ?_)
      refine lv_goto (tgt := 2) hx hb dX5_setProduct_18 (by decide) ?_
      exact ih1 (i3_1 + 1) σ15 (Nat.lt_of_lt_of_le hw.2 (Nat.le_of_lt_succ hm1)) hw.1 _ _ ls hP hD hS (lv_sub hl [1, 2, 3, 0] rfl)

set_option maxHeartbeats 4000000 in
set_option maxRecDepth 100000 in
theorem m_X5_setProduct_30_28_22 (l : Launch) (hfl : l.stackTraces = false) (D : va_G) (ad : Nat → Nat) (cA : Nat → ClassId) (g : gv_T) (σ : Sg) (Q : Sg → Prop) (hw : w_X5_setProduct_30_28_22  σ Q) : MC l yX5_setProduct cX5_setProduct 7 none (RM 0 0 0 0) D ad cA g [.ref (ad 30), .ref (ad 28), .ref (ad 22)] σ (fun v σ' => v = none ∧ Q σ') (fun _ _ => False) := by
  refine MC.of (plainFor_of_name (by decide +kernel)) (Nat.le_of_ble_eq_true rfl) ?_
  intro p e s m args below meth c A ls hx hb hr hml hown hG hlocks htab hA hS hP hK hD hGV hl
  have hown : s.vm.findClass RX5 = some m.cls := hown
  have hl : lv_has ls 7 [(0, .ref (ad 30)), (1, .ref (ad 28)), (2, .ref (ad 22))] := hl
  have hSF : CF p m c cX5_setProduct 7 s args RX5 := ⟨hx, hb, hml, hown, hG⟩
  refine lv_iconst (v := 0) hx hb dX5_setProduct_0 (by decide) ?_
  refine lv_istore_n (lv' := [(3, .int 0), (0, .ref (ad 30)), (1, .ref (ad 28)), (2, .ref (ad 22))]) hx hb dX5_setProduct_1 rfl hl (by decide) rfl (fun ls hl => ?_)
  obtain ⟨I1, μ1, hI1, hw1⟩ := hw
  have hl : lv_has ls 7 [(0, .ref (ad 30)), (1, .ref (ad 28)), (2, .ref (ad 22)), (3, .int 0)] := lv_sub hl [1, 2, 3, 0] rfl
  suffices key1 : ∀ (n1 : Nat) (i3_1 : Int32) (σ1 : Sg), μ1 i3_1 σ1 < n1 → I1 i3_1 σ1 → ∀ (H : Heap) (locs : List Loc) (ls : Array Slot), va_P D vwCl (WL ad cA σ1) H → va_D A (WL ad cA σ1) → va_S A s.heap H locs → lv_has ls 7 [(0, .ref (ad 30)), (1, .ref (ad 28)), (2, .ref (ad 22)), (3, .int i3_1)] → W p l e (RM 0 0 0 0) s m args below meth c H locs (0) (0) (vx_MQ below (QM D ad cA A (fun v σ' => v = none ∧ Q σ')) (XM D ad cA A (fun _ _ => False)) args s (RM 0 0 0 0).cells (RM 0 0 0 0).slots A) (F0 m 2 ls []) from key1 _ _ _ (Nat.lt_succ_self _) hI1 _ _ ls hP hD hS hl
  clear hP hD hS hl
  intro n1
  induction n1 with
  | zero => intro _ _ h; exact absurd h (Nat.not_lt_zero _)
  | succ n1 ih1 =>
    intro i3_1 σ1 hm1 hI1 H locs ls hP hD hS hl
    have hw := hw1 i3_1 σ1 hI1
    refine lv_iload_n hx hb dX5_setProduct_2 rfl (lv_at hl 3 rfl) ?_
    refine lv_bipush (v := 8) hx hb dX5_setProduct_3 (by decide) ?_
    refine lv_icmp_ge (tgt := 21) hx hb dX5_setProduct_5 (by decide) (fun k2 => ?_) (fun k2 => ?_)
    · skip
      have hw := hw.1 k2
      refine lv_iconst (v := 0) hx hb dX5_setProduct_21 (by decide) ?_
      refine lv_istore_n (lv' := [(3, .int 0), (0, .ref (ad 30)), (1, .ref (ad 28)), (2, .ref (ad 22))]) hx hb dX5_setProduct_22 rfl hl (by decide) rfl (fun ls hl => ?_)
      obtain ⟨I3, μ3, hI3, hw3⟩ := hw
      have hl : lv_has ls 7 [(0, .ref (ad 30)), (1, .ref (ad 28)), (2, .ref (ad 22)), (3, .int 0)] := lv_sub hl [1, 2, 3, 0] rfl
      suffices key3 : ∀ (n3 : Nat) (i3_3 : Int32) (σ3 : Sg), μ3 i3_3 σ3 < n3 → I3 i3_3 σ3 → ∀ (H : Heap) (locs : List Loc) (ls : Array Slot), va_P D vwCl (WL ad cA σ3) H → va_D A (WL ad cA σ3) → va_S A s.heap H locs → lv_has ls 7 [(0, .ref (ad 30)), (1, .ref (ad 28)), (2, .ref (ad 22)), (3, .int i3_3)] → W p l e (RM 0 0 0 0) s m args below meth c H locs (0) (0) (vx_MQ below (QM D ad cA A (fun v σ' => v = none ∧ Q σ')) (XM D ad cA A (fun _ _ => False)) args s (RM 0 0 0 0).cells (RM 0 0 0 0).slots A) (F0 m 23 ls []) from key3 _ _ _ (Nat.lt_succ_self _) hI3 _ _ ls hP hD hS hl
      clear hP hD hS hl
      intro n3
      induction n3 with
      | zero => intro _ _ h; exact absurd h (Nat.not_lt_zero _)
      | succ n3 ih3 =>
        intro i3_3 σ3 hm3 hI3 H locs ls hP hD hS hl
        have hw := hw3 i3_3 σ3 hI3
        refine lv_iload_n hx hb dX5_setProduct_23 rfl (lv_at hl 3 rfl) ?_
        refine lv_bipush (v := 8) hx hb dX5_setProduct_24 (by decide) ?_
        refine lv_icmp_ge (tgt := 103) hx hb dX5_setProduct_26 (by decide) (fun k4 => ?_) (fun k4 => ?_)
        · skip
          have hw := hw.1 k4
          exact vx_ret (m_v ⟨rfl, hw⟩ hx hb hr hlocks hP hD hS (Nat.le_of_ble_eq_true rfl) (Nat.le_of_ble_eq_true rfl) dX5_setProduct_103)
        · skip
          have hw := hw.2 k4
          refine lv_lconst (v := 0) hx hb dX5_setProduct_29 (by decide) ?_
          refine lv_lstore (lv' := [(4, .long 0), (0, .ref (ad 30)), (1, .ref (ad 28)), (2, .ref (ad 22)), (3, .int i3_3)]) hx hb dX5_setProduct_30 hl (by decide) rfl (fun ls hl => ?_)
          refine lv_iload_n hx hb dX5_setProduct_32 rfl (lv_at hl 4 rfl) ?_
          refine lv_istore (lv' := [(6, .int i3_3), (4, .long 0), (0, .ref (ad 30)), (1, .ref (ad 28)), (2, .ref (ad 22)), (3, .int i3_3)]) hx hb dX5_setProduct_33 hl (by decide) rfl (fun ls hl => ?_)
          obtain ⟨I5, μ5, hI5, hw5⟩ := hw
          have hl : lv_has ls 7 [(0, .ref (ad 30)), (1, .ref (ad 28)), (2, .ref (ad 22)), (3, .int i3_3), (4, .long 0), (6, .int i3_3)] := lv_sub hl [2, 3, 4, 5, 1, 0] rfl
          suffices key5 : ∀ (n5 : Nat) (i4_5 : Int64) (i6_5 : Int32) (σ5 : Sg), μ5 i4_5 i6_5 σ5 < n5 → I5 i4_5 i6_5 σ5 → ∀ (H : Heap) (locs : List Loc) (ls : Array Slot), va_P D vwCl (WL ad cA σ5) H → va_D A (WL ad cA σ5) → va_S A s.heap H locs → lv_has ls 7 [(0, .ref (ad 30)), (1, .ref (ad 28)), (2, .ref (ad 22)), (3, .int i3_3), (4, .long i4_5), (6, .int i6_5)] → W p l e (RM 0 0 0 0) s m args below meth c H locs (0) (0) (vx_MQ below (QM D ad cA A (fun v σ' => v = none ∧ Q σ')) (XM D ad cA A (fun _ _ => False)) args s (RM 0 0 0 0).cells (RM 0 0 0 0).slots A) (F0 m 35 ls []) from key5 _ _ _ _ (Nat.lt_succ_self _) hI5 _ _ ls hP hD hS hl
          clear hP hD hS hl
          intro n5
          induction n5 with
          | zero => intro _ _ _ h; exact absurd h (Nat.not_lt_zero _)
          | succ n5 ih5 =>
            intro i4_5 i6_5 σ5 hm5 hI5 H locs ls hP hD hS hl
            have hw := hw5 i4_5 i6_5 σ5 hI5
            refine lv_iload hx hb dX5_setProduct_35 (lv_at hl 5 rfl) ?_
            refine lv_bipush (v := 8) hx hb dX5_setProduct_37 (by decide) ?_
            refine lv_icmp_ge (tgt := 97) hx hb dX5_setProduct_39 (by decide) (fun k6 => ?_) (fun k6 => ?_)
            · skip
              have hw := hw.1 k6
              refine lv_iinc (v := i3_3 + 1) (lv' := [(3, .int (i3_3 + 1)), (0, .ref (ad 30)), (1, .ref (ad 28)), (2, .ref (ad 22)), (4, .long i4_5), (6, .int i6_5)]) hx hb dX5_setProduct_97 hl (k := 3) rfl rfl (by decide) rfl (fun ls hl => ?_)
              refine lv_goto (tgt := 23) hx hb dX5_setProduct_100 (by decide) ?_
              exact ih3 (i3_3 + 1) σ5 (Nat.lt_of_lt_of_le hw.2 (Nat.le_of_lt_succ hm3)) hw.1 _ _ ls hP hD hS (lv_sub hl [1, 2, 3, 0] rfl)
            · skip
              have hw := hw.2 k6
              refine lv_lload hx hb dX5_setProduct_42 (lv_at hl 4 rfl) ?_
              refine lv_aload_n hx hb dX5_setProduct_44 rfl (lv_at hl 1 rfl) ?_
              refine k_get (ci := 7) (C := RX5) (T := TX5) (N := 1) (v := .ref (ad 29)) hx hb hG inX5 hown hK hP 28 wl_28 rfl 0 (by decide) gw134 rfl dX5_setProduct_45 ?_
              refine lv_iload_n hx hb dX5_setProduct_48 rfl (lv_at hl 3 rfl) ?_
              obtain ⟨hc7, hw⟩ := hw
              refine k_lald (v := gB σ5 9 (ix i3_3)) hx hb hK hP 29 wl_29 (ix i3_3) rfl rfl hc7 dX5_setProduct_49 ?_
              refine lv_aload_n hx hb dX5_setProduct_50 rfl (lv_at hl 2 rfl) ?_
              refine k_get (ci := 7) (C := RX5) (T := TX5) (N := 1) (v := .ref (ad 23)) hx hb hG inX5 hown hK hP 22 wl_22 rfl 0 (by decide) gw134 rfl dX5_setProduct_51 ?_
              refine lv_iload hx hb dX5_setProduct_54 (lv_at hl 5 rfl) ?_
              refine lv_iload_n hx hb dX5_setProduct_56 rfl (lv_at hl 3 rfl) ?_
              refine k_isub (v := i6_5 - i3_3) hx hb dX5_setProduct_57 rfl ?_
              obtain ⟨hc8, hw⟩ := hw
              refine k_lald (v := gB σ5 6 (ix (i6_5 - i3_3))) hx hb hK hP 23 wl_23 (ix (i6_5 - i3_3)) rfl rfl hc8 dX5_setProduct_58 ?_
              refine k_lmul (v := (gB σ5 9 (ix i3_3)) * (gB σ5 6 (ix (i6_5 - i3_3)))) hx hb dX5_setProduct_59 rfl ?_
              refine lv_aload_n hx hb dX5_setProduct_60 rfl (lv_at hl 0 rfl) ?_
              refine k_get (ci := 7) (C := RX5) (T := TX5) (N := 1) (v := .ref (ad 31)) hx hb hG inX5 hown hK hP 30 wl_30 rfl 0 (by decide) gw134 rfl dX5_setProduct_61 ?_
              refine lv_iload hx hb dX5_setProduct_64 (lv_at hl 5 rfl) ?_
              obtain ⟨hc9, hw⟩ := hw
              refine k_lald (v := gB σ5 10 (ix i6_5)) hx hb hK hP 31 wl_31 (ix i6_5) rfl rfl hc9 dX5_setProduct_66 ?_
              refine k_ladd (v := ((gB σ5 9 (ix i3_3)) * (gB σ5 6 (ix (i6_5 - i3_3)))) + (gB σ5 10 (ix i6_5))) hx hb dX5_setProduct_67 rfl ?_
              refine k_ladd (v := i4_5 + (((gB σ5 9 (ix i3_3)) * (gB σ5 6 (ix (i6_5 - i3_3)))) + (gB σ5 10 (ix i6_5)))) hx hb dX5_setProduct_68 rfl ?_
              obtain ⟨v10, ev10⟩ : ∃ z : Int64, z = i4_5 + (((gB σ5 9 (ix i3_3)) * (gB σ5 6 (ix (i6_5 - i3_3)))) + (gB σ5 10 (ix i6_5))) := ⟨_, rfl⟩
              have hw := hw v10 ev10
              refine lv_lstore (lv' := [(4, .long v10), (0, .ref (ad 30)), (1, .ref (ad 28)), (2, .ref (ad 22)), (3, .int i3_3), (6, .int i6_5)]) hx hb dX5_setProduct_69 hl (by decide) (by subst ev10; rfl) (fun ls hl => ?_)
              refine lv_aload_n hx hb dX5_setProduct_71 rfl (lv_at hl 1 rfl) ?_
              refine k_get (ci := 7) (C := RX5) (T := TX5) (N := 1) (v := .ref (ad 31)) hx hb hG inX5 hown hK hP 30 wl_30 rfl 0 (by decide) gw134 rfl dX5_setProduct_72 ?_
              refine lv_iload hx hb dX5_setProduct_75 (lv_at hl 5 rfl) ?_
              refine lv_lload hx hb dX5_setProduct_77 (lv_at hl 0 rfl) ?_
              refine lv_ldc2 hx hb hown (hG _ gw393) dX5_setProduct_79 ?_
              refine k_land (v := v10 &&& 4294967295) hx hb dX5_setProduct_82 rfl ?_
              obtain ⟨hc11, hw⟩ := hw
              obtain ⟨σ12, eσ12⟩ : ∃ z : Sg, z = sB σ5 10 (ix i6_5) (v10 &&& 4294967295) := ⟨_, rfl⟩
              have hw := hw σ12 eσ12
              refine k_last (ws1 := WL ad cA σ12) hx hb hK hP hD hS 31 wl_31 (ws_31 eσ12) hc11 dX5_setProduct_83 (fun H locs hP hD hS => ?_)
              refine lv_lload hx hb dX5_setProduct_84 (lv_at hl 0 rfl) ?_
              refine lv_bipush (v := 32) hx hb dX5_setProduct_86 (by decide) ?_
              refine lv_lushr (v := lUshr v10 32) hx hb dX5_setProduct_88 rfl ?_
              obtain ⟨v13, ev13⟩ : ∃ z : Int64, z = lUshr v10 32 := ⟨_, rfl⟩
              have hw := hw v13 ev13
              refine lv_lstore (lv' := [(4, .long v13), (0, .ref (ad 30)), (1, .ref (ad 28)), (2, .ref (ad 22)), (3, .int i3_3), (6, .int i6_5)]) hx hb dX5_setProduct_89 hl (by decide) (by subst ev13; rfl) (fun ls hl => ?_)
              refine lv_iinc (v := i6_5 + 1) (lv' := [(6, .int (i6_5 + 1)), (4, .long v13), (0, .ref (ad 30)), (1, .ref (ad 28)), (2, .ref (ad 22)), (3, .int i3_3)]) hx hb dX5_setProduct_91 hl (k := 5) rfl rfl (by decide) rfl (fun ls hl => ?_)
              refine lv_goto (tgt := 35) hx hb dX5_setProduct_94 (by decide) ?_
              exact ih5 v13 (i6_5 + 1) σ12 (Nat.lt_of_lt_of_le hw.2 (Nat.le_of_lt_succ hm5)) hw.1 _ _ ls hP hD hS (lv_sub hl [2, 3, 4, 5, 1, 0] rfl)
    · skip
      have hw := hw.2 k2
      refine lv_aload_n hx hb dX5_setProduct_8 rfl (lv_at hl 0 rfl) ?_
      refine k_get (ci := 7) (C := RX5) (T := TX5) (N := 1) (v := .ref (ad 31)) hx hb hG inX5 hown hK hP 30 wl_30 rfl 0 (by decide) gw134 rfl dX5_setProduct_9 ?_
      refine lv_iload_n hx hb dX5_setProduct_12 rfl (lv_at hl 3 rfl) ?_
      refine lv_lconst (v := 0) hx hb dX5_setProduct_13 (by decide) ?_
      obtain ⟨hc14, hw⟩ := hw
      obtain ⟨σ15, eσ15⟩ : ∃ z : Sg, z = sB σ1 10 (ix i3_1) 0 := ⟨_, rfl⟩
      have hw := hw σ15 eσ15
      refine k_last (ws1 := WL ad cA σ15) hx hb hK hP hD hS 31 wl_31 (ws_31 eσ15) hc14 dX5_setProduct_14 (fun H locs hP hD hS => ?_)
      refine lv_iinc (v := i3_1 + 1) (lv' := [(3, .int (i3_1 + 1)), (0, .ref (ad 30)), (1, .ref (ad 28)), (2, .ref (ad 22))]) hx hb dX5_setProduct_15 hl (k := 3) rfl rfl (by decide) rfl (fun ls hl => ?_)
      refine lv_goto (tgt := 2) hx hb dX5_setProduct_18 (by decide) ?_
      exact ih1 (i3_1 + 1) σ15 (Nat.lt_of_lt_of_le hw.2 (Nat.le_of_lt_succ hm1)) hw.1 _ _ ls hP hD hS (lv_sub hl [1, 2, 3, 0] rfl)

set_option maxHeartbeats 4000000 in
set_option maxRecDepth 100000 in
theorem m_X5_isAtMost_28_30 (l : Launch) (hfl : l.stackTraces = false) (D : va_G) (ad : Nat → Nat) (cA : Nat → ClassId) (g : gv_T) (σ : Sg) (Q : Int32 → Prop) (hw : w_X5_isAtMost_28_30  σ Q) : MC l yX5_isAtMost cX5_isAtMost 3 (some .boolean) (RM 0 0 0 0) D ad cA g [.ref (ad 28), .ref (ad 30)] σ (fun v σ' => ∃ r : Int32, v = some (.int r) ∧ σ' = σ ∧ Q r) (fun _ _ => False) := by
  refine MC.of (plainFor_of_name (by decide +kernel)) (Nat.le_of_ble_eq_true rfl) ?_
  intro p e s m args below meth c A ls hx hb hr hml hown hG hlocks htab hA hS hP hK hD hGV hl
  have hown : s.vm.findClass RX5 = some m.cls := hown
  have hl : lv_has ls 3 [(0, .ref (ad 28)), (1, .ref (ad 30))] := hl
  have hSF : CF p m c cX5_isAtMost 3 s args RX5 := ⟨hx, hb, hml, hown, hG⟩
  refine lv_bipush (v := 7) hx hb dX5_isAtMost_0 (by decide) ?_
  refine lv_istore_n (lv' := [(2, .int 7), (0, .ref (ad 28)), (1, .ref (ad 30))]) hx hb dX5_isAtMost_2 rfl hl (by decide) rfl (fun ls hl => ?_)
  obtain ⟨I1, μ1, hI1, hw1⟩ := hw
  have hl : lv_has ls 3 [(0, .ref (ad 28)), (1, .ref (ad 30)), (2, .int 7)] := lv_sub hl [1, 2, 0] rfl
  suffices key1 : ∀ (n1 : Nat) (i2_1 : Int32), μ1 i2_1 < n1 → I1 i2_1 → ∀ (H : Heap) (locs : List Loc) (ls : Array Slot), va_P D vwCl (WL ad cA σ) H → va_D A (WL ad cA σ) → va_S A s.heap H locs → lv_has ls 3 [(0, .ref (ad 28)), (1, .ref (ad 30)), (2, .int i2_1)] → W p l e (RM 0 0 0 0) s m args below meth c H locs (0) (0) (vx_MQ below (QM D ad cA A (fun v σ' => ∃ r : Int32, v = some (.int r) ∧ σ' = σ ∧ Q r)) (XM D ad cA A (fun _ _ => False)) args s (RM 0 0 0 0).cells (RM 0 0 0 0).slots A) (F0 m 3 ls []) from key1 _ _ (Nat.lt_succ_self _) hI1 _ _ ls hP hD hS hl
  clear hP hD hS hl
  intro n1
  induction n1 with
  | zero => intro _ h; exact absurd h (Nat.not_lt_zero _)
  | succ n1 ih1 =>
    intro i2_1 hm1 hI1 H locs ls hP hD hS hl
    have hw := hw1 i2_1 hI1
    refine lv_iload_n hx hb dX5_isAtMost_3 rfl (lv_at hl 2 rfl) ?_
    refine lv_if_lt (tgt := 51) hx hb dX5_isAtMost_4 (by decide) (fun k2 => ?_) (fun k2 => ?_)
    · skip
      have hw := hw.1 k2
      refine lv_iconst (v := 1) hx hb dX5_isAtMost_51 (by decide) ?_
      exact vx_ret (m_i ⟨_, rfl, rfl, hw⟩ hx hb hr hlocks rfl hP hD hS (Nat.le_of_ble_eq_true rfl) (Nat.le_of_ble_eq_true rfl) dX5_isAtMost_52)
    · skip
      have hw := hw.2 k2
      refine lv_aload_n hx hb dX5_isAtMost_7 rfl (lv_at hl 0 rfl) ?_
      refine k_get (ci := 7) (C := RX5) (T := TX5) (N := 1) (v := .ref (ad 29)) hx hb hG inX5 hown hK hP 28 wl_28 rfl 0 (by decide) gw134 rfl dX5_isAtMost_8 ?_
      refine lv_iload_n hx hb dX5_isAtMost_11 rfl (lv_at hl 2 rfl) ?_
      obtain ⟨hc3, hw⟩ := hw
      refine k_lald (v := gB σ 9 (ix i2_1)) hx hb hK hP 29 wl_29 (ix i2_1) rfl rfl hc3 dX5_isAtMost_12 ?_
      refine lv_aload_n hx hb dX5_isAtMost_13 rfl (lv_at hl 1 rfl) ?_
      refine k_get (ci := 7) (C := RX5) (T := TX5) (N := 1) (v := .ref (ad 31)) hx hb hG inX5 hown hK hP 30 wl_30 rfl 0 (by decide) gw134 rfl dX5_isAtMost_14 ?_
      refine lv_iload_n hx hb dX5_isAtMost_17 rfl (lv_at hl 2 rfl) ?_
      obtain ⟨hc4, hw⟩ := hw
      refine k_lald (v := gB σ 10 (ix i2_1)) hx hb hK hP 31 wl_31 (ix i2_1) rfl rfl hc4 dX5_isAtMost_18 ?_
      refine k_lcmp (v := lg_cmp (gB σ 9 (ix i2_1)) (gB σ 10 (ix i2_1))) hx hb dX5_isAtMost_19 rfl ?_
      refine lv_if_eq (tgt := 45) hx hb dX5_isAtMost_20 (by decide) (fun k5 => ?_) (fun k5 => ?_)
      · skip
        have hw := hw.1 (lc_eq.mp k5)
        refine lv_iinc (v := i2_1 + (-1)) (lv' := [(2, .int (i2_1 + (-1))), (0, .ref (ad 28)), (1, .ref (ad 30))]) hx hb dX5_isAtMost_45 hl (k := 2) rfl rfl (by decide) rfl (fun ls hl => ?_)
        refine lv_goto (tgt := 3) hx hb dX5_isAtMost_48 (by decide) ?_
        exact ih1 (i2_1 + (-1)) (Nat.lt_of_lt_of_le hw.2 (Nat.le_of_lt_succ hm1)) hw.1 _ _ ls hP hD hS (lv_sub hl [1, 2, 0] rfl)
      · skip
        have hw := hw.2 (fun q9 => k5 (lc_eq.mpr q9))
        refine lv_aload_n hx hb dX5_isAtMost_23 rfl (lv_at hl 0 rfl) ?_
        refine k_get (ci := 7) (C := RX5) (T := TX5) (N := 1) (v := .ref (ad 29)) hx hb hG inX5 hown hK hP 28 wl_28 rfl 0 (by decide) gw134 rfl dX5_isAtMost_24 ?_
        refine lv_iload_n hx hb dX5_isAtMost_27 rfl (lv_at hl 2 rfl) ?_
        obtain ⟨hc6, hw⟩ := hw
        refine k_lald (v := gB σ 9 (ix i2_1)) hx hb hK hP 29 wl_29 (ix i2_1) rfl rfl hc6 dX5_isAtMost_28 ?_
        refine lv_aload_n hx hb dX5_isAtMost_29 rfl (lv_at hl 1 rfl) ?_
        refine k_get (ci := 7) (C := RX5) (T := TX5) (N := 1) (v := .ref (ad 31)) hx hb hG inX5 hown hK hP 30 wl_30 rfl 0 (by decide) gw134 rfl dX5_isAtMost_30 ?_
        refine lv_iload_n hx hb dX5_isAtMost_33 rfl (lv_at hl 2 rfl) ?_
        obtain ⟨hc7, hw⟩ := hw
        refine k_lald (v := gB σ 10 (ix i2_1)) hx hb hK hP 31 wl_31 (ix i2_1) rfl rfl hc7 dX5_isAtMost_34 ?_
        refine k_lcmp (v := lg_cmp (gB σ 9 (ix i2_1)) (gB σ 10 (ix i2_1))) hx hb dX5_isAtMost_35 rfl ?_
        refine lv_if_ge (tgt := 43) hx hb dX5_isAtMost_36 (by decide) (fun k8 => ?_) (fun k8 => ?_)
        · skip
          have hw := hw.1 (lc_ge.mp k8)
          refine lv_iconst (v := 0) hx hb dX5_isAtMost_43 (by decide) ?_
          exact vx_ret (m_i ⟨_, rfl, rfl, hw⟩ hx hb hr hlocks rfl hP hD hS (Nat.le_of_ble_eq_true rfl) (Nat.le_of_ble_eq_true rfl) dX5_isAtMost_44)
        · skip
          have hw := hw.2 (fun q9 => k8 (lc_ge.mpr q9))
          refine lv_iconst (v := 1) hx hb dX5_isAtMost_39 (by decide) ?_
          refine lv_goto (tgt := 44) hx hb dX5_isAtMost_40 (by decide) ?_
          exact vx_ret (m_i ⟨_, rfl, rfl, hw⟩ hx hb hr hlocks rfl hP hD hS (Nat.le_of_ble_eq_true rfl) (Nat.le_of_ble_eq_true rfl) dX5_isAtMost_44)

set_option maxHeartbeats 4000000 in
set_option maxRecDepth 100000 in
theorem m_X1_timesLength (l : Launch) (hfl : l.stackTraces = false) (D : va_G) (ad : Nat → Nat) (cA : Nat → ClassId) (g : gv_T) (p1 : Int64) (p2 : Int64) (p3 : Int32) (σ : Sg) (Q : Int64 → Sg → Prop) (hw : w_X1_timesLength p1 p2 p3 σ Q) : MC l yX1_timesLength cX1_timesLength 13 (some .long) (RM 1 0 0 27) D ad cA g [.ref (ad 12), .long p1, .long p2, .int p3] σ (fun v σ' => ∃ r : Int64, v = some (.long r) ∧ Q r σ') (fun _ _ => False) := by
  refine MC.of (plainFor_of_name (by decide +kernel)) (Nat.le_of_ble_eq_true rfl) ?_
  intro p e s m args below meth c A ls hx hb hr hml hown hG hlocks htab hA hS hP hK hD hGV hl
  have hown : s.vm.findClass RX1 = some m.cls := hown
  have hl : lv_has ls 13 [(0, .ref (ad 12)), (1, .long p1), (3, .long p2), (5, .int p3)] := hl
  have hSF : CF p m c cX1_timesLength 13 s args RX1 := ⟨hx, hb, hml, hown, hG⟩
  refine lv_aload_n hx hb dX1_timesLength_0 rfl (lv_at hl 0 rfl) ?_
  refine k_get (ci := 3) (C := RX1) (T := TX1) (N := 17) (v := .ref (ad 22)) hx hb hG inX1 hown hK hP 12 wl_12 rfl 12 (by decide) gw154 rfl dX1_timesLength_1 ?_
  refine lv_lload_n hx hb dX1_timesLength_4 rfl (lv_at hl 1 rfl) ?_
  refine mc_V hSF hl.1 hP hD hS hA hK hGV (m_X5_set_22 l hfl D ad cA g p1 σ _ hw) goV_X1_141 pd_X5_set ⟨(Nat.le_of_ble_eq_true rfl), (Nat.le_of_ble_eq_true rfl)⟩ ⟨(Nat.le_of_ble_eq_true rfl), (Nat.le_of_ble_eq_true rfl)⟩ (va_recv hK hP (ci := 7) (q0 := 22) rfl wl_22) dX1_timesLength_5 rfl (Nat.le_of_ble_eq_true rfl) (fun v9 σ2 H locs hq hP hD hS => ?_) (fun _ _ _ _ _ _ h => h.elim)
  obtain ⟨hv9, hw⟩ := hq
  subst hv9
  refine W.eq (g2 := F0 m 8 ls []) rfl ?_
  refine W.widen (k := 0) (n := 0) (Nat.le_refl _) (Nat.le_refl _) ?_
  refine lv_aload_n hx hb dX1_timesLength_8 rfl (lv_at hl 0 rfl) ?_
  refine k_get (ci := 3) (C := RX1) (T := TX1) (N := 17) (v := .ref (ad 26)) hx hb hG inX1 hown hK hP 12 wl_12 rfl 14 (by decide) gw156 rfl dX1_timesLength_9 ?_
  refine lv_aload_n hx hb dX1_timesLength_12 rfl (lv_at hl 0 rfl) ?_
  refine k_get (ci := 3) (C := RX1) (T := TX1) (N := 17) (v := .ref (ad 22)) hx hb hG inX1 hown hK hP 12 wl_12 rfl 12 (by decide) gw154 rfl dX1_timesLength_13 ?_
  refine lv_aload_n hx hb dX1_timesLength_16 rfl (lv_at hl 0 rfl) ?_
  refine k_get (ci := 3) (C := RX1) (T := TX1) (N := 17) (v := .ref (ad 24)) hx hb hG inX1 hown hK hP 12 wl_12 rfl 13 (by decide) gw155 rfl dX1_timesLength_17 ?_
  refine mc_V hSF hl.1 hP hD hS hA hK hGV (m_X5_setProduct_26_22_24 l hfl D ad cA g  σ2 _ hw) goV_X1_154 pd_X5_setProduct ⟨(Nat.le_of_ble_eq_true rfl), (Nat.le_of_ble_eq_true rfl)⟩ ⟨(Nat.le_of_ble_eq_true rfl), (Nat.le_of_ble_eq_true rfl)⟩ (va_recv hK hP (ci := 7) (q0 := 26) rfl wl_26) dX1_timesLength_20 rfl (Nat.le_of_ble_eq_true rfl) (fun v9 σ4 H locs hq hP hD hS => ?_) (fun _ _ _ _ _ _ h => h.elim)
  obtain ⟨hv9, hw⟩ := hq
  subst hv9
  refine W.eq (g2 := F0 m 23 ls []) rfl ?_
  refine W.widen (k := 0) (n := 0) (Nat.le_refl _) (Nat.le_refl _) ?_
  refine lv_aload_n hx hb dX1_timesLength_23 rfl (lv_at hl 0 rfl) ?_
  refine k_get (ci := 3) (C := RX1) (T := TX1) (N := 17) (v := .ref (ad 26)) hx hb hG inX1 hown hK hP 12 wl_12 rfl 14 (by decide) gw156 rfl dX1_timesLength_24 ?_
  refine lv_lload_n hx hb dX1_timesLength_27 rfl (lv_at hl 2 rfl) ?_
  refine mc_V hSF hl.1 hP hD hS hA hK hGV (m_X5_add_26 l hfl D ad cA g p2 σ4 _ hw) goV_X1_158 pd_X5_add ⟨(Nat.le_of_ble_eq_true rfl), (Nat.le_of_ble_eq_true rfl)⟩ ⟨(Nat.le_of_ble_eq_true rfl), (Nat.le_of_ble_eq_true rfl)⟩ (va_recv hK hP (ci := 7) (q0 := 26) rfl wl_26) dX1_timesLength_28 rfl (Nat.le_of_ble_eq_true rfl) (fun v9 σ6 H locs hq hP hD hS => ?_) (fun _ _ _ _ _ _ h => h.elim)
  obtain ⟨hv9, hw⟩ := hq
  subst hv9
  refine W.eq (g2 := F0 m 31 ls []) rfl ?_
  refine W.widen (k := 0) (n := 0) (Nat.le_refl _) (Nat.le_refl _) ?_
  refine lv_aload_n hx hb dX1_timesLength_31 rfl (lv_at hl 0 rfl) ?_
  refine k_get (ci := 3) (C := RX1) (T := TX1) (N := 17) (v := .ref (ad 28)) hx hb hG inX1 hown hK hP 12 wl_12 rfl 15 (by decide) gw157 rfl dX1_timesLength_32 ?_
  refine lv_aload_n hx hb dX1_timesLength_35 rfl (lv_at hl 0 rfl) ?_
  refine k_get (ci := 3) (C := RX1) (T := TX1) (N := 17) (v := .ref (ad 26)) hx hb hG inX1 hown hK hP 12 wl_12 rfl 14 (by decide) gw156 rfl dX1_timesLength_36 ?_
  refine lv_aload_n hx hb dX1_timesLength_39 rfl (lv_at hl 0 rfl) ?_
  refine k_get (ci := 3) (C := RX1) (T := TX1) (N := 17) (v := .ref (ad 26)) hx hb hG inX1 hown hK hP 12 wl_12 rfl 14 (by decide) gw156 rfl dX1_timesLength_40 ?_
  refine mc_V hSF hl.1 hP hD hS hA hK hGV (m_X5_setProduct_28_26_26 l hfl D ad cA g  σ6 _ hw) goV_X1_154 pd_X5_setProduct ⟨(Nat.le_of_ble_eq_true rfl), (Nat.le_of_ble_eq_true rfl)⟩ ⟨(Nat.le_of_ble_eq_true rfl), (Nat.le_of_ble_eq_true rfl)⟩ (va_recv hK hP (ci := 7) (q0 := 28) rfl wl_28) dX1_timesLength_43 rfl (Nat.le_of_ble_eq_true rfl) (fun v9 σ8 H locs hq hP hD hS => ?_) (fun _ _ _ _ _ _ h => h.elim)
  obtain ⟨hv9, hw⟩ := hq
  subst hv9
  refine W.eq (g2 := F0 m 46 ls []) rfl ?_
  refine W.widen (k := 0) (n := 0) (Nat.le_refl _) (Nat.le_refl _) ?_
  refine lv_aload_n hx hb dX1_timesLength_46 rfl (lv_at hl 0 rfl) ?_
  refine k_get (ci := 3) (C := RX1) (T := TX1) (N := 17) (v := .ref (ad 22)) hx hb hG inX1 hown hK hP 12 wl_12 rfl 12 (by decide) gw154 rfl dX1_timesLength_47 ?_
  refine lv_iload hx hb dX1_timesLength_50 (lv_at hl 3 rfl) ?_
  refine lv_i2l (v := p3.toInt64) hx hb dX1_timesLength_52 rfl ?_
  refine mc_V hSF hl.1 hP hD hS hA hK hGV (m_X5_set_22 l hfl D ad cA g p3.toInt64 σ8 _ hw) goV_X1_141 pd_X5_set ⟨(Nat.le_of_ble_eq_true rfl), (Nat.le_of_ble_eq_true rfl)⟩ ⟨(Nat.le_of_ble_eq_true rfl), (Nat.le_of_ble_eq_true rfl)⟩ (va_recv hK hP (ci := 7) (q0 := 22) rfl wl_22) dX1_timesLength_53 rfl (Nat.le_of_ble_eq_true rfl) (fun v9 σ10 H locs hq hP hD hS => ?_) (fun _ _ _ _ _ _ h => h.elim)
  obtain ⟨hv9, hw⟩ := hq
  subst hv9
  refine W.eq (g2 := F0 m 56 ls []) rfl ?_
  refine W.widen (k := 0) (n := 0) (Nat.le_refl _) (Nat.le_refl _) ?_
  refine lv_aload_n hx hb dX1_timesLength_56 rfl (lv_at hl 0 rfl) ?_
  refine k_get (ci := 3) (C := RX1) (T := TX1) (N := 17) (v := .ref (ad 30)) hx hb hG inX1 hown hK hP 12 wl_12 rfl 16 (by decide) gw158 rfl dX1_timesLength_57 ?_
  refine lv_aload_n hx hb dX1_timesLength_60 rfl (lv_at hl 0 rfl) ?_
  refine k_get (ci := 3) (C := RX1) (T := TX1) (N := 17) (v := .ref (ad 28)) hx hb hG inX1 hown hK hP 12 wl_12 rfl 15 (by decide) gw157 rfl dX1_timesLength_61 ?_
  refine lv_aload_n hx hb dX1_timesLength_64 rfl (lv_at hl 0 rfl) ?_
  refine k_get (ci := 3) (C := RX1) (T := TX1) (N := 17) (v := .ref (ad 22)) hx hb hG inX1 hown hK hP 12 wl_12 rfl 12 (by decide) gw154 rfl dX1_timesLength_65 ?_
  refine mc_V hSF hl.1 hP hD hS hA hK hGV (m_X5_setProduct_30_28_22 l hfl D ad cA g  σ10 _ hw) goV_X1_154 pd_X5_setProduct ⟨(Nat.le_of_ble_eq_true rfl), (Nat.le_of_ble_eq_true rfl)⟩ ⟨(Nat.le_of_ble_eq_true rfl), (Nat.le_of_ble_eq_true rfl)⟩ (va_recv hK hP (ci := 7) (q0 := 30) rfl wl_30) dX1_timesLength_68 rfl (Nat.le_of_ble_eq_true rfl) (fun v9 σ12 H locs hq hP hD hS => ?_) (fun _ _ _ _ _ _ h => h.elim)
  obtain ⟨hv9, hw⟩ := hq
  subst hv9
  refine W.eq (g2 := F0 m 71 ls []) rfl ?_
  refine W.widen (k := 0) (n := 0) (Nat.le_refl _) (Nat.le_refl _) ?_
  refine lv_lload_n hx hb dX1_timesLength_71 rfl (lv_at hl 1 rfl) ?_
  refine lv_lstore (lv' := [(6, .long p1), (0, .ref (ad 12)), (1, .long p1), (3, .long p2), (5, .int p3)]) hx hb dX1_timesLength_72 hl (by decide) rfl (fun ls hl => ?_)
  refine lv_lload_n hx hb dX1_timesLength_74 rfl (lv_at hl 2 rfl) ?_
  refine lv_ldc2 hx hb hown (hG _ gw411) dX1_timesLength_75 ?_
  refine k_lcmp (v := lg_cmp p1 214497024112901762) hx hb dX1_timesLength_78 rfl ?_
  refine lv_if_ge (tgt := 92) hx hb dX1_timesLength_79 (by decide) (fun k13 => ?_) (fun k13 => ?_)
  · skip
    have hw := hw.1 (lc_ge.mp k13)
    refine lv_ldc2 hx hb hown (hG _ gw413) dX1_timesLength_92 ?_
    refine lv_lstore (lv' := [(8, .long 9223372036854775807), (6, .long p1), (0, .ref (ad 12)), (1, .long p1), (3, .long p2), (5, .int p3)]) hx hb dX1_timesLength_95 hl (by decide) rfl (fun ls hl => ?_)
    refine lv_iconst (v := 0) hx hb dX1_timesLength_97 (by decide) ?_
    refine lv_istore (lv' := [(10, .int 0), (8, .long 9223372036854775807), (6, .long p1), (0, .ref (ad 12)), (1, .long p1), (3, .long p2), (5, .int p3)]) hx hb dX1_timesLength_98 hl (by decide) rfl (fun ls hl => ?_)
    obtain ⟨I14, μ14, hI14, hw14⟩ := hw
    have hl : lv_has ls 13 [(0, .ref (ad 12)), (6, .long p1), (8, .long 9223372036854775807), (10, .int 0)] := lv_sub hl [3, 2, 1, 0] rfl
    suffices key14 : ∀ (n14 : Nat) (i6_14 : Int64) (i8_14 : Int64) (i10_14 : Int32) (σ14 : Sg), μ14 i6_14 i8_14 i10_14 σ14 < n14 → I14 i6_14 i8_14 i10_14 σ14 → ∀ (H : Heap) (locs : List Loc) (ls : Array Slot), va_P D vwCl (WL ad cA σ14) H → va_D A (WL ad cA σ14) → va_S A s.heap H locs → lv_has ls 13 [(0, .ref (ad 12)), (6, .long i6_14), (8, .long i8_14), (10, .int i10_14)] → W p l e (RM 1 0 0 27) s m args below meth c H locs (0) (0) (vx_MQ below (QM D ad cA A (fun v σ' => ∃ r : Int64, v = some (.long r) ∧ Q r σ')) (XM D ad cA A (fun _ _ => False)) args s (RM 1 0 0 27).cells (RM 1 0 0 27).slots A) (F0 m 100 ls []) from key14 _ _ _ _ _ (Nat.lt_succ_self _) hI14 _ _ ls hP hD hS hl
    clear hP hD hS hl
    intro n14
    induction n14 with
    | zero => intro _ _ _ _ h; exact absurd h (Nat.not_lt_zero _)
    | succ n14 ih14 =>
      intro i6_14 i8_14 i10_14 σ14 hm14 hI14 H locs ls hP hD hS hl
      have hw := hw14 i6_14 i8_14 i10_14 σ14 hI14
      refine lv_iload hx hb dX1_timesLength_100 (lv_at hl 3 rfl) ?_
      refine lv_bipush (v := 64) hx hb dX1_timesLength_102 (by decide) ?_
      refine lv_icmp_ge (tgt := 201) hx hb dX1_timesLength_104 (by decide) (fun k15 => ?_) (fun k15 => ?_)
      · skip
        have hw := hw.1 k15
        refine lv_lload hx hb dX1_timesLength_201 (lv_at hl 1 rfl) ?_
        exact vx_ret (m_l ⟨_, rfl, hw⟩ hx hb hr hlocks hP hD hS (Nat.le_of_ble_eq_true rfl) (Nat.le_of_ble_eq_true rfl) dX1_timesLength_203)
      · skip
        have hw := hw.2 k15
        refine lv_lload hx hb dX1_timesLength_107 (lv_at hl 1 rfl) ?_
        refine lv_lload hx hb dX1_timesLength_109 (lv_at hl 2 rfl) ?_
        refine k_lcmp (v := lg_cmp i6_14 i8_14) hx hb dX1_timesLength_111 rfl ?_
        refine lv_if_ge (tgt := 201) hx hb dX1_timesLength_112 (by decide) (fun k16 => ?_) (fun k16 => ?_)
        · skip
          have hw := hw.1 (lc_ge.mp k16)
          refine lv_lload hx hb dX1_timesLength_201 (lv_at hl 1 rfl) ?_
          exact vx_ret (m_l ⟨_, rfl, hw⟩ hx hb hr hlocks hP hD hS (Nat.le_of_ble_eq_true rfl) (Nat.le_of_ble_eq_true rfl) dX1_timesLength_203)
        · skip
          have hw := hw.2 (fun q9 => k16 (lc_ge.mpr q9))
          refine lv_lload hx hb dX1_timesLength_115 (lv_at hl 2 rfl) ?_
          refine lv_lload hx hb dX1_timesLength_117 (lv_at hl 2 rfl) ?_
          refine lv_lload hx hb dX1_timesLength_119 (lv_at hl 1 rfl) ?_
          refine k_lsub (v := i8_14 - i6_14) hx hb dX1_timesLength_121 rfl ?_
          refine lv_ldc2 hx hb hown (hG _ gw414) dX1_timesLength_122 ?_
          refine k_ldiv (v := (i8_14 - i6_14) / 2) hx hb dX1_timesLength_125 (by decide +kernel) rfl ?_
          refine k_lsub (v := i8_14 - ((i8_14 - i6_14) / 2)) hx hb dX1_timesLength_126 rfl ?_
          obtain ⟨v17, ev17⟩ : ∃ z : Int64, z = i8_14 - ((i8_14 - i6_14) / 2) := ⟨_, rfl⟩
          have hw := hw v17 ev17
          refine lv_lstore (lv' := [(11, .long v17), (0, .ref (ad 12)), (6, .long i6_14), (8, .long i8_14), (10, .int i10_14)]) hx hb dX1_timesLength_127 hl (by decide) (by subst ev17; rfl) (fun ls hl => ?_)
          refine lv_aload_n hx hb dX1_timesLength_129 rfl (lv_at hl 1 rfl) ?_
          refine k_get (ci := 3) (C := RX1) (T := TX1) (N := 17) (v := .ref (ad 22)) hx hb hG inX1 hown hK hP 12 wl_12 rfl 12 (by decide) gw154 rfl dX1_timesLength_130 ?_
          refine lv_lload hx hb dX1_timesLength_133 (lv_at hl 0 rfl) ?_
          refine mc_V hSF hl.1 hP hD hS hA hK hGV (m_X5_set_22 l hfl D ad cA g v17 σ14 _ hw) goV_X1_141 pd_X5_set ⟨(Nat.le_of_ble_eq_true rfl), (Nat.le_of_ble_eq_true rfl)⟩ ⟨(Nat.le_of_ble_eq_true rfl), (Nat.le_of_ble_eq_true rfl)⟩ (va_recv hK hP (ci := 7) (q0 := 22) rfl wl_22) dX1_timesLength_135 rfl (Nat.le_of_ble_eq_true rfl) (fun v9 σ19 H locs hq hP hD hS => ?_) (fun _ _ _ _ _ _ h => h.elim)
          obtain ⟨hv9, hw⟩ := hq
          subst hv9
          refine W.eq (g2 := F0 m 138 ls []) rfl ?_
          refine W.widen (k := 0) (n := 0) (Nat.le_refl _) (Nat.le_refl _) ?_
          refine lv_aload_n hx hb dX1_timesLength_138 rfl (lv_at hl 1 rfl) ?_
          refine k_get (ci := 3) (C := RX1) (T := TX1) (N := 17) (v := .ref (ad 26)) hx hb hG inX1 hown hK hP 12 wl_12 rfl 14 (by decide) gw156 rfl dX1_timesLength_139 ?_
          refine lv_aload_n hx hb dX1_timesLength_142 rfl (lv_at hl 1 rfl) ?_
          refine k_get (ci := 3) (C := RX1) (T := TX1) (N := 17) (v := .ref (ad 22)) hx hb hG inX1 hown hK hP 12 wl_12 rfl 12 (by decide) gw154 rfl dX1_timesLength_143 ?_
          refine lv_aload_n hx hb dX1_timesLength_146 rfl (lv_at hl 1 rfl) ?_
          refine k_get (ci := 3) (C := RX1) (T := TX1) (N := 17) (v := .ref (ad 24)) hx hb hG inX1 hown hK hP 12 wl_12 rfl 13 (by decide) gw155 rfl dX1_timesLength_147 ?_
          refine mc_V hSF hl.1 hP hD hS hA hK hGV (m_X5_setProduct_26_22_24 l hfl D ad cA g  σ19 _ hw) goV_X1_154 pd_X5_setProduct ⟨(Nat.le_of_ble_eq_true rfl), (Nat.le_of_ble_eq_true rfl)⟩ ⟨(Nat.le_of_ble_eq_true rfl), (Nat.le_of_ble_eq_true rfl)⟩ (va_recv hK hP (ci := 7) (q0 := 26) rfl wl_26) dX1_timesLength_150 rfl (Nat.le_of_ble_eq_true rfl) (fun v9 σ21 H locs hq hP hD hS => ?_) (fun _ _ _ _ _ _ h => h.elim)
          obtain ⟨hv9, hw⟩ := hq
          subst hv9
          refine W.eq (g2 := F0 m 153 ls []) rfl ?_
          refine W.widen (k := 0) (n := 0) (Nat.le_refl _) (Nat.le_refl _) ?_
          refine lv_aload_n hx hb dX1_timesLength_153 rfl (lv_at hl 1 rfl) ?_
          refine k_get (ci := 3) (C := RX1) (T := TX1) (N := 17) (v := .ref (ad 28)) hx hb hG inX1 hown hK hP 12 wl_12 rfl 15 (by decide) gw157 rfl dX1_timesLength_154 ?_
          refine lv_aload_n hx hb dX1_timesLength_157 rfl (lv_at hl 1 rfl) ?_
          refine k_get (ci := 3) (C := RX1) (T := TX1) (N := 17) (v := .ref (ad 26)) hx hb hG inX1 hown hK hP 12 wl_12 rfl 14 (by decide) gw156 rfl dX1_timesLength_158 ?_
          refine lv_aload_n hx hb dX1_timesLength_161 rfl (lv_at hl 1 rfl) ?_
          refine k_get (ci := 3) (C := RX1) (T := TX1) (N := 17) (v := .ref (ad 26)) hx hb hG inX1 hown hK hP 12 wl_12 rfl 14 (by decide) gw156 rfl dX1_timesLength_162 ?_
          refine mc_V hSF hl.1 hP hD hS hA hK hGV (m_X5_setProduct_28_26_26 l hfl D ad cA g  σ21 _ hw) goV_X1_154 pd_X5_setProduct ⟨(Nat.le_of_ble_eq_true rfl), (Nat.le_of_ble_eq_true rfl)⟩ ⟨(Nat.le_of_ble_eq_true rfl), (Nat.le_of_ble_eq_true rfl)⟩ (va_recv hK hP (ci := 7) (q0 := 28) rfl wl_28) dX1_timesLength_165 rfl (Nat.le_of_ble_eq_true rfl) (fun v9 σ23 H locs hq hP hD hS => ?_) (fun _ _ _ _ _ _ h => h.elim)
          obtain ⟨hv9, hw⟩ := hq
          subst hv9
          refine W.eq (g2 := F0 m 168 ls []) rfl ?_
          refine W.widen (k := 0) (n := 0) (Nat.le_refl _) (Nat.le_refl _) ?_
          refine lv_aload_n hx hb dX1_timesLength_168 rfl (lv_at hl 1 rfl) ?_
          refine k_get (ci := 3) (C := RX1) (T := TX1) (N := 17) (v := .ref (ad 28)) hx hb hG inX1 hown hK hP 12 wl_12 rfl 15 (by decide) gw157 rfl dX1_timesLength_169 ?_
          refine lv_aload_n hx hb dX1_timesLength_172 rfl (lv_at hl 1 rfl) ?_
          refine k_get (ci := 3) (C := RX1) (T := TX1) (N := 17) (v := .ref (ad 30)) hx hb hG inX1 hown hK hP 12 wl_12 rfl 16 (by decide) gw158 rfl dX1_timesLength_173 ?_
          refine mc_V hSF hl.1 hP hD hS hA hK hGV (m_X5_isAtMost_28_30 l hfl D ad cA g  σ23 _ hw) goV_X1_169 pd_X5_isAtMost ⟨(Nat.le_of_ble_eq_true rfl), (Nat.le_of_ble_eq_true rfl)⟩ ⟨(Nat.le_of_ble_eq_true rfl), (Nat.le_of_ble_eq_true rfl)⟩ (va_recv hK hP (ci := 7) (q0 := 28) rfl wl_28) dX1_timesLength_176 rfl (Nat.le_of_ble_eq_true rfl) (fun v9 σ9 H locs hq hP hD hS => ?_) (fun _ _ _ _ _ _ h => h.elim)
          obtain ⟨r24, hv9, hs9, hw⟩ := hq
          subst hv9
          subst σ9
          refine W.eq (g2 := F0 m 179 ls [.int r24]) rfl ?_
          refine W.widen (k := 0) (n := 0) (Nat.le_refl _) (Nat.le_refl _) ?_
          refine lv_if_eq (tgt := 189) hx hb dX1_timesLength_179 (by decide) (fun k25 => ?_) (fun k25 => ?_)
          · skip
            have hw := hw.1 k25
            refine lv_lload hx hb dX1_timesLength_189 (lv_at hl 0 rfl) ?_
            refine lv_lconst (v := 1) hx hb dX1_timesLength_191 (by decide) ?_
            refine k_lsub (v := v17 - 1) hx hb dX1_timesLength_192 rfl ?_
            obtain ⟨v26, ev26⟩ : ∃ z : Int64, z = v17 - 1 := ⟨_, rfl⟩
            have hw := hw v26 ev26
            refine lv_lstore (lv' := [(8, .long v26), (11, .long v17), (0, .ref (ad 12)), (6, .long i6_14), (10, .int i10_14)]) hx hb dX1_timesLength_193 hl (by decide) (by subst ev26; rfl) (fun ls hl => ?_)
            refine lv_iinc (v := i10_14 + 1) (lv' := [(10, .int (i10_14 + 1)), (8, .long v26), (11, .long v17), (0, .ref (ad 12)), (6, .long i6_14)]) hx hb dX1_timesLength_195 hl (k := 4) rfl rfl (by decide) rfl (fun ls hl => ?_)
            refine lv_goto (tgt := 100) hx hb dX1_timesLength_198 (by decide) ?_
            exact ih14 i6_14 v26 (i10_14 + 1) σ23 (Nat.lt_of_lt_of_le hw.2 (Nat.le_of_lt_succ hm14)) hw.1 _ _ ls hP hD hS (lv_sub hl [3, 4, 1, 0] rfl)
          · skip
            have hw := hw.2 k25
            refine lv_lload hx hb dX1_timesLength_182 (lv_at hl 0 rfl) ?_
            refine lv_lstore (lv' := [(6, .long v17), (11, .long v17), (0, .ref (ad 12)), (8, .long i8_14), (10, .int i10_14)]) hx hb dX1_timesLength_184 hl (by decide) rfl (fun ls hl => ?_)
            refine lv_goto (tgt := 195) hx hb dX1_timesLength_186 (by decide) ?_
            refine lv_iinc (v := i10_14 + 1) (lv' := [(10, .int (i10_14 + 1)), (6, .long v17), (11, .long v17), (0, .ref (ad 12)), (8, .long i8_14)]) hx hb dX1_timesLength_195 hl (k := 4) rfl rfl (by decide) rfl (fun ls hl => ?_)
            refine lv_goto (tgt := 100) hx hb dX1_timesLength_198 (by decide) ?_
            exact ih14 v17 i8_14 (i10_14 + 1) σ23 (Nat.lt_of_lt_of_le hw.2 (Nat.le_of_lt_succ hm14)) hw.1 _ _ ls hP hD hS (lv_sub hl [3, 1, 4, 0] rfl)
  · skip
    have hw := hw.2 (fun q9 => k13 (lc_ge.mpr q9))
    refine lv_lload_n hx hb dX1_timesLength_82 rfl (lv_at hl 2 rfl) ?_
    refine lv_lconst (v := 1) hx hb dX1_timesLength_83 (by decide) ?_
    refine k_ladd (v := p1 + 1) hx hb dX1_timesLength_84 rfl ?_
    refine lv_ldc2 hx hb hown (hG _ gw412) dX1_timesLength_85 ?_
    refine k_lmul (v := (p1 + 1) * 43) hx hb dX1_timesLength_88 rfl ?_
    refine lv_goto (tgt := 95) hx hb dX1_timesLength_89 (by decide) ?_
    obtain ⟨v27, ev27⟩ : ∃ z : Int64, z = (p1 + 1) * 43 := ⟨_, rfl⟩
    have hw := hw v27 ev27
    refine lv_lstore (lv' := [(8, .long v27), (6, .long p1), (0, .ref (ad 12)), (1, .long p1), (3, .long p2), (5, .int p3)]) hx hb dX1_timesLength_95 hl (by decide) (by subst ev27; rfl) (fun ls hl => ?_)
    refine lv_iconst (v := 0) hx hb dX1_timesLength_97 (by decide) ?_
    refine lv_istore (lv' := [(10, .int 0), (8, .long v27), (6, .long p1), (0, .ref (ad 12)), (1, .long p1), (3, .long p2), (5, .int p3)]) hx hb dX1_timesLength_98 hl (by decide) rfl (fun ls hl => ?_)
    obtain ⟨I28, μ28, hI28, hw28⟩ := hw
    have hl : lv_has ls 13 [(0, .ref (ad 12)), (6, .long p1), (8, .long v27), (10, .int 0)] := lv_sub hl [3, 2, 1, 0] rfl
    suffices key28 : ∀ (n28 : Nat) (i6_28 : Int64) (i8_28 : Int64) (i10_28 : Int32) (σ28 : Sg), μ28 i6_28 i8_28 i10_28 σ28 < n28 → I28 i6_28 i8_28 i10_28 σ28 → ∀ (H : Heap) (locs : List Loc) (ls : Array Slot), va_P D vwCl (WL ad cA σ28) H → va_D A (WL ad cA σ28) → va_S A s.heap H locs → lv_has ls 13 [(0, .ref (ad 12)), (6, .long i6_28), (8, .long i8_28), (10, .int i10_28)] → W p l e (RM 1 0 0 27) s m args below meth c H locs (0) (0) (vx_MQ below (QM D ad cA A (fun v σ' => ∃ r : Int64, v = some (.long r) ∧ Q r σ')) (XM D ad cA A (fun _ _ => False)) args s (RM 1 0 0 27).cells (RM 1 0 0 27).slots A) (F0 m 100 ls []) from key28 _ _ _ _ _ (Nat.lt_succ_self _) hI28 _ _ ls hP hD hS hl
    clear hP hD hS hl
    intro n28
    induction n28 with
    | zero => intro _ _ _ _ h; exact absurd h (Nat.not_lt_zero _)
    | succ n28 ih28 =>
      intro i6_28 i8_28 i10_28 σ28 hm28 hI28 H locs ls hP hD hS hl
      have hw := hw28 i6_28 i8_28 i10_28 σ28 hI28
      refine lv_iload hx hb dX1_timesLength_100 (lv_at hl 3 rfl) ?_
      refine lv_bipush (v := 64) hx hb dX1_timesLength_102 (by decide) ?_
      refine lv_icmp_ge (tgt := 201) hx hb dX1_timesLength_104 (by decide) (fun k29 => ?_) (fun k29 => ?_)
      · skip
        have hw := hw.1 k29
        refine lv_lload hx hb dX1_timesLength_201 (lv_at hl 1 rfl) ?_
        exact vx_ret (m_l ⟨_, rfl, hw⟩ hx hb hr hlocks hP hD hS (Nat.le_of_ble_eq_true rfl) (Nat.le_of_ble_eq_true rfl) dX1_timesLength_203)
      · skip
        have hw := hw.2 k29
        refine lv_lload hx hb dX1_timesLength_107 (lv_at hl 1 rfl) ?_
        refine lv_lload hx hb dX1_timesLength_109 (lv_at hl 2 rfl) ?_
        refine k_lcmp (v := lg_cmp i6_28 i8_28) hx hb dX1_timesLength_111 rfl ?_
        refine lv_if_ge (tgt := 201) hx hb dX1_timesLength_112 (by decide) (fun k30 => ?_) (fun k30 => ?_)
        · skip
          have hw := hw.1 (lc_ge.mp k30)
          refine lv_lload hx hb dX1_timesLength_201 (lv_at hl 1 rfl) ?_
          exact vx_ret (m_l ⟨_, rfl, hw⟩ hx hb hr hlocks hP hD hS (Nat.le_of_ble_eq_true rfl) (Nat.le_of_ble_eq_true rfl) dX1_timesLength_203)
        · skip
          have hw := hw.2 (fun q9 => k30 (lc_ge.mpr q9))
          refine lv_lload hx hb dX1_timesLength_115 (lv_at hl 2 rfl) ?_
          refine lv_lload hx hb dX1_timesLength_117 (lv_at hl 2 rfl) ?_
          refine lv_lload hx hb dX1_timesLength_119 (lv_at hl 1 rfl) ?_
          refine k_lsub (v := i8_28 - i6_28) hx hb dX1_timesLength_121 rfl ?_
          refine lv_ldc2 hx hb hown (hG _ gw414) dX1_timesLength_122 ?_
          refine k_ldiv (v := (i8_28 - i6_28) / 2) hx hb dX1_timesLength_125 (by decide +kernel) rfl ?_
          refine k_lsub (v := i8_28 - ((i8_28 - i6_28) / 2)) hx hb dX1_timesLength_126 rfl ?_
          obtain ⟨v31, ev31⟩ : ∃ z : Int64, z = i8_28 - ((i8_28 - i6_28) / 2) := ⟨_, rfl⟩
          have hw := hw v31 ev31
          refine lv_lstore (lv' := [(11, .long v31), (0, .ref (ad 12)), (6, .long i6_28), (8, .long i8_28), (10, .int i10_28)]) hx hb dX1_timesLength_127 hl (by decide) (by subst ev31; rfl) (fun ls hl => ?_)
          refine lv_aload_n hx hb dX1_timesLength_129 rfl (lv_at hl 1 rfl) ?_
          refine k_get (ci := 3) (C := RX1) (T := TX1) (N := 17) (v := .ref (ad 22)) hx hb hG inX1 hown hK hP 12 wl_12 rfl 12 (by decide) gw154 rfl dX1_timesLength_130 ?_
          refine lv_lload hx hb dX1_timesLength_133 (lv_at hl 0 rfl) ?_
          refine mc_V hSF hl.1 hP hD hS hA hK hGV (m_X5_set_22 l hfl D ad cA g v31 σ28 _ hw) goV_X1_141 pd_X5_set ⟨(Nat.le_of_ble_eq_true rfl), (Nat.le_of_ble_eq_true rfl)⟩ ⟨(Nat.le_of_ble_eq_true rfl), (Nat.le_of_ble_eq_true rfl)⟩ (va_recv hK hP (ci := 7) (q0 := 22) rfl wl_22) dX1_timesLength_135 rfl (Nat.le_of_ble_eq_true rfl) (fun v9 σ33 H locs hq hP hD hS => ?_) (fun _ _ _ _ _ _ h => h.elim)
          obtain ⟨hv9, hw⟩ := hq
          subst hv9
          refine W.eq (g2 := F0 m 138 ls []) rfl ?_
          refine W.widen (k := 0) (n := 0) (Nat.le_refl _) (Nat.le_refl _) ?_
          refine lv_aload_n hx hb dX1_timesLength_138 rfl (lv_at hl 1 rfl) ?_
          refine k_get (ci := 3) (C := RX1) (T := TX1) (N := 17) (v := .ref (ad 26)) hx hb hG inX1 hown hK hP 12 wl_12 rfl 14 (by decide) gw156 rfl dX1_timesLength_139 ?_
          refine lv_aload_n hx hb dX1_timesLength_142 rfl (lv_at hl 1 rfl) ?_
          refine k_get (ci := 3) (C := RX1) (T := TX1) (N := 17) (v := .ref (ad 22)) hx hb hG inX1 hown hK hP 12 wl_12 rfl 12 (by decide) gw154 rfl dX1_timesLength_143 ?_
          refine lv_aload_n hx hb dX1_timesLength_146 rfl (lv_at hl 1 rfl) ?_
          refine k_get (ci := 3) (C := RX1) (T := TX1) (N := 17) (v := .ref (ad 24)) hx hb hG inX1 hown hK hP 12 wl_12 rfl 13 (by decide) gw155 rfl dX1_timesLength_147 ?_
          refine mc_V hSF hl.1 hP hD hS hA hK hGV (m_X5_setProduct_26_22_24 l hfl D ad cA g  σ33 _ hw) goV_X1_154 pd_X5_setProduct ⟨(Nat.le_of_ble_eq_true rfl), (Nat.le_of_ble_eq_true rfl)⟩ ⟨(Nat.le_of_ble_eq_true rfl), (Nat.le_of_ble_eq_true rfl)⟩ (va_recv hK hP (ci := 7) (q0 := 26) rfl wl_26) dX1_timesLength_150 rfl (Nat.le_of_ble_eq_true rfl) (fun v9 σ35 H locs hq hP hD hS => ?_) (fun _ _ _ _ _ _ h => h.elim)
          obtain ⟨hv9, hw⟩ := hq
          subst hv9
          refine W.eq (g2 := F0 m 153 ls []) rfl ?_
          refine W.widen (k := 0) (n := 0) (Nat.le_refl _) (Nat.le_refl _) ?_
          refine lv_aload_n hx hb dX1_timesLength_153 rfl (lv_at hl 1 rfl) ?_
          refine k_get (ci := 3) (C := RX1) (T := TX1) (N := 17) (v := .ref (ad 28)) hx hb hG inX1 hown hK hP 12 wl_12 rfl 15 (by decide) gw157 rfl dX1_timesLength_154 ?_
          refine lv_aload_n hx hb dX1_timesLength_157 rfl (lv_at hl 1 rfl) ?_
          refine k_get (ci := 3) (C := RX1) (T := TX1) (N := 17) (v := .ref (ad 26)) hx hb hG inX1 hown hK hP 12 wl_12 rfl 14 (by decide) gw156 rfl dX1_timesLength_158 ?_
          refine lv_aload_n hx hb dX1_timesLength_161 rfl (lv_at hl 1 rfl) ?_
          refine k_get (ci := 3) (C := RX1) (T := TX1) (N := 17) (v := .ref (ad 26)) hx hb hG inX1 hown hK hP 12 wl_12 rfl 14 (by decide) gw156 rfl dX1_timesLength_162 ?_
          refine mc_V hSF hl.1 hP hD hS hA hK hGV (m_X5_setProduct_28_26_26 l hfl D ad cA g  σ35 _ hw) goV_X1_154 pd_X5_setProduct ⟨(Nat.le_of_ble_eq_true rfl), (Nat.le_of_ble_eq_true rfl)⟩ ⟨(Nat.le_of_ble_eq_true rfl), (Nat.le_of_ble_eq_true rfl)⟩ (va_recv hK hP (ci := 7) (q0 := 28) rfl wl_28) dX1_timesLength_165 rfl (Nat.le_of_ble_eq_true rfl) (fun v9 σ37 H locs hq hP hD hS => ?_) (fun _ _ _ _ _ _ h => h.elim)
          obtain ⟨hv9, hw⟩ := hq
          subst hv9
          refine W.eq (g2 := F0 m 168 ls []) rfl ?_
          refine W.widen (k := 0) (n := 0) (Nat.le_refl _) (Nat.le_refl _) ?_
          refine lv_aload_n hx hb dX1_timesLength_168 rfl (lv_at hl 1 rfl) ?_
          refine k_get (ci := 3) (C := RX1) (T := TX1) (N := 17) (v := .ref (ad 28)) hx hb hG inX1 hown hK hP 12 wl_12 rfl 15 (by decide) gw157 rfl dX1_timesLength_169 ?_
          refine lv_aload_n hx hb dX1_timesLength_172 rfl (lv_at hl 1 rfl) ?_
          refine k_get (ci := 3) (C := RX1) (T := TX1) (N := 17) (v := .ref (ad 30)) hx hb hG inX1 hown hK hP 12 wl_12 rfl 16 (by decide) gw158 rfl dX1_timesLength_173 ?_
          refine mc_V hSF hl.1 hP hD hS hA hK hGV (m_X5_isAtMost_28_30 l hfl D ad cA g  σ37 _ hw) goV_X1_169 pd_X5_isAtMost ⟨(Nat.le_of_ble_eq_true rfl), (Nat.le_of_ble_eq_true rfl)⟩ ⟨(Nat.le_of_ble_eq_true rfl), (Nat.le_of_ble_eq_true rfl)⟩ (va_recv hK hP (ci := 7) (q0 := 28) rfl wl_28) dX1_timesLength_176 rfl (Nat.le_of_ble_eq_true rfl) (fun v9 σ9 H locs hq hP hD hS => ?_) (fun _ _ _ _ _ _ h => h.elim)
          obtain ⟨r38, hv9, hs9, hw⟩ := hq
          subst hv9
          subst σ9
          refine W.eq (g2 := F0 m 179 ls [.int r38]) rfl ?_
          refine W.widen (k := 0) (n := 0) (Nat.le_refl _) (Nat.le_refl _) ?_
          refine lv_if_eq (tgt := 189) hx hb dX1_timesLength_179 (by decide) (fun k39 => ?_) (fun k39 => ?_)
          · skip
            have hw := hw.1 k39
            refine lv_lload hx hb dX1_timesLength_189 (lv_at hl 0 rfl) ?_
            refine lv_lconst (v := 1) hx hb dX1_timesLength_191 (by decide) ?_
            refine k_lsub (v := v31 - 1) hx hb dX1_timesLength_192 rfl ?_
            obtain ⟨v40, ev40⟩ : ∃ z : Int64, z = v31 - 1 := ⟨_, rfl⟩
            have hw := hw v40 ev40
            refine lv_lstore (lv' := [(8, .long v40), (11, .long v31), (0, .ref (ad 12)), (6, .long i6_28), (10, .int i10_28)]) hx hb dX1_timesLength_193 hl (by decide) (by subst ev40; rfl) (fun ls hl => ?_)
            refine lv_iinc (v := i10_28 + 1) (lv' := [(10, .int (i10_28 + 1)), (8, .long v40), (11, .long v31), (0, .ref (ad 12)), (6, .long i6_28)]) hx hb dX1_timesLength_195 hl (k := 4) rfl rfl (by decide) rfl (fun ls hl => ?_)
            refine lv_goto (tgt := 100) hx hb dX1_timesLength_198 (by decide) ?_
            exact ih28 i6_28 v40 (i10_28 + 1) σ37 (Nat.lt_of_lt_of_le hw.2 (Nat.le_of_lt_succ hm28)) hw.1 _ _ ls hP hD hS (lv_sub hl [3, 4, 1, 0] rfl)
          · skip
            have hw := hw.2 k39
            refine lv_lload hx hb dX1_timesLength_182 (lv_at hl 0 rfl) ?_
            refine lv_lstore (lv' := [(6, .long v31), (11, .long v31), (0, .ref (ad 12)), (8, .long i8_28), (10, .int i10_28)]) hx hb dX1_timesLength_184 hl (by decide) rfl (fun ls hl => ?_)
            refine lv_goto (tgt := 195) hx hb dX1_timesLength_186 (by decide) ?_
            refine lv_iinc (v := i10_28 + 1) (lv' := [(10, .int (i10_28 + 1)), (6, .long v31), (11, .long v31), (0, .ref (ad 12)), (8, .long i8_28)]) hx hb dX1_timesLength_195 hl (k := 4) rfl rfl (by decide) rfl (fun ls hl => ?_)
            refine lv_goto (tgt := 100) hx hb dX1_timesLength_198 (by decide) ?_
            exact ih28 v31 i8_28 (i10_28 + 1) σ37 (Nat.lt_of_lt_of_le hw.2 (Nat.le_of_lt_succ hm28)) hw.1 _ _ ls hP hD hS (lv_sub hl [3, 1, 4, 0] rfl)

set_option maxHeartbeats 4000000 in
set_option maxRecDepth 100000 in
theorem m_X1_findAmounts (l : Launch) (hfl : l.stackTraces = false) (D : va_G) (ad : Nat → Nat) (cA : Nat → ClassId) (g : gv_T) (σ : Sg) (Q : Sg → Prop) (hw : w_X1_findAmounts  σ Q) : MC l yX1_findAmounts cX1_findAmounts 8 none (RM 2 0 0 59) D ad cA g [.ref (ad 12), .ref (ad 1)] σ (fun v σ' => v = none ∧ Q σ') (fun _ _ => False) := by
  refine MC.of (plainFor_of_name (by decide +kernel)) (Nat.le_of_ble_eq_true rfl) ?_
  intro p e s m args below meth c A ls hx hb hr hml hown hG hlocks htab hA hS hP hK hD hGV hl
  have hown : s.vm.findClass RX1 = some m.cls := hown
  have hl : lv_has ls 8 [(0, .ref (ad 12)), (1, .ref (ad 1))] := hl
  have hSF : CF p m c cX1_findAmounts 8 s args RX1 := ⟨hx, hb, hml, hown, hG⟩
  refine lv_aload_n hx hb dX1_findAmounts_0 rfl (lv_at hl 0 rfl) ?_
  refine k_get (ci := 3) (C := RX1) (T := TX1) (N := 17) (v := .ref (ad 24)) hx hb hG inX1 hown hK hP 12 wl_12 rfl 13 (by decide) gw155 rfl dX1_findAmounts_1 ?_
  refine lv_aload_n hx hb dX1_findAmounts_4 rfl (lv_at hl 0 rfl) ?_
  refine k_get (ci := 3) (C := RX1) (T := TX1) (N := 17) (v := .long (gL σ 0)) hx hb hG inX1 hown hK hP 12 wl_12 rfl 2 (by decide) gw143 rfl dX1_findAmounts_5 ?_
  refine mc_V hSF hl.1 hP hD hS hA hK hGV (m_X5_set_24 l hfl D ad cA g (gL σ 0) σ _ hw) goV_X1_141 pd_X5_set ⟨(Nat.le_of_ble_eq_true rfl), (Nat.le_of_ble_eq_true rfl)⟩ ⟨(Nat.le_of_ble_eq_true rfl), (Nat.le_of_ble_eq_true rfl)⟩ (va_recv hK hP (ci := 7) (q0 := 24) rfl wl_24) dX1_findAmounts_8 rfl (Nat.le_of_ble_eq_true rfl) (fun v9 σ2 H locs hq hP hD hS => ?_) (fun _ _ _ _ _ _ h => h.elim)
  obtain ⟨hv9, hw⟩ := hq
  subst hv9
  refine W.eq (g2 := F0 m 11 ls []) rfl ?_
  refine W.widen (k := 0) (n := 0) (Nat.le_refl _) (Nat.le_refl _) ?_
  refine lv_iconst (v := 0) hx hb dX1_findAmounts_11 (by decide) ?_
  refine lv_istore_n (lv' := [(2, .int 0), (0, .ref (ad 12)), (1, .ref (ad 1))]) hx hb dX1_findAmounts_12 rfl hl (by decide) rfl (fun ls hl => ?_)
  obtain ⟨I3, μ3, hI3, hw3⟩ := hw
  have hl : lv_has ls 8 [(0, .ref (ad 12)), (1, .ref (ad 1)), (2, .int 0)] := lv_sub hl [1, 2, 0] rfl
  suffices key3 : ∀ (n3 : Nat) (i2_3 : Int32) (σ3 : Sg), μ3 i2_3 σ3 < n3 → I3 i2_3 σ3 → ∀ (H : Heap) (locs : List Loc) (ls : Array Slot), va_P D vwCl (WL ad cA σ3) H → va_D A (WL ad cA σ3) → va_S A s.heap H locs → lv_has ls 8 [(0, .ref (ad 12)), (1, .ref (ad 1)), (2, .int i2_3)] → W p l e (RM 2 0 0 59) s m args below meth c H locs (0) (0) (vx_MQ below (QM D ad cA A (fun v σ' => v = none ∧ Q σ')) (XM D ad cA A (fun _ _ => False)) args s (RM 2 0 0 59).cells (RM 2 0 0 59).slots A) (F0 m 13 ls []) from key3 _ _ _ (Nat.lt_succ_self _) hI3 _ _ ls hP hD hS hl
  clear hP hD hS hl
  intro n3
  induction n3 with
  | zero => intro _ _ h; exact absurd h (Nat.not_lt_zero _)
  | succ n3 ih3 =>
    intro i2_3 σ3 hm3 hI3 H locs ls hP hD hS hl
    have hw := hw3 i2_3 σ3 hI3
    refine lv_iload_n hx hb dX1_findAmounts_13 rfl (lv_at hl 2 rfl) ?_
    refine lv_aload_n hx hb dX1_findAmounts_14 rfl (lv_at hl 1 rfl) ?_
    refine k_get (ci := 4) (C := RX2) (T := TX2) (N := 12) (v := .int (gI σ3 1)) hx hb hG inX2 hown hK hP 1 wl_1 rfl 1 (by decide) gw75 rfl dX1_findAmounts_15 ?_
    refine lv_icmp_ge (tgt := 98) hx hb dX1_findAmounts_18 (by decide) (fun k4 => ?_) (fun k4 => ?_)
    · skip
      have hw := hw.1 k4
      exact vx_ret (m_v ⟨rfl, hw⟩ hx hb hr hlocks hP hD hS (Nat.le_of_ble_eq_true rfl) (Nat.le_of_ble_eq_true rfl) dX1_findAmounts_98)
    · skip
      have hw := hw.2 k4
      refine lv_aload_n hx hb dX1_findAmounts_21 rfl (lv_at hl 0 rfl) ?_
      refine k_get (ci := 3) (C := RX1) (T := TX1) (N := 17) (v := .ref (ad 13)) hx hb hG inX1 hown hK hP 12 wl_12 rfl 3 (by decide) gw144 rfl dX1_findAmounts_22 ?_
      refine lv_iload_n hx hb dX1_findAmounts_25 rfl (lv_at hl 2 rfl) ?_
      obtain ⟨hc5, hw⟩ := hw
      refine k_lald (v := gB σ3 0 (ix i2_3)) hx hb hK hP 13 wl_13 (ix i2_3) rfl rfl hc5 dX1_findAmounts_26 ?_
      obtain ⟨v6, ev6⟩ : ∃ z : Int64, z = gB σ3 0 (ix i2_3) := ⟨_, rfl⟩
      have hw := hw v6 ev6
      refine lv_lstore_n (lv' := [(3, .long v6), (0, .ref (ad 12)), (1, .ref (ad 1)), (2, .int i2_3)]) hx hb dX1_findAmounts_27 rfl hl (by decide) (by subst ev6; rfl) (fun ls hl => ?_)
      refine lv_aload_n hx hb dX1_findAmounts_28 rfl (lv_at hl 1 rfl) ?_
      refine k_get (ci := 3) (C := RX1) (T := TX1) (N := 17) (v := .ref (ad 14)) hx hb hG inX1 hown hK hP 12 wl_12 rfl 4 (by decide) gw145 rfl dX1_findAmounts_29 ?_
      refine lv_iload_n hx hb dX1_findAmounts_32 rfl (lv_at hl 3 rfl) ?_
      obtain ⟨hc7, hw⟩ := hw
      refine k_lald (v := gB σ3 1 (ix i2_3)) hx hb hK hP 14 wl_14 (ix i2_3) rfl rfl hc7 dX1_findAmounts_33 ?_
      obtain ⟨v8, ev8⟩ : ∃ z : Int64, z = gB σ3 1 (ix i2_3) := ⟨_, rfl⟩
      have hw := hw v8 ev8
      refine lv_lstore (lv' := [(5, .long v8), (3, .long v6), (0, .ref (ad 12)), (1, .ref (ad 1)), (2, .int i2_3)]) hx hb dX1_findAmounts_34 hl (by decide) (by subst ev8; rfl) (fun ls hl => ?_)
      refine lv_aload_n hx hb dX1_findAmounts_36 rfl (lv_at hl 3 rfl) ?_
      refine lv_iload_n hx hb dX1_findAmounts_37 rfl (lv_at hl 4 rfl) ?_
      refine mc_V hSF hl.1 hP hD hS hA hK hGV (m_X2_lengthSquare l hfl D ad cA g i2_3 σ3 _ hw) goV_X1_145 pd_X2_lengthSquare ⟨(Nat.le_of_ble_eq_true rfl), (Nat.le_of_ble_eq_true rfl)⟩ ⟨(Nat.le_of_ble_eq_true rfl), (Nat.le_of_ble_eq_true rfl)⟩ (va_recv hK hP (ci := 4) (q0 := 1) rfl wl_1) dX1_findAmounts_38 rfl (Nat.le_of_ble_eq_true rfl) (fun v9 σ9 H locs hq hP hD hS => ?_) (fun _ _ _ _ _ _ h => h.elim)
      obtain ⟨r9, hv9, hs9, hw⟩ := hq
      subst hv9
      subst σ9
      refine W.eq (g2 := F0 m 41 ls [.int r9]) rfl ?_
      refine W.widen (k := 0) (n := 0) (Nat.le_refl _) (Nat.le_refl _) ?_
      refine lv_istore (lv' := [(7, .int r9), (5, .long v8), (3, .long v6), (0, .ref (ad 12)), (1, .ref (ad 1)), (2, .int i2_3)]) hx hb dX1_findAmounts_41 hl (by decide) rfl (fun ls hl => ?_)
      refine lv_lload_n hx hb dX1_findAmounts_43 rfl (lv_at hl 2 rfl) ?_
      refine lv_lconst (v := 0) hx hb dX1_findAmounts_44 (by decide) ?_
      refine k_lcmp (v := lg_cmp v6 0) hx hb dX1_findAmounts_45 rfl ?_
      refine lv_if_ge (tgt := 77) hx hb dX1_findAmounts_46 (by decide) (fun k10 => ?_) (fun k10 => ?_)
      · skip
        have hw := hw.1 (lc_ge.mp k10)
        refine lv_aload_n hx hb dX1_findAmounts_77 rfl (lv_at hl 3 rfl) ?_
        refine k_get (ci := 3) (C := RX1) (T := TX1) (N := 17) (v := .ref (ad 15)) hx hb hG inX1 hown hK hP 12 wl_12 rfl 5 (by decide) gw146 rfl dX1_findAmounts_78 ?_
        refine lv_iload_n hx hb dX1_findAmounts_81 rfl (lv_at hl 5 rfl) ?_
        refine lv_aload_n hx hb dX1_findAmounts_82 rfl (lv_at hl 3 rfl) ?_
        refine lv_lload_n hx hb dX1_findAmounts_83 rfl (lv_at hl 2 rfl) ?_
        refine lv_lload hx hb dX1_findAmounts_84 (lv_at hl 1 rfl) ?_
        refine lv_iload hx hb dX1_findAmounts_86 (lv_at hl 0 rfl) ?_
        refine mc_V hSF hl.1 hP hD hS hA hK hGV (m_X1_timesLength l hfl D ad cA g v6 v8 r9 σ3 _ hw) goV_X1_150 pd_X1_timesLength ⟨(Nat.le_of_ble_eq_true rfl), (Nat.le_of_ble_eq_true rfl)⟩ ⟨(Nat.le_of_ble_eq_true rfl), (Nat.le_of_ble_eq_true rfl)⟩ (va_recv hK hP (ci := 3) (q0 := 12) rfl wl_12) dX1_findAmounts_88 rfl (Nat.le_of_ble_eq_true rfl) (fun v9 σ12 H locs hq hP hD hS => ?_) (fun _ _ _ _ _ _ h => h.elim)
        obtain ⟨r11, hv9, hw⟩ := hq
        subst hv9
        refine W.eq (g2 := F0 m 91 ls [.long r11, .int i2_3, .ref (ad 15)]) rfl ?_
        refine W.widen (k := 0) (n := 0) (Nat.le_refl _) (Nat.le_refl _) ?_
        obtain ⟨hc13, hw⟩ := hw
        obtain ⟨σ14, eσ14⟩ : ∃ z : Sg, z = sB σ12 2 (ix i2_3) r11 := ⟨_, rfl⟩
        have hw := hw σ14 eσ14
        refine k_last (ws1 := WL ad cA σ14) hx hb hK hP hD hS 15 wl_15 (ws_15 eσ14) hc13 dX1_findAmounts_91 (fun H locs hP hD hS => ?_)
        refine lv_iinc (v := i2_3 + 1) (lv' := [(2, .int (i2_3 + 1)), (7, .int r9), (5, .long v8), (3, .long v6), (0, .ref (ad 12)), (1, .ref (ad 1))]) hx hb dX1_findAmounts_92 hl (k := 5) rfl rfl (by decide) rfl (fun ls hl => ?_)
        refine lv_goto (tgt := 13) hx hb dX1_findAmounts_95 (by decide) ?_
        exact ih3 (i2_3 + 1) σ14 (Nat.lt_of_lt_of_le hw.2 (Nat.le_of_lt_succ hm3)) hw.1 _ _ ls hP hD hS (lv_sub hl [4, 5, 0] rfl)
      · skip
        have hw := hw.2 (fun q9 => k10 (lc_ge.mpr q9))
        refine lv_aload_n hx hb dX1_findAmounts_49 rfl (lv_at hl 3 rfl) ?_
        refine k_get (ci := 3) (C := RX1) (T := TX1) (N := 17) (v := .ref (ad 15)) hx hb hG inX1 hown hK hP 12 wl_12 rfl 5 (by decide) gw146 rfl dX1_findAmounts_50 ?_
        refine lv_iload_n hx hb dX1_findAmounts_53 rfl (lv_at hl 5 rfl) ?_
        refine lv_aload_n hx hb dX1_findAmounts_54 rfl (lv_at hl 3 rfl) ?_
        refine lv_ldc2 hx hb hown (hG _ gw398) dX1_findAmounts_55 ?_
        refine lv_lload_n hx hb dX1_findAmounts_58 rfl (lv_at hl 2 rfl) ?_
        refine k_lsub (v := (-1) - v6) hx hb dX1_findAmounts_59 rfl ?_
        refine lv_aload_n hx hb dX1_findAmounts_60 rfl (lv_at hl 3 rfl) ?_
        refine k_get (ci := 3) (C := RX1) (T := TX1) (N := 17) (v := .long (gL σ3 0)) hx hb hG inX1 hown hK hP 12 wl_12 rfl 2 (by decide) gw143 rfl dX1_findAmounts_61 ?_
        refine lv_lload hx hb dX1_findAmounts_64 (lv_at hl 1 rfl) ?_
        refine k_lsub (v := (gL σ3 0) - v8) hx hb dX1_findAmounts_66 rfl ?_
        refine lv_iload hx hb dX1_findAmounts_67 (lv_at hl 0 rfl) ?_
        refine mc_V hSF hl.1 hP hD hS hA hK hGV (m_X1_timesLength l hfl D ad cA g ((-1) - v6) ((gL σ3 0) - v8) r9 σ3 _ hw) goV_X1_150 pd_X1_timesLength ⟨(Nat.le_of_ble_eq_true rfl), (Nat.le_of_ble_eq_true rfl)⟩ ⟨(Nat.le_of_ble_eq_true rfl), (Nat.le_of_ble_eq_true rfl)⟩ (va_recv hK hP (ci := 3) (q0 := 12) rfl wl_12) dX1_findAmounts_69 rfl (Nat.le_of_ble_eq_true rfl) (fun v9 σ16 H locs hq hP hD hS => ?_) (fun _ _ _ _ _ _ h => h.elim)
        obtain ⟨r15, hv9, hw⟩ := hq
        subst hv9
        refine W.eq (g2 := F0 m 72 ls [.long r15, .int i2_3, .ref (ad 15)]) rfl ?_
        refine W.widen (k := 0) (n := 0) (Nat.le_refl _) (Nat.le_refl _) ?_
        refine lv_lneg hx hb dX1_findAmounts_72 ?_
        obtain ⟨hc17, hw⟩ := hw
        obtain ⟨σ18, eσ18⟩ : ∃ z : Sg, z = sB σ16 2 (ix i2_3) (-r15) := ⟨_, rfl⟩
        have hw := hw σ18 eσ18
        refine k_last (ws1 := WL ad cA σ18) hx hb hK hP hD hS 15 wl_15 (ws_15 eσ18) hc17 dX1_findAmounts_73 (fun H locs hP hD hS => ?_)
        refine lv_goto (tgt := 92) hx hb dX1_findAmounts_74 (by decide) ?_
        refine lv_iinc (v := i2_3 + 1) (lv' := [(2, .int (i2_3 + 1)), (7, .int r9), (5, .long v8), (3, .long v6), (0, .ref (ad 12)), (1, .ref (ad 1))]) hx hb dX1_findAmounts_92 hl (k := 5) rfl rfl (by decide) rfl (fun ls hl => ?_)
        refine lv_goto (tgt := 13) hx hb dX1_findAmounts_95 (by decide) ?_
        exact ih3 (i2_3 + 1) σ18 (Nat.lt_of_lt_of_le hw.2 (Nat.le_of_lt_succ hm3)) hw.1 _ _ ls hP hD hS (lv_sub hl [4, 5, 0] rfl)

set_option maxHeartbeats 4000000 in
set_option maxRecDepth 100000 in
theorem m_X1_find (l : Launch) (hfl : l.stackTraces = false) (D : va_G) (ad : Nat → Nat) (cA : Nat → ClassId) (g : gv_T) (σ : Sg) (Q : Sg → Prop) (hw : w_X1_find  σ Q) : MC l yX1_find cX1_find 2 none (RM 4 0 0 99) D ad cA g [.ref (ad 12), .ref (ad 1)] σ (fun v σ' => v = none ∧ Q σ') (fun _ _ => False) := by
  refine MC.of (plainFor_of_name (by decide +kernel)) (Nat.le_of_ble_eq_true rfl) ?_
  intro p e s m args below meth c A ls hx hb hr hml hown hG hlocks htab hA hS hP hK hD hGV hl
  have hown : s.vm.findClass RX1 = some m.cls := hown
  have hl : lv_has ls 2 [(0, .ref (ad 12)), (1, .ref (ad 1))] := hl
  have hSF : CF p m c cX1_find 2 s args RX1 := ⟨hx, hb, hml, hown, hG⟩
  refine lv_aload_n hx hb dX1_find_0 rfl (lv_at hl 0 rfl) ?_
  refine k_get (ci := 3) (C := RX1) (T := TX1) (N := 17) (v := .int (gI σ 2)) hx hb hG inX1 hown hK hP 12 wl_12 rfl 0 (by decide) gw140 rfl dX1_find_1 ?_
  refine lv_if_eq (tgt := 8) hx hb dX1_find_4 (by decide) (fun k1 => ?_) (fun k1 => ?_)
  · skip
    have hw := hw.1 k1
    refine lv_aload_n hx hb dX1_find_8 rfl (lv_at hl 0 rfl) ?_
    refine lv_aload_n hx hb dX1_find_9 rfl (lv_at hl 0 rfl) ?_
    refine lv_aload_n hx hb dX1_find_10 rfl (lv_at hl 1 rfl) ?_
    refine mc_V hSF hl.1 hP hD hS hA hK hGV (m_X1_findPulls l hfl D ad cA g  σ _ hw) goV_X1_63 pd_X1_findPulls ⟨(Nat.le_of_ble_eq_true rfl), (Nat.le_of_ble_eq_true rfl)⟩ ⟨(Nat.le_of_ble_eq_true rfl), (Nat.le_of_ble_eq_true rfl)⟩ (va_recv hK hP (ci := 3) (q0 := 12) rfl wl_12) dX1_find_11 rfl (Nat.le_of_ble_eq_true rfl) (fun v9 σ3 H locs hq hP hD hS => ?_) (fun _ _ _ _ _ _ h => h.elim)
    obtain ⟨r2, hv9, hw⟩ := hq
    subst hv9
    refine W.eq (g2 := F0 m 14 ls [.int r2, .ref (ad 12)]) rfl ?_
    refine W.widen (k := 0) (n := 0) (Nat.le_refl _) (Nat.le_refl _) ?_
    obtain ⟨hc4, hw⟩ := hw
    obtain ⟨σ5, eσ5⟩ : ∃ z : Sg, z = sI σ3 3 r2 := ⟨_, rfl⟩
    have hw := hw σ5 eσ5
    refine k_put (ci := 3) (C := RX1) (T := TX1) (N := 17) (v := .int r2) (ws1 := WL ad cA σ5) hx hb hG inX1 tyX1 tyX1_ok nmX1 hown hK hP hD hS 12 wl_12 rfl 1 (by decide) gw141 rfl ⟨hc4, fit_char hc4⟩ (ws_12_1 eσ5) (Nat.le_of_ble_eq_true rfl) dX1_find_14 (fun H locs hP hD hS => ?_)
    refine lv_aload_n hx hb dX1_find_17 rfl (lv_at hl 0 rfl) ?_
    refine k_get (ci := 3) (C := RX1) (T := TX1) (N := 17) (v := .int (gI σ5 3)) hx hb hG inX1 hown hK hP 12 wl_12 rfl 1 (by decide) gw141 rfl dX1_find_18 ?_
    refine lv_bipush (v := 46) hx hb dX1_find_21 (by decide) ?_
    refine lv_icmp_ne (tgt := 36) hx hb dX1_find_23 (by decide) (fun k6 => ?_) (fun k6 => ?_)
    · skip
      have hw := hw.1 k6
      refine lv_aload_n hx hb dX1_find_36 rfl (lv_at hl 0 rfl) ?_
      refine lv_iconst (v := 1) hx hb dX1_find_37 (by decide) ?_
      obtain ⟨σ7, eσ7⟩ : ∃ z : Sg, z = sI σ5 2 1 := ⟨_, rfl⟩
      have hw := hw σ7 eσ7
      refine k_put (ci := 3) (C := RX1) (T := TX1) (N := 17) (v := .int 1) (ws1 := WL ad cA σ7) hx hb hG inX1 tyX1 tyX1_ok nmX1 hown hK hP hD hS 12 wl_12 rfl 0 (by decide) gw140 rfl ⟨rfl, rfl⟩ (ws_12_0 eσ7) (Nat.le_of_ble_eq_true rfl) dX1_find_38 (fun H locs hP hD hS => ?_)
      exact vx_ret (m_v ⟨rfl, hw⟩ hx hb hr hlocks hP hD hS (Nat.le_of_ble_eq_true rfl) (Nat.le_of_ble_eq_true rfl) dX1_find_41)
    · skip
      have hw := hw.2 k6
      refine lv_aload_n hx hb dX1_find_26 rfl (lv_at hl 0 rfl) ?_
      refine lv_aload_n hx hb dX1_find_27 rfl (lv_at hl 1 rfl) ?_
      refine mc_V hSF hl.1 hP hD hS hA hK hGV (m_X1_findBearings l hfl D ad cA g  σ5 _ hw) goV_X1_71 pd_X1_findBearings ⟨(Nat.le_of_ble_eq_true rfl), (Nat.le_of_ble_eq_true rfl)⟩ ⟨(Nat.le_of_ble_eq_true rfl), (Nat.le_of_ble_eq_true rfl)⟩ (va_recv hK hP (ci := 3) (q0 := 12) rfl wl_12) dX1_find_28 rfl (Nat.le_of_ble_eq_true rfl) (fun v9 σ9 H locs hq hP hD hS => ?_) (fun _ _ _ _ _ _ h => h.elim)
      obtain ⟨hv9, hw⟩ := hq
      subst hv9
      refine W.eq (g2 := F0 m 31 ls []) rfl ?_
      refine W.widen (k := 0) (n := 0) (Nat.le_refl _) (Nat.le_refl _) ?_
      refine lv_aload_n hx hb dX1_find_31 rfl (lv_at hl 0 rfl) ?_
      refine lv_aload_n hx hb dX1_find_32 rfl (lv_at hl 1 rfl) ?_
      refine mc_V hSF hl.1 hP hD hS hA hK hGV (m_X1_findAmounts l hfl D ad cA g  σ9 _ hw) goV_X1_75 pd_X1_findAmounts ⟨(Nat.le_of_ble_eq_true rfl), (Nat.le_of_ble_eq_true rfl)⟩ ⟨(Nat.le_of_ble_eq_true rfl), (Nat.le_of_ble_eq_true rfl)⟩ (va_recv hK hP (ci := 3) (q0 := 12) rfl wl_12) dX1_find_33 rfl (Nat.le_of_ble_eq_true rfl) (fun v9 σ11 H locs hq hP hD hS => ?_) (fun _ _ _ _ _ _ h => h.elim)
      obtain ⟨hv9, hw⟩ := hq
      subst hv9
      refine W.eq (g2 := F0 m 36 ls []) rfl ?_
      refine W.widen (k := 0) (n := 0) (Nat.le_refl _) (Nat.le_refl _) ?_
      refine lv_aload_n hx hb dX1_find_36 rfl (lv_at hl 0 rfl) ?_
      refine lv_iconst (v := 1) hx hb dX1_find_37 (by decide) ?_
      obtain ⟨σ12, eσ12⟩ : ∃ z : Sg, z = sI σ11 2 1 := ⟨_, rfl⟩
      have hw := hw σ12 eσ12
      refine k_put (ci := 3) (C := RX1) (T := TX1) (N := 17) (v := .int 1) (ws1 := WL ad cA σ12) hx hb hG inX1 tyX1 tyX1_ok nmX1 hown hK hP hD hS 12 wl_12 rfl 0 (by decide) gw140 rfl ⟨rfl, rfl⟩ (ws_12_0 eσ12) (Nat.le_of_ble_eq_true rfl) dX1_find_38 (fun H locs hP hD hS => ?_)
      exact vx_ret (m_v ⟨rfl, hw⟩ hx hb hr hlocks hP hD hS (Nat.le_of_ble_eq_true rfl) (Nat.le_of_ble_eq_true rfl) dX1_find_41)
  · skip
    have hw := hw.2 k1
    exact vx_ret (m_v ⟨rfl, hw⟩ hx hb hr hlocks hP hD hS (Nat.le_of_ble_eq_true rfl) (Nat.le_of_ble_eq_true rfl) dX1_find_7)

set_option maxHeartbeats 4000000 in
set_option maxRecDepth 100000 in
theorem m_X6_checkStanding (l : Launch) (hfl : l.stackTraces = false) (D : va_G) (ad : Nat → Nat) (cA : Nat → ClassId) (g : gv_T) (σ : Sg) (Q : Sg → Prop) (X : String → Sg → Prop) (hw : w_X6_checkStanding  σ Q X) : MC l yX6_checkStanding cX6_checkStanding 1 none (RM 6 1 6 120) D ad cA g [.ref (ad 0)] σ (fun v σ' => v = none ∧ Q σ') X := by
  refine MC.of (plainFor_of_name (by decide +kernel)) (Nat.le_of_ble_eq_true rfl) ?_
  intro p e s m args below meth c A ls hx hb hr hml hown hG hlocks htab hA hS hP hK hD hGV hl
  have hown : s.vm.findClass RX6 = some m.cls := hown
  have hl : lv_has ls 1 [(0, .ref (ad 0))] := hl
  have hSF : CF p m c cX6_checkStanding 1 s args RX6 := ⟨hx, hb, hml, hown, hG⟩
  refine lv_aload_n hx hb dX6_checkStanding_0 rfl (lv_at hl 0 rfl) ?_
  refine k_get (ci := 8) (C := RX6) (T := TX6) (N := 5) (v := .ref (ad 12)) hx hb hG inX6 hown hK hP 0 wl_0 rfl 1 (by decide) gw306 rfl dX6_checkStanding_1 ?_
  refine lv_aload_n hx hb dX6_checkStanding_4 rfl (lv_at hl 0 rfl) ?_
  refine k_get (ci := 8) (C := RX6) (T := TX6) (N := 5) (v := .ref (ad 1)) hx hb hG inX6 hown hK hP 0 wl_0 rfl 0 (by decide) gw305 rfl dX6_checkStanding_5 ?_
  refine mc_V hSF hl.1 hP hD hS hA hK hGV (m_X1_find l hfl D ad cA g  σ _ hw) goV_X6_110 pd_X1_find ⟨(Nat.le_of_ble_eq_true rfl), (Nat.le_of_ble_eq_true rfl)⟩ ⟨(Nat.le_of_ble_eq_true rfl), (Nat.le_of_ble_eq_true rfl)⟩ (va_recv hK hP (ci := 3) (q0 := 12) rfl wl_12) dX6_checkStanding_8 rfl (Nat.le_of_ble_eq_true rfl) (fun v9 σ2 H locs hq hP hD hS => ?_) (fun _ _ _ _ _ _ h => h.elim)
  obtain ⟨hv9, hw⟩ := hq
  subst hv9
  refine W.eq (g2 := F0 m 11 ls []) rfl ?_
  refine W.widen (k := 0) (n := 0) (Nat.le_refl _) (Nat.le_refl _) ?_
  refine lv_aload_n hx hb dX6_checkStanding_11 rfl (lv_at hl 0 rfl) ?_
  refine k_get (ci := 8) (C := RX6) (T := TX6) (N := 5) (v := .ref (ad 12)) hx hb hG inX6 hown hK hP 0 wl_0 rfl 1 (by decide) gw306 rfl dX6_checkStanding_12 ?_
  refine k_get (ci := 3) (C := RX1) (T := TX1) (N := 17) (v := .int (gI σ2 3)) hx hb hG inX1 hown hK hP 12 wl_12 rfl 1 (by decide) gw142 rfl dX6_checkStanding_15 ?_
  refine lv_bipush (v := 46) hx hb dX6_checkStanding_18 (by decide) ?_
  refine lv_icmp_eq (tgt := 34) hx hb dX6_checkStanding_20 (by decide) (fun k3 => ?_) (fun k3 => ?_)
  · skip
    have hw := hw.1 k3
    exact vx_ret (m_v ⟨rfl, hw⟩ hx hb hr hlocks hP hD hS (Nat.le_of_ble_eq_true rfl) (Nat.le_of_ble_eq_true rfl) dX6_checkStanding_34)
  · skip
    have hw := hw.2 k3
    exact m_throwW hw (names := ["java/lang/RuntimeException", "java/lang/Exception"]) 17 hx hb hfl hown hG hGV htab hlocks (hl.1.trans hml.symm) (by decide +kernel) (by decide +kernel) gw667 gw47 rfl xat_X6_71 hP hD hS dX6_checkStanding_23 dX6_checkStanding_26 dX6_checkStanding_27 dX6_checkStanding_30 dX6_checkStanding_33 (Nat.le_of_ble_eq_true rfl) (Nat.le_of_ble_eq_true rfl) (Nat.le_of_ble_eq_true rfl) (Nat.le_of_ble_eq_true rfl) (Nat.le_of_ble_eq_true rfl) (Nat.le_of_ble_eq_true rfl)

set_option maxHeartbeats 4000000 in
set_option maxRecDepth 100000 in
theorem m_X6_force (l : Launch) (hfl : l.stackTraces = false) (D : va_G) (ad : Nat → Nat) (cA : Nat → ClassId) (g : gv_T) (p1 : Int32) (σ : Sg) (Q : Int64 → Sg → Prop) (X : String → Sg → Prop) (hw : w_X6_force p1 σ Q X) : MC l yX6_force cX6_force 2 (some .long) (RM 7 2 12 140) D ad cA g [.ref (ad 0), .int p1] σ (fun v σ' => ∃ r : Int64, v = some (.long r) ∧ Q r σ') X := by
  refine MC.of (plainFor_of_name (by decide +kernel)) (Nat.le_of_ble_eq_true rfl) ?_
  intro p e s m args below meth c A ls hx hb hr hml hown hG hlocks htab hA hS hP hK hD hGV hl
  have hown : s.vm.findClass RX6 = some m.cls := hown
  have hl : lv_has ls 2 [(0, .ref (ad 0)), (1, .int p1)] := hl
  have hSF : CF p m c cX6_force 2 s args RX6 := ⟨hx, hb, hml, hown, hG⟩
  refine lv_aload_n hx hb dX6_force_0 rfl (lv_at hl 0 rfl) ?_
  refine lv_iload_n hx hb dX6_force_1 rfl (lv_at hl 1 rfl) ?_
  refine mc_V hSF hl.1 hP hD hS hA hK hGV (m_X6_checkMember l hfl D ad cA g p1 σ _ _ hw) goV_X6_118 pd_X6_checkMember ⟨(Nat.le_of_ble_eq_true rfl), (Nat.le_of_ble_eq_true rfl)⟩ ⟨(Nat.le_of_ble_eq_true rfl), (Nat.le_of_ble_eq_true rfl)⟩ (va_recv hK hP (ci := 8) (q0 := 0) rfl wl_0) dX6_force_2 rfl (Nat.le_of_ble_eq_true rfl) (fun v9 σ9 H locs hq hP hD hS => ?_) (fun E9 σ9 H locs x9 ce9 hw hP hD hS h9 hv9 hc9 => ?_)
  · skip
    obtain ⟨hv9, hs9, hw⟩ := hq
    subst hv9
    subst σ9
    refine W.eq (g2 := F0 m 5 ls []) rfl ?_
    refine W.widen (k := 1) (n := 6) (Nat.le_refl _) (Nat.le_refl _) ?_
    refine lv_aload_n hx hb dX6_force_5 rfl (lv_at hl 0 rfl) ?_
    refine mc_V hSF hl.1 hP hD hS hA hK hGV (m_X6_checkStanding l hfl D ad cA g  σ _ _ hw) goV_X6_121 pd_X6_checkStanding ⟨(Nat.le_of_ble_eq_true rfl), (Nat.le_of_ble_eq_true rfl)⟩ ⟨(Nat.le_of_ble_eq_true rfl), (Nat.le_of_ble_eq_true rfl)⟩ (va_recv hK hP (ci := 8) (q0 := 0) rfl wl_0) dX6_force_6 rfl (Nat.le_of_ble_eq_true rfl) (fun v9 σ3 H locs hq hP hD hS => ?_) (fun E9 σ9 H locs x9 ce9 hw hP hD hS h9 hv9 hc9 => ?_)
    · skip
      obtain ⟨hv9, hw⟩ := hq
      subst hv9
      refine W.eq (g2 := F0 m 9 ls []) rfl ?_
      refine W.widen (k := 2) (n := 12) (Nat.le_refl _) (Nat.le_refl _) ?_
      refine lv_aload_n hx hb dX6_force_9 rfl (lv_at hl 0 rfl) ?_
      refine k_get (ci := 8) (C := RX6) (T := TX6) (N := 5) (v := .ref (ad 12)) hx hb hG inX6 hown hK hP 0 wl_0 rfl 1 (by decide) gw306 rfl dX6_force_10 ?_
      refine k_get (ci := 3) (C := RX1) (T := TX1) (N := 17) (v := .ref (ad 15)) hx hb hG inX1 hown hK hP 12 wl_12 rfl 5 (by decide) gw147 rfl dX6_force_13 ?_
      refine lv_iload_n hx hb dX6_force_16 rfl (lv_at hl 1 rfl) ?_
      obtain ⟨hc4, hw⟩ := hw
      refine k_lald (v := gB σ3 2 (ix p1)) hx hb hK hP 15 wl_15 (ix p1) rfl rfl hc4 dX6_force_17 ?_
      exact vx_ret (m_l ⟨_, rfl, hw⟩ hx hb hr hlocks hP hD hS (Nat.le_of_ble_eq_true rfl) (Nat.le_of_ble_eq_true rfl) dX6_force_18)
    · skip
      exact m_out hw htab hlocks h9 hv9 hc9 hP hD hS (Nat.le_of_ble_eq_true rfl) (Nat.le_of_ble_eq_true rfl)
  · skip
    exact m_out hw htab hlocks h9 hv9 hc9 hP hD hS (Nat.le_of_ble_eq_true rfl) (Nat.le_of_ble_eq_true rfl)

set_option maxHeartbeats 4000000 in
set_option maxRecDepth 100000 in
theorem m_L_force (l : Launch) (hfl : l.stackTraces = false) (D : va_G) (ad : Nat → Nat) (cA : Nat → ClassId) (g : gv_T) (p1 : Int32) (σ : Sg) (Q : Int64 → Sg → Prop) (hw : w_L_force p1 σ Q) : MW l yL_force cL_force 3 (some .long) [(0, 5, 6, 28), (0, 5, 11, 22)] (RM 8 2 12 161) D ad cA g [.ref (ad 0), .int p1] σ (fun v σ' => ∃ r : Int64, v = some (.long r) ∧ Q r σ') := by
  refine MW.of (by decide +kernel) (Nat.le_of_ble_eq_true rfl) ?_
  intro p e s m args below meth c A ls hx hb hr hml hown hG hlocks htab hA hS hP hK hD hGV hl
  have hown : s.vm.findClass RL = some m.cls := hown
  have hl : lv_has ls 3 [(0, .ref (ad 0)), (1, .int p1)] := hl
  have hSF : CF p m c cL_force 3 s args RL := ⟨hx, hb, hml, hown, hG⟩
  refine lv_aload_n hx hb dL_force_0 rfl (lv_at hl 0 rfl) ?_
  refine lv_iload_n hx hb dL_force_1 rfl (lv_at hl 1 rfl) ?_
  refine mc_V hSF hl.1 hP hD hS hA hK hGV (m_X6_force l hfl D ad cA g p1 σ _ _ hw) goV_L_34 pd_X6_force ⟨(Nat.le_of_ble_eq_true rfl), (Nat.le_of_ble_eq_true rfl)⟩ ⟨(Nat.le_of_ble_eq_true rfl), (Nat.le_of_ble_eq_true rfl)⟩ (va_recv hK hP (ci := 8) (q0 := 0) rfl wl_0) dL_force_2 rfl (Nat.le_of_ble_eq_true rfl) (fun v9 σ2 H locs hq hP hD hS => ?_) (fun E9 σ3 H locs x9 ce9 hw hP hD hS h9 hv9 hc9 => ?_)
  · skip
    obtain ⟨r1, hv9, hw⟩ := hq
    subst hv9
    refine W.eq (g2 := F0 m 5 ls [.long r1]) rfl ?_
    refine W.widen (k := 2) (n := 12) (Nat.le_refl _) (Nat.le_refl _) ?_
    exact m_l ⟨_, rfl, hw⟩ hx hb hr hlocks hP hD hS (Nat.le_of_ble_eq_true rfl) (Nat.le_of_ble_eq_true rfl) dL_force_5
  · skip
    rcases hw with ⟨rfl, hw⟩ | ⟨rfl, hw⟩
    · skip
      refine vx_catch (own := RL) (name := "java/lang/IndexOutOfBoundsException") hown [] { startPc := 0, endPc := 5, handlerPc := 6, catchType := 28 } [{ startPc := 0, endPc := 5, handlerPc := 11, catchType := 22 }] (htab.trans rfl) (fun z hz => nomatch hz) rfl (by decide) (hG _ gw690) (va_Nw.use rfl (hGV.nw _ gw724)) h9 hv9 hc9 ?_
      refine W.eq (g2 := F0 m 6 ls [.ref x9]) rfl ?_
      refine W.widen (k := 2) (n := 12) (Nat.le_refl _) (Nat.le_refl _) ?_
      refine lv_astore_n (lv' := [(2, .ref x9), (0, .ref (ad 0)), (1, .int p1)]) hx hb dL_force_6 rfl hl (by decide) rfl (fun ls hl => ?_)
      refine lv_ldc2 hx hb hown (hG _ gw949) dL_force_7 ?_
      exact m_l ⟨_, rfl, hw⟩ hx hb hr hlocks hP hD hS (Nat.le_of_ble_eq_true rfl) (Nat.le_of_ble_eq_true rfl) dL_force_10
    · skip
      refine vx_catch (own := RL) (name := "java/lang/IllegalStateException") hown [{ startPc := 0, endPc := 5, handlerPc := 6, catchType := 28 }] { startPc := 0, endPc := 5, handlerPc := 11, catchType := 22 } [] (htab.trans rfl) (fun z hz => by rcases List.mem_singleton.mp hz with rfl; exact Or.inr ⟨by decide, "java/lang/IndexOutOfBoundsException", hG _ gw690, hGV.nc ("java/lang/IllegalStateException", "java/lang/IndexOutOfBoundsException") (by decide)⟩) rfl (by decide) (hG _ gw500) (va_Nw.use rfl (hGV.nw _ gw669)) h9 hv9 hc9 ?_
      refine W.eq (g2 := F0 m 11 ls [.ref x9]) rfl ?_
      refine W.widen (k := 2) (n := 12) (Nat.le_refl _) (Nat.le_refl _) ?_
      refine lv_astore_n (lv' := [(2, .ref x9), (0, .ref (ad 0)), (1, .int p1)]) hx hb dL_force_11 rfl hl (by decide) rfl (fun ls hl => ?_)
      refine lv_ldc2 hx hb hown (hG _ gw872) dL_force_12 ?_
      exact m_l ⟨_, rfl, hw⟩ hx hb hr hlocks hP hD hS (Nat.le_of_ble_eq_true rfl) (Nat.le_of_ble_eq_true rfl) dL_force_15

set_option maxHeartbeats 4000000 in
set_option maxRecDepth 100000 in
theorem m_X1_restInThousandths (l : Launch) (hfl : l.stackTraces = false) (D : va_G) (ad : Nat → Nat) (cA : Nat → ClassId) (g : gv_T) (p1 : Int32) (σ : Sg) (Q : Int64 → Prop) (hw : w_X1_restInThousandths p1 σ Q) : MC l yX1_restInThousandths cX1_restInThousandths 7 (some .long) (RM 0 0 0 0) D ad cA g [.ref (ad 12), .int p1] σ (fun v σ' => ∃ r : Int64, v = some (.long r) ∧ σ' = σ ∧ Q r) (fun _ _ => False) := by
  refine MC.of (plainFor_of_name (by decide +kernel)) (Nat.le_of_ble_eq_true rfl) ?_
  intro p e s m args below meth c A ls hx hb hr hml hown hG hlocks htab hA hS hP hK hD hGV hl
  have hown : s.vm.findClass RX1 = some m.cls := hown
  have hl : lv_has ls 7 [(0, .ref (ad 12)), (1, .int p1)] := hl
  have hSF : CF p m c cX1_restInThousandths 7 s args RX1 := ⟨hx, hb, hml, hown, hG⟩
  refine lv_lconst (v := 0) hx hb dX1_restInThousandths_0 (by decide) ?_
  refine lv_lstore_n (lv' := [(2, .long 0), (0, .ref (ad 12)), (1, .int p1)]) hx hb dX1_restInThousandths_1 rfl hl (by decide) rfl (fun ls hl => ?_)
  refine lv_aload_n hx hb dX1_restInThousandths_2 rfl (lv_at hl 1 rfl) ?_
  refine k_get (ci := 3) (C := RX1) (T := TX1) (N := 17) (v := .ref (ad 14)) hx hb hG inX1 hown hK hP 12 wl_12 rfl 4 (by decide) gw145 rfl dX1_restInThousandths_3 ?_
  refine lv_iload_n hx hb dX1_restInThousandths_6 rfl (lv_at hl 2 rfl) ?_
  obtain ⟨hc1, hw⟩ := hw
  refine k_lald (v := gB σ 1 (ix p1)) hx hb hK hP 14 wl_14 (ix p1) rfl rfl hc1 dX1_restInThousandths_7 ?_
  obtain ⟨v2, ev2⟩ : ∃ z : Int64, z = gB σ 1 (ix p1) := ⟨_, rfl⟩
  have hw := hw v2 ev2
  refine lv_lstore (lv' := [(4, .long v2), (2, .long 0), (0, .ref (ad 12)), (1, .int p1)]) hx hb dX1_restInThousandths_8 hl (by decide) (by subst ev2; rfl) (fun ls hl => ?_)
  refine lv_iconst (v := 0) hx hb dX1_restInThousandths_10 (by decide) ?_
  refine lv_istore (lv' := [(6, .int 0), (4, .long v2), (2, .long 0), (0, .ref (ad 12)), (1, .int p1)]) hx hb dX1_restInThousandths_11 hl (by decide) rfl (fun ls hl => ?_)
  obtain ⟨I3, μ3, hI3, hw3⟩ := hw
  have hl : lv_has ls 7 [(0, .ref (ad 12)), (2, .long 0), (4, .long v2), (6, .int 0)] := lv_sub hl [3, 2, 1, 0] rfl
  suffices key3 : ∀ (n3 : Nat) (i2_3 : Int64) (i4_3 : Int64) (i6_3 : Int32), μ3 i2_3 i4_3 i6_3 < n3 → I3 i2_3 i4_3 i6_3 → ∀ (H : Heap) (locs : List Loc) (ls : Array Slot), va_P D vwCl (WL ad cA σ) H → va_D A (WL ad cA σ) → va_S A s.heap H locs → lv_has ls 7 [(0, .ref (ad 12)), (2, .long i2_3), (4, .long i4_3), (6, .int i6_3)] → W p l e (RM 0 0 0 0) s m args below meth c H locs (0) (0) (vx_MQ below (QM D ad cA A (fun v σ' => ∃ r : Int64, v = some (.long r) ∧ σ' = σ ∧ Q r)) (XM D ad cA A (fun _ _ => False)) args s (RM 0 0 0 0).cells (RM 0 0 0 0).slots A) (F0 m 13 ls []) from key3 _ _ _ _ (Nat.lt_succ_self _) hI3 _ _ ls hP hD hS hl
  clear hP hD hS hl
  intro n3
  induction n3 with
  | zero => intro _ _ _ h; exact absurd h (Nat.not_lt_zero _)
  | succ n3 ih3 =>
    intro i2_3 i4_3 i6_3 hm3 hI3 H locs ls hP hD hS hl
    have hw := hw3 i2_3 i4_3 i6_3 hI3
    refine lv_iload hx hb dX1_restInThousandths_13 (lv_at hl 3 rfl) ?_
    refine lv_iconst (v := 3) hx hb dX1_restInThousandths_15 (by decide) ?_
    refine lv_icmp_ge (tgt := 65) hx hb dX1_restInThousandths_16 (by decide) (fun k4 => ?_) (fun k4 => ?_)
    · skip
      have hw := hw.1 k4
      refine lv_lload_n hx hb dX1_restInThousandths_65 rfl (lv_at hl 1 rfl) ?_
      exact vx_ret (m_l ⟨_, rfl, rfl, hw⟩ hx hb hr hlocks hP hD hS (Nat.le_of_ble_eq_true rfl) (Nat.le_of_ble_eq_true rfl) dX1_restInThousandths_66)
    · skip
      have hw := hw.2 k4
      refine lv_aload_n hx hb dX1_restInThousandths_19 rfl (lv_at hl 0 rfl) ?_
      refine k_get (ci := 3) (C := RX1) (T := TX1) (N := 17) (v := .long (gL σ 0)) hx hb hG inX1 hown hK hP 12 wl_12 rfl 2 (by decide) gw143 rfl dX1_restInThousandths_20 ?_
      refine lv_lconst (v := 0) hx hb dX1_restInThousandths_23 (by decide) ?_
      refine k_lcmp (v := lg_cmp (gL σ 0) 0) hx hb dX1_restInThousandths_24 rfl ?_
      refine lv_if_le (tgt := 65) hx hb dX1_restInThousandths_25 (by decide) (fun k5 => ?_) (fun k5 => ?_)
      · skip
        have hw := hw.1 (lc_le.mp k5)
        refine lv_lload_n hx hb dX1_restInThousandths_65 rfl (lv_at hl 1 rfl) ?_
        exact vx_ret (m_l ⟨_, rfl, rfl, hw⟩ hx hb hr hlocks hP hD hS (Nat.le_of_ble_eq_true rfl) (Nat.le_of_ble_eq_true rfl) dX1_restInThousandths_66)
      · skip
        have hw := hw.2 (fun q9 => k5 (lc_le.mpr q9))
        refine lv_ldc2 hx hb hown (hG _ gw938) dX1_restInThousandths_28 ?_
        refine lv_lload_n hx hb dX1_restInThousandths_31 rfl (lv_at hl 1 rfl) ?_
        refine k_lmul (v := 10 * i2_3) hx hb dX1_restInThousandths_32 rfl ?_
        refine lv_ldc2 hx hb hown (hG _ gw938) dX1_restInThousandths_33 ?_
        refine lv_lload hx hb dX1_restInThousandths_36 (lv_at hl 2 rfl) ?_
        refine k_lmul (v := 10 * i4_3) hx hb dX1_restInThousandths_38 rfl ?_
        refine lv_aload_n hx hb dX1_restInThousandths_39 rfl (lv_at hl 0 rfl) ?_
        refine k_get (ci := 3) (C := RX1) (T := TX1) (N := 17) (v := .long (gL σ 0)) hx hb hG inX1 hown hK hP 12 wl_12 rfl 2 (by decide) gw143 rfl dX1_restInThousandths_40 ?_
        obtain ⟨hc6, hw⟩ := hw
        refine k_ldiv (v := (10 * i4_3) / (gL σ 0)) hx hb dX1_restInThousandths_43 hc6 rfl ?_
        refine k_ladd (v := (10 * i2_3) + ((10 * i4_3) / (gL σ 0))) hx hb dX1_restInThousandths_44 rfl ?_
        obtain ⟨v7, ev7⟩ : ∃ z : Int64, z = (10 * i2_3) + ((10 * i4_3) / (gL σ 0)) := ⟨_, rfl⟩
        have hw := hw v7 ev7
        refine lv_lstore_n (lv' := [(2, .long v7), (0, .ref (ad 12)), (4, .long i4_3), (6, .int i6_3)]) hx hb dX1_restInThousandths_45 rfl hl (by decide) (by subst ev7; rfl) (fun ls hl => ?_)
        refine lv_ldc2 hx hb hown (hG _ gw938) dX1_restInThousandths_46 ?_
        refine lv_lload hx hb dX1_restInThousandths_49 (lv_at hl 2 rfl) ?_
        refine k_lmul (v := 10 * i4_3) hx hb dX1_restInThousandths_51 rfl ?_
        refine lv_aload_n hx hb dX1_restInThousandths_52 rfl (lv_at hl 1 rfl) ?_
        refine k_get (ci := 3) (C := RX1) (T := TX1) (N := 17) (v := .long (gL σ 0)) hx hb hG inX1 hown hK hP 12 wl_12 rfl 2 (by decide) gw143 rfl dX1_restInThousandths_53 ?_
        obtain ⟨hc8, hw⟩ := hw
        refine k_lrem (v := lRem (10 * i4_3) (gL σ 0)) hx hb dX1_restInThousandths_56 hc8 rfl ?_
        obtain ⟨v9, ev9⟩ : ∃ z : Int64, z = lRem (10 * i4_3) (gL σ 0) := ⟨_, rfl⟩
        have hw := hw v9 ev9
        refine lv_lstore (lv' := [(4, .long v9), (2, .long v7), (0, .ref (ad 12)), (6, .int i6_3)]) hx hb dX1_restInThousandths_57 hl (by decide) (by subst ev9; rfl) (fun ls hl => ?_)
        refine lv_iinc (v := i6_3 + 1) (lv' := [(6, .int (i6_3 + 1)), (4, .long v9), (2, .long v7), (0, .ref (ad 12))]) hx hb dX1_restInThousandths_59 hl (k := 3) rfl rfl (by decide) rfl (fun ls hl => ?_)
        refine lv_goto (tgt := 13) hx hb dX1_restInThousandths_62 (by decide) ?_
        exact ih3 v7 v9 (i6_3 + 1) (Nat.lt_of_lt_of_le hw.2 (Nat.le_of_lt_succ hm3)) hw.1 _ _ ls hP hD hS (lv_sub hl [3, 2, 1, 0] rfl)

set_option maxHeartbeats 4000000 in
set_option maxRecDepth 100000 in
theorem m_X1_thousandths (l : Launch) (hfl : l.stackTraces = false) (D : va_G) (ad : Nat → Nat) (cA : Nat → ClassId) (g : gv_T) (p1 : Int32) (σ : Sg) (Q : Int64 → Prop) (hw : w_X1_thousandths p1 σ Q) : MC l yX1_thousandths cX1_thousandths 2 (some .long) (RM 1 0 0 26) D ad cA g [.ref (ad 12), .int p1] σ (fun v σ' => ∃ r : Int64, v = some (.long r) ∧ σ' = σ ∧ Q r) (fun _ _ => False) := by
  refine MC.of (plainFor_of_name (by decide +kernel)) (Nat.le_of_ble_eq_true rfl) ?_
  intro p e s m args below meth c A ls hx hb hr hml hown hG hlocks htab hA hS hP hK hD hGV hl
  have hown : s.vm.findClass RX1 = some m.cls := hown
  have hl : lv_has ls 2 [(0, .ref (ad 12)), (1, .int p1)] := hl
  have hSF : CF p m c cX1_thousandths 2 s args RX1 := ⟨hx, hb, hml, hown, hG⟩
  refine lv_ldc2 hx hb hown (hG _ gw932) dX1_thousandths_0 ?_
  refine lv_aload_n hx hb dX1_thousandths_3 rfl (lv_at hl 0 rfl) ?_
  refine k_get (ci := 3) (C := RX1) (T := TX1) (N := 17) (v := .ref (ad 13)) hx hb hG inX1 hown hK hP 12 wl_12 rfl 3 (by decide) gw144 rfl dX1_thousandths_4 ?_
  refine lv_iload_n hx hb dX1_thousandths_7 rfl (lv_at hl 1 rfl) ?_
  obtain ⟨hc1, hw⟩ := hw
  refine k_lald (v := gB σ 0 (ix p1)) hx hb hK hP 13 wl_13 (ix p1) rfl rfl hc1 dX1_thousandths_8 ?_
  refine k_lmul (v := 1000 * (gB σ 0 (ix p1))) hx hb dX1_thousandths_9 rfl ?_
  refine lv_aload_n hx hb dX1_thousandths_10 rfl (lv_at hl 0 rfl) ?_
  refine lv_iload_n hx hb dX1_thousandths_11 rfl (lv_at hl 1 rfl) ?_
  refine mc_V hSF hl.1 hP hD hS hA hK hGV (m_X1_restInThousandths l hfl D ad cA g p1 σ _ hw) goV_X1_175 pd_X1_restInThousandths ⟨(Nat.le_of_ble_eq_true rfl), (Nat.le_of_ble_eq_true rfl)⟩ ⟨(Nat.le_of_ble_eq_true rfl), (Nat.le_of_ble_eq_true rfl)⟩ (va_recv hK hP (ci := 3) (q0 := 12) rfl wl_12) dX1_thousandths_12 rfl (Nat.le_of_ble_eq_true rfl) (fun v9 σ9 H locs hq hP hD hS => ?_) (fun _ _ _ _ _ _ h => h.elim)
  obtain ⟨r2, hv9, hs9, hw⟩ := hq
  subst hv9
  subst σ9
  refine W.eq (g2 := F0 m 15 ls [.long r2, .long (1000 * (gB σ 0 (ix p1)))]) rfl ?_
  refine W.widen (k := 0) (n := 0) (Nat.le_refl _) (Nat.le_refl _) ?_
  refine k_ladd (v := (1000 * (gB σ 0 (ix p1))) + r2) hx hb dX1_thousandths_15 rfl ?_
  exact vx_ret (m_l ⟨_, rfl, rfl, hw⟩ hx hb hr hlocks hP hD hS (Nat.le_of_ble_eq_true rfl) (Nat.le_of_ble_eq_true rfl) dX1_thousandths_16)

set_option maxHeartbeats 4000000 in
set_option maxRecDepth 100000 in
theorem m_X6_pull (l : Launch) (hfl : l.stackTraces = false) (D : va_G) (ad : Nat → Nat) (cA : Nat → ClassId) (g : gv_T) (p1 : Int32) (σ : Sg) (Q : Int64 → Sg → Prop) (X : String → Sg → Prop) (hw : w_X6_pull p1 σ Q X) : MC l yX6_pull cX6_pull 2 (some .long) (RM 7 2 12 140) D ad cA g [.ref (ad 0), .int p1] σ (fun v σ' => ∃ r : Int64, v = some (.long r) ∧ Q r σ') X := by
  refine MC.of (plainFor_of_name (by decide +kernel)) (Nat.le_of_ble_eq_true rfl) ?_
  intro p e s m args below meth c A ls hx hb hr hml hown hG hlocks htab hA hS hP hK hD hGV hl
  have hown : s.vm.findClass RX6 = some m.cls := hown
  have hl : lv_has ls 2 [(0, .ref (ad 0)), (1, .int p1)] := hl
  have hSF : CF p m c cX6_pull 2 s args RX6 := ⟨hx, hb, hml, hown, hG⟩
  refine lv_aload_n hx hb dX6_pull_0 rfl (lv_at hl 0 rfl) ?_
  refine lv_iload_n hx hb dX6_pull_1 rfl (lv_at hl 1 rfl) ?_
  refine mc_V hSF hl.1 hP hD hS hA hK hGV (m_X6_checkMember l hfl D ad cA g p1 σ _ _ hw) goV_X6_118 pd_X6_checkMember ⟨(Nat.le_of_ble_eq_true rfl), (Nat.le_of_ble_eq_true rfl)⟩ ⟨(Nat.le_of_ble_eq_true rfl), (Nat.le_of_ble_eq_true rfl)⟩ (va_recv hK hP (ci := 8) (q0 := 0) rfl wl_0) dX6_pull_2 rfl (Nat.le_of_ble_eq_true rfl) (fun v9 σ9 H locs hq hP hD hS => ?_) (fun E9 σ9 H locs x9 ce9 hw hP hD hS h9 hv9 hc9 => ?_)
  · skip
    obtain ⟨hv9, hs9, hw⟩ := hq
    subst hv9
    subst σ9
    refine W.eq (g2 := F0 m 5 ls []) rfl ?_
    refine W.widen (k := 1) (n := 6) (Nat.le_refl _) (Nat.le_refl _) ?_
    refine lv_aload_n hx hb dX6_pull_5 rfl (lv_at hl 0 rfl) ?_
    refine mc_V hSF hl.1 hP hD hS hA hK hGV (m_X6_checkStanding l hfl D ad cA g  σ _ _ hw) goV_X6_121 pd_X6_checkStanding ⟨(Nat.le_of_ble_eq_true rfl), (Nat.le_of_ble_eq_true rfl)⟩ ⟨(Nat.le_of_ble_eq_true rfl), (Nat.le_of_ble_eq_true rfl)⟩ (va_recv hK hP (ci := 8) (q0 := 0) rfl wl_0) dX6_pull_6 rfl (Nat.le_of_ble_eq_true rfl) (fun v9 σ3 H locs hq hP hD hS => ?_) (fun E9 σ9 H locs x9 ce9 hw hP hD hS h9 hv9 hc9 => ?_)
    · skip
      obtain ⟨hv9, hw⟩ := hq
      subst hv9
      refine W.eq (g2 := F0 m 9 ls []) rfl ?_
      refine W.widen (k := 2) (n := 12) (Nat.le_refl _) (Nat.le_refl _) ?_
      refine lv_aload_n hx hb dX6_pull_9 rfl (lv_at hl 0 rfl) ?_
      refine k_get (ci := 8) (C := RX6) (T := TX6) (N := 5) (v := .ref (ad 12)) hx hb hG inX6 hown hK hP 0 wl_0 rfl 1 (by decide) gw306 rfl dX6_pull_10 ?_
      refine lv_iload_n hx hb dX6_pull_13 rfl (lv_at hl 1 rfl) ?_
      refine mc_V hSF hl.1 hP hD hS hA hK hGV (m_X1_thousandths l hfl D ad cA g p1 σ3 _ hw) goV_X6_128 pd_X1_thousandths ⟨(Nat.le_of_ble_eq_true rfl), (Nat.le_of_ble_eq_true rfl)⟩ ⟨(Nat.le_of_ble_eq_true rfl), (Nat.le_of_ble_eq_true rfl)⟩ (va_recv hK hP (ci := 3) (q0 := 12) rfl wl_12) dX6_pull_14 rfl (Nat.le_of_ble_eq_true rfl) (fun v9 σ9 H locs hq hP hD hS => ?_) (fun _ _ _ _ _ _ h => h.elim)
      obtain ⟨r4, hv9, hs9, hw⟩ := hq
      subst hv9
      subst σ9
      refine W.eq (g2 := F0 m 17 ls [.long r4]) rfl ?_
      refine W.widen (k := 2) (n := 12) (Nat.le_refl _) (Nat.le_refl _) ?_
      exact vx_ret (m_l ⟨_, rfl, hw⟩ hx hb hr hlocks hP hD hS (Nat.le_of_ble_eq_true rfl) (Nat.le_of_ble_eq_true rfl) dX6_pull_17)
    · skip
      exact m_out hw htab hlocks h9 hv9 hc9 hP hD hS (Nat.le_of_ble_eq_true rfl) (Nat.le_of_ble_eq_true rfl)
  · skip
    exact m_out hw htab hlocks h9 hv9 hc9 hP hD hS (Nat.le_of_ble_eq_true rfl) (Nat.le_of_ble_eq_true rfl)

set_option maxHeartbeats 4000000 in
set_option maxRecDepth 100000 in
theorem m_L_pull (l : Launch) (hfl : l.stackTraces = false) (D : va_G) (ad : Nat → Nat) (cA : Nat → ClassId) (g : gv_T) (p1 : Int32) (σ : Sg) (Q : Int64 → Sg → Prop) (hw : w_L_pull p1 σ Q) : MW l yL_pull cL_pull 3 (some .long) [(0, 5, 6, 28), (0, 5, 11, 22)] (RM 8 2 12 161) D ad cA g [.ref (ad 0), .int p1] σ (fun v σ' => ∃ r : Int64, v = some (.long r) ∧ Q r σ') := by
  refine MW.of (by decide +kernel) (Nat.le_of_ble_eq_true rfl) ?_
  intro p e s m args below meth c A ls hx hb hr hml hown hG hlocks htab hA hS hP hK hD hGV hl
  have hown : s.vm.findClass RL = some m.cls := hown
  have hl : lv_has ls 3 [(0, .ref (ad 0)), (1, .int p1)] := hl
  have hSF : CF p m c cL_pull 3 s args RL := ⟨hx, hb, hml, hown, hG⟩
  refine lv_aload_n hx hb dL_pull_0 rfl (lv_at hl 0 rfl) ?_
  refine lv_iload_n hx hb dL_pull_1 rfl (lv_at hl 1 rfl) ?_
  refine mc_V hSF hl.1 hP hD hS hA hK hGV (m_X6_pull l hfl D ad cA g p1 σ _ _ hw) goV_L_42 pd_X6_pull ⟨(Nat.le_of_ble_eq_true rfl), (Nat.le_of_ble_eq_true rfl)⟩ ⟨(Nat.le_of_ble_eq_true rfl), (Nat.le_of_ble_eq_true rfl)⟩ (va_recv hK hP (ci := 8) (q0 := 0) rfl wl_0) dL_pull_2 rfl (Nat.le_of_ble_eq_true rfl) (fun v9 σ2 H locs hq hP hD hS => ?_) (fun E9 σ3 H locs x9 ce9 hw hP hD hS h9 hv9 hc9 => ?_)
  · skip
    obtain ⟨r1, hv9, hw⟩ := hq
    subst hv9
    refine W.eq (g2 := F0 m 5 ls [.long r1]) rfl ?_
    refine W.widen (k := 2) (n := 12) (Nat.le_refl _) (Nat.le_refl _) ?_
    exact m_l ⟨_, rfl, hw⟩ hx hb hr hlocks hP hD hS (Nat.le_of_ble_eq_true rfl) (Nat.le_of_ble_eq_true rfl) dL_pull_5
  · skip
    rcases hw with ⟨rfl, hw⟩ | ⟨rfl, hw⟩
    · skip
      refine vx_catch (own := RL) (name := "java/lang/IndexOutOfBoundsException") hown [] { startPc := 0, endPc := 5, handlerPc := 6, catchType := 28 } [{ startPc := 0, endPc := 5, handlerPc := 11, catchType := 22 }] (htab.trans rfl) (fun z hz => nomatch hz) rfl (by decide) (hG _ gw690) (va_Nw.use rfl (hGV.nw _ gw724)) h9 hv9 hc9 ?_
      refine W.eq (g2 := F0 m 6 ls [.ref x9]) rfl ?_
      refine W.widen (k := 2) (n := 12) (Nat.le_refl _) (Nat.le_refl _) ?_
      refine lv_astore_n (lv' := [(2, .ref x9), (0, .ref (ad 0)), (1, .int p1)]) hx hb dL_pull_6 rfl hl (by decide) rfl (fun ls hl => ?_)
      refine lv_ldc2 hx hb hown (hG _ gw949) dL_pull_7 ?_
      exact m_l ⟨_, rfl, hw⟩ hx hb hr hlocks hP hD hS (Nat.le_of_ble_eq_true rfl) (Nat.le_of_ble_eq_true rfl) dL_pull_10
    · skip
      refine vx_catch (own := RL) (name := "java/lang/IllegalStateException") hown [{ startPc := 0, endPc := 5, handlerPc := 6, catchType := 28 }] { startPc := 0, endPc := 5, handlerPc := 11, catchType := 22 } [] (htab.trans rfl) (fun z hz => by rcases List.mem_singleton.mp hz with rfl; exact Or.inr ⟨by decide, "java/lang/IndexOutOfBoundsException", hG _ gw690, hGV.nc ("java/lang/IllegalStateException", "java/lang/IndexOutOfBoundsException") (by decide)⟩) rfl (by decide) (hG _ gw500) (va_Nw.use rfl (hGV.nw _ gw669)) h9 hv9 hc9 ?_
      refine W.eq (g2 := F0 m 11 ls [.ref x9]) rfl ?_
      refine W.widen (k := 2) (n := 12) (Nat.le_refl _) (Nat.le_refl _) ?_
      refine lv_astore_n (lv' := [(2, .ref x9), (0, .ref (ad 0)), (1, .int p1)]) hx hb dL_pull_11 rfl hl (by decide) rfl (fun ls hl => ?_)
      refine lv_ldc2 hx hb hown (hG _ gw872) dL_pull_12 ?_
      exact m_l ⟨_, rfl, hw⟩ hx hb hr hlocks hP hD hS (Nat.le_of_ble_eq_true rfl) (Nat.le_of_ble_eq_true rfl) dL_pull_15

set_option maxHeartbeats 4000000 in
set_option maxRecDepth 100000 in
theorem m_X1_bearingIndex (l : Launch) (hfl : l.stackTraces = false) (D : va_G) (ad : Nat → Nat) (cA : Nat → ClassId) (g : gv_T) (p1 : Int32) (p2 : Int32) (σ : Sg) (Q : Int32 → Prop) (hw : w_X1_bearingIndex p1 p2 σ Q) : MC l yX1_bearingIndex cX1_bearingIndex 3 (some .int) (RM 0 0 0 0) D ad cA g [.ref (ad 12), .int p1, .int p2] σ (fun v σ' => ∃ r : Int32, v = some (.int r) ∧ σ' = σ ∧ Q r) (fun _ _ => False) := by
  refine MC.of (plainFor_of_name (by decide +kernel)) (Nat.le_of_ble_eq_true rfl) ?_
  intro p e s m args below meth c A ls hx hb hr hml hown hG hlocks htab hA hS hP hK hD hGV hl
  have hown : s.vm.findClass RX1 = some m.cls := hown
  have hl : lv_has ls 3 [(0, .ref (ad 12)), (1, .int p1), (2, .int p2)] := hl
  have hSF : CF p m c cX1_bearingIndex 3 s args RX1 := ⟨hx, hb, hml, hown, hG⟩
  refine lv_bipush (v := 9) hx hb dX1_bearingIndex_0 (by decide) ?_
  refine lv_iconst (v := 2) hx hb dX1_bearingIndex_2 (by decide) ?_
  refine lv_iload_n hx hb dX1_bearingIndex_3 rfl (lv_at hl 1 rfl) ?_
  refine k_imul (v := 2 * p1) hx hb dX1_bearingIndex_4 rfl ?_
  refine k_iadd (v := 9 + (2 * p1)) hx hb dX1_bearingIndex_5 rfl ?_
  refine lv_iload_n hx hb dX1_bearingIndex_6 rfl (lv_at hl 2 rfl) ?_
  refine k_iadd (v := (9 + (2 * p1)) + p2) hx hb dX1_bearingIndex_7 rfl ?_
  exact vx_ret (m_i ⟨_, rfl, rfl, hw⟩ hx hb hr hlocks rfl hP hD hS (Nat.le_of_ble_eq_true rfl) (Nat.le_of_ble_eq_true rfl) dX1_bearingIndex_8)

set_option maxHeartbeats 4000000 in
set_option maxRecDepth 100000 in
theorem m_X1_holdsAlong (l : Launch) (hfl : l.stackTraces = false) (D : va_G) (ad : Nat → Nat) (cA : Nat → ClassId) (g : gv_T) (p2 : Int32) (p3 : Int32) (σ : Sg) (Q : Int32 → Prop) (hw : w_X1_holdsAlong p2 p3 σ Q) : MC l yX1_holdsAlong cX1_holdsAlong 12 (some .boolean) (RM 2 0 0 46) D ad cA g [.ref (ad 12), .ref (ad 1), .int p2, .int p3] σ (fun v σ' => ∃ r : Int32, v = some (.int r) ∧ σ' = σ ∧ Q r) (fun _ _ => False) := by
  refine MC.of (plainFor_of_name (by decide +kernel)) (Nat.le_of_ble_eq_true rfl) ?_
  intro p e s m args below meth c A ls hx hb hr hml hown hG hlocks htab hA hS hP hK hD hGV hl
  have hown : s.vm.findClass RX1 = some m.cls := hown
  have hl : lv_has ls 12 [(0, .ref (ad 12)), (1, .ref (ad 1)), (2, .int p2), (3, .int p3)] := hl
  have hSF : CF p m c cX1_holdsAlong 12 s args RX1 := ⟨hx, hb, hml, hown, hG⟩
  refine lv_lconst (v := 0) hx hb dX1_holdsAlong_0 (by decide) ?_
  refine lv_lstore (lv' := [(4, .long 0), (0, .ref (ad 12)), (1, .ref (ad 1)), (2, .int p2), (3, .int p3)]) hx hb dX1_holdsAlong_1 hl (by decide) rfl (fun ls hl => ?_)
  refine lv_lconst (v := 0) hx hb dX1_holdsAlong_3 (by decide) ?_
  refine lv_lstore (lv' := [(6, .long 0), (4, .long 0), (0, .ref (ad 12)), (1, .ref (ad 1)), (2, .int p2), (3, .int p3)]) hx hb dX1_holdsAlong_4 hl (by decide) rfl (fun ls hl => ?_)
  refine lv_iconst (v := 0) hx hb dX1_holdsAlong_6 (by decide) ?_
  refine lv_istore (lv' := [(8, .int 0), (6, .long 0), (4, .long 0), (0, .ref (ad 12)), (1, .ref (ad 1)), (2, .int p2), (3, .int p3)]) hx hb dX1_holdsAlong_7 hl (by decide) rfl (fun ls hl => ?_)
  obtain ⟨I1, μ1, hI1, hw1⟩ := hw
  have hl : lv_has ls 12 [(0, .ref (ad 12)), (1, .ref (ad 1)), (2, .int p2), (3, .int p3), (4, .long 0), (6, .long 0), (8, .int 0)] := lv_sub hl [3, 4, 5, 6, 2, 1, 0] rfl
  suffices key1 : ∀ (n1 : Nat) (i4_1 : Int64) (i6_1 : Int64) (i8_1 : Int32), μ1 i4_1 i6_1 i8_1 < n1 → I1 i4_1 i6_1 i8_1 → ∀ (H : Heap) (locs : List Loc) (ls : Array Slot), va_P D vwCl (WL ad cA σ) H → va_D A (WL ad cA σ) → va_S A s.heap H locs → lv_has ls 12 [(0, .ref (ad 12)), (1, .ref (ad 1)), (2, .int p2), (3, .int p3), (4, .long i4_1), (6, .long i6_1), (8, .int i8_1)] → W p l e (RM 2 0 0 46) s m args below meth c H locs (0) (0) (vx_MQ below (QM D ad cA A (fun v σ' => ∃ r : Int32, v = some (.int r) ∧ σ' = σ ∧ Q r)) (XM D ad cA A (fun _ _ => False)) args s (RM 2 0 0 46).cells (RM 2 0 0 46).slots A) (F0 m 9 ls []) from key1 _ _ _ _ (Nat.lt_succ_self _) hI1 _ _ ls hP hD hS hl
  clear hP hD hS hl
  intro n1
  induction n1 with
  | zero => intro _ _ _ h; exact absurd h (Nat.not_lt_zero _)
  | succ n1 ih1 =>
    intro i4_1 i6_1 i8_1 hm1 hI1 H locs ls hP hD hS hl
    have hw := hw1 i4_1 i6_1 i8_1 hI1
    refine lv_iload hx hb dX1_holdsAlong_9 (lv_at hl 6 rfl) ?_
    refine lv_aload_n hx hb dX1_holdsAlong_11 rfl (lv_at hl 1 rfl) ?_
    refine k_get (ci := 4) (C := RX2) (T := TX2) (N := 12) (v := .int (gI σ 0)) hx hb hG inX2 hown hK hP 1 wl_1 rfl 0 (by decide) gw70 rfl dX1_holdsAlong_12 ?_
    refine lv_icmp_ge (tgt := 180) hx hb dX1_holdsAlong_15 (by decide) (fun k2 => ?_) (fun k2 => ?_)
    · skip
      have hw := hw.1 k2
      refine lv_aload_n hx hb dX1_holdsAlong_180 rfl (lv_at hl 0 rfl) ?_
      refine k_get (ci := 3) (C := RX1) (T := TX1) (N := 17) (v := .long (gL σ 0)) hx hb hG inX1 hown hK hP 12 wl_12 rfl 2 (by decide) gw143 rfl dX1_holdsAlong_181 ?_
      refine lv_lconst (v := 0) hx hb dX1_holdsAlong_184 (by decide) ?_
      refine k_lcmp (v := lg_cmp (gL σ 0) 0) hx hb dX1_holdsAlong_185 rfl ?_
      refine lv_if_le (tgt := 220) hx hb dX1_holdsAlong_186 (by decide) (fun k3 => ?_) (fun k3 => ?_)
      · skip
        have hw := hw.1 (lc_le.mp k3)
        refine lv_iconst (v := 0) hx hb dX1_holdsAlong_220 (by decide) ?_
        exact vx_ret (m_i ⟨_, rfl, rfl, hw⟩ hx hb hr hlocks rfl hP hD hS (Nat.le_of_ble_eq_true rfl) (Nat.le_of_ble_eq_true rfl) dX1_holdsAlong_221)
      · skip
        have hw := hw.2 (fun q9 => k3 (lc_le.mpr q9))
        refine lv_lload hx hb dX1_holdsAlong_189 (lv_at hl 5 rfl) ?_
        refine lv_aload_n hx hb dX1_holdsAlong_191 rfl (lv_at hl 0 rfl) ?_
        refine k_get (ci := 3) (C := RX1) (T := TX1) (N := 17) (v := .long (gL σ 0)) hx hb hG inX1 hown hK hP 12 wl_12 rfl 2 (by decide) gw143 rfl dX1_holdsAlong_192 ?_
        obtain ⟨hc4, hw⟩ := hw
        refine k_lrem (v := lRem i6_1 (gL σ 0)) hx hb dX1_holdsAlong_195 hc4 rfl ?_
        refine lv_lconst (v := 0) hx hb dX1_holdsAlong_196 (by decide) ?_
        refine k_lcmp (v := lg_cmp (lRem i6_1 (gL σ 0)) 0) hx hb dX1_holdsAlong_197 rfl ?_
        refine lv_if_ne (tgt := 220) hx hb dX1_holdsAlong_198 (by decide) (fun k5 => ?_) (fun k5 => ?_)
        · skip
          have hw := hw.1 (lc_ne.mp k5)
          refine lv_iconst (v := 0) hx hb dX1_holdsAlong_220 (by decide) ?_
          exact vx_ret (m_i ⟨_, rfl, rfl, hw⟩ hx hb hr hlocks rfl hP hD hS (Nat.le_of_ble_eq_true rfl) (Nat.le_of_ble_eq_true rfl) dX1_holdsAlong_221)
        · skip
          have hw := hw.2 (lc_eq.mp k5)
          refine lv_lload hx hb dX1_holdsAlong_201 (lv_at hl 4 rfl) ?_
          refine lv_lload hx hb dX1_holdsAlong_203 (lv_at hl 5 rfl) ?_
          refine lv_aload_n hx hb dX1_holdsAlong_205 rfl (lv_at hl 0 rfl) ?_
          refine k_get (ci := 3) (C := RX1) (T := TX1) (N := 17) (v := .long (gL σ 0)) hx hb hG inX1 hown hK hP 12 wl_12 rfl 2 (by decide) gw143 rfl dX1_holdsAlong_206 ?_
          obtain ⟨hc6, hw⟩ := hw
          refine k_ldiv (v := i6_1 / (gL σ 0)) hx hb dX1_holdsAlong_209 hc6 rfl ?_
          refine k_ladd (v := i4_1 + (i6_1 / (gL σ 0))) hx hb dX1_holdsAlong_210 rfl ?_
          refine lv_lconst (v := 0) hx hb dX1_holdsAlong_211 (by decide) ?_
          refine k_lcmp (v := lg_cmp (i4_1 + (i6_1 / (gL σ 0))) 0) hx hb dX1_holdsAlong_212 rfl ?_
          refine lv_if_ne (tgt := 220) hx hb dX1_holdsAlong_213 (by decide) (fun k7 => ?_) (fun k7 => ?_)
          · skip
            have hw := hw.1 (lc_ne.mp k7)
            refine lv_iconst (v := 0) hx hb dX1_holdsAlong_220 (by decide) ?_
            exact vx_ret (m_i ⟨_, rfl, rfl, hw⟩ hx hb hr hlocks rfl hP hD hS (Nat.le_of_ble_eq_true rfl) (Nat.le_of_ble_eq_true rfl) dX1_holdsAlong_221)
          · skip
            have hw := hw.2 (lc_eq.mp k7)
            refine lv_iconst (v := 1) hx hb dX1_holdsAlong_216 (by decide) ?_
            refine lv_goto (tgt := 221) hx hb dX1_holdsAlong_217 (by decide) ?_
            exact vx_ret (m_i ⟨_, rfl, rfl, hw⟩ hx hb hr hlocks rfl hP hD hS (Nat.le_of_ble_eq_true rfl) (Nat.le_of_ble_eq_true rfl) dX1_holdsAlong_221)
    · skip
      have hw := hw.2 k2
      refine lv_aload_n hx hb dX1_holdsAlong_18 rfl (lv_at hl 1 rfl) ?_
      refine k_get (ci := 4) (C := RX2) (T := TX2) (N := 12) (v := .ref (ad 2)) hx hb hG inX2 hown hK hP 1 wl_1 rfl 2 (by decide) gw77 rfl dX1_holdsAlong_19 ?_
      refine lv_iconst (v := 2) hx hb dX1_holdsAlong_22 (by decide) ?_
      refine lv_iload hx hb dX1_holdsAlong_23 (lv_at hl 6 rfl) ?_
      refine k_imul (v := 2 * i8_1) hx hb dX1_holdsAlong_25 rfl ?_
      refine lv_iconst (v := 0) hx hb dX1_holdsAlong_26 (by decide) ?_
      refine k_iadd (v := (2 * i8_1) + 0) hx hb dX1_holdsAlong_27 rfl ?_
      obtain ⟨hc8, hw⟩ := hw
      refine k_iald (v := gA σ 0 (ix ((2 * i8_1) + 0))) hx hb hK hP 2 wl_2 (ix ((2 * i8_1) + 0)) rfl rfl hc8 dX1_holdsAlong_28 ?_
      refine lv_iload_n hx hb dX1_holdsAlong_29 rfl (lv_at hl 2 rfl) ?_
      refine lv_icmp_le (tgt := 36) hx hb dX1_holdsAlong_30 (by decide) (fun k9 => ?_) (fun k9 => ?_)
      · skip
        have hw := hw.1 k9
        refine lv_lload hx hb dX1_holdsAlong_36 (lv_at hl 4 rfl) ?_
        refine lv_aload_n hx hb dX1_holdsAlong_38 rfl (lv_at hl 1 rfl) ?_
        refine k_get (ci := 4) (C := RX2) (T := TX2) (N := 12) (v := .ref (ad 3)) hx hb hG inX2 hown hK hP 1 wl_1 rfl 3 (by decide) gw79 rfl dX1_holdsAlong_39 ?_
        refine lv_iconst (v := 2) hx hb dX1_holdsAlong_42 (by decide) ?_
        refine lv_iload hx hb dX1_holdsAlong_43 (lv_at hl 6 rfl) ?_
        refine k_imul (v := 2 * i8_1) hx hb dX1_holdsAlong_45 rfl ?_
        refine lv_iload_n hx hb dX1_holdsAlong_46 rfl (lv_at hl 3 rfl) ?_
        refine k_iadd (v := (2 * i8_1) + p3) hx hb dX1_holdsAlong_47 rfl ?_
        obtain ⟨hc10, hw⟩ := hw
        refine k_iald (v := gA σ 1 (ix ((2 * i8_1) + p3))) hx hb hK hP 3 wl_3 (ix ((2 * i8_1) + p3)) rfl rfl hc10 dX1_holdsAlong_48 ?_
        refine lv_i2l (v := (gA σ 1 (ix ((2 * i8_1) + p3))).toInt64) hx hb dX1_holdsAlong_49 rfl ?_
        refine lv_aload_n hx hb dX1_holdsAlong_50 rfl (lv_at hl 0 rfl) ?_
        refine k_get (ci := 3) (C := RX1) (T := TX1) (N := 17) (v := .ref (ad 13)) hx hb hG inX1 hown hK hP 12 wl_12 rfl 3 (by decide) gw144 rfl dX1_holdsAlong_51 ?_
        refine lv_aload_n hx hb dX1_holdsAlong_54 rfl (lv_at hl 0 rfl) ?_
        refine lv_iload hx hb dX1_holdsAlong_55 (lv_at hl 6 rfl) ?_
        refine lv_iload_n hx hb dX1_holdsAlong_57 rfl (lv_at hl 3 rfl) ?_
        refine mc_V hSF hl.1 hP hD hS hA hK hGV (m_X1_bearingIndex l hfl D ad cA g i8_1 p3 σ _ hw) goV_X1_192 pd_X1_bearingIndex ⟨(Nat.le_of_ble_eq_true rfl), (Nat.le_of_ble_eq_true rfl)⟩ ⟨(Nat.le_of_ble_eq_true rfl), (Nat.le_of_ble_eq_true rfl)⟩ (va_recv hK hP (ci := 3) (q0 := 12) rfl wl_12) dX1_holdsAlong_58 rfl (Nat.le_of_ble_eq_true rfl) (fun v9 σ9 H locs hq hP hD hS => ?_) (fun _ _ _ _ _ _ h => h.elim)
        obtain ⟨r11, hv9, hs9, hw⟩ := hq
        subst hv9
        subst σ9
        refine W.eq (g2 := F0 m 61 ls [.int r11, .ref (ad 13), .long ((gA σ 1 (ix ((2 * i8_1) + p3))).toInt64), .long i4_1]) rfl ?_
        refine W.widen (k := 0) (n := 0) (Nat.le_refl _) (Nat.le_refl _) ?_
        obtain ⟨hc12, hw⟩ := hw
        refine k_lald (v := gB σ 0 (ix r11)) hx hb hK hP 13 wl_13 (ix r11) rfl rfl hc12 dX1_holdsAlong_61 ?_
        refine k_ladd (v := ((gA σ 1 (ix ((2 * i8_1) + p3))).toInt64) + (gB σ 0 (ix r11))) hx hb dX1_holdsAlong_62 rfl ?_
        refine k_ladd (v := i4_1 + (((gA σ 1 (ix ((2 * i8_1) + p3))).toInt64) + (gB σ 0 (ix r11)))) hx hb dX1_holdsAlong_63 rfl ?_
        obtain ⟨v13, ev13⟩ : ∃ z : Int64, z = i4_1 + (((gA σ 1 (ix ((2 * i8_1) + p3))).toInt64) + (gB σ 0 (ix r11))) := ⟨_, rfl⟩
        have hw := hw v13 ev13
        refine lv_lstore (lv' := [(4, .long v13), (0, .ref (ad 12)), (1, .ref (ad 1)), (2, .int p2), (3, .int p3), (6, .long i6_1), (8, .int i8_1)]) hx hb dX1_holdsAlong_64 hl (by decide) (by subst ev13; rfl) (fun ls hl => ?_)
        refine lv_lload hx hb dX1_holdsAlong_66 (lv_at hl 5 rfl) ?_
        refine lv_aload_n hx hb dX1_holdsAlong_68 rfl (lv_at hl 1 rfl) ?_
        refine k_get (ci := 3) (C := RX1) (T := TX1) (N := 17) (v := .ref (ad 14)) hx hb hG inX1 hown hK hP 12 wl_12 rfl 4 (by decide) gw145 rfl dX1_holdsAlong_69 ?_
        refine lv_aload_n hx hb dX1_holdsAlong_72 rfl (lv_at hl 1 rfl) ?_
        refine lv_iload hx hb dX1_holdsAlong_73 (lv_at hl 6 rfl) ?_
        refine lv_iload_n hx hb dX1_holdsAlong_75 rfl (lv_at hl 4 rfl) ?_
        refine mc_V hSF hl.1 hP hD hS hA hK hGV (m_X1_bearingIndex l hfl D ad cA g i8_1 p3 σ _ hw) goV_X1_192 pd_X1_bearingIndex ⟨(Nat.le_of_ble_eq_true rfl), (Nat.le_of_ble_eq_true rfl)⟩ ⟨(Nat.le_of_ble_eq_true rfl), (Nat.le_of_ble_eq_true rfl)⟩ (va_recv hK hP (ci := 3) (q0 := 12) rfl wl_12) dX1_holdsAlong_76 rfl (Nat.le_of_ble_eq_true rfl) (fun v9 σ9 H locs hq hP hD hS => ?_) (fun _ _ _ _ _ _ h => h.elim)
        obtain ⟨r14, hv9, hs9, hw⟩ := hq
        subst hv9
        subst σ9
        refine W.eq (g2 := F0 m 79 ls [.int r14, .ref (ad 14), .long i6_1]) rfl ?_
        refine W.widen (k := 0) (n := 0) (Nat.le_refl _) (Nat.le_refl _) ?_
        obtain ⟨hc15, hw⟩ := hw
        refine k_lald (v := gB σ 1 (ix r14)) hx hb hK hP 14 wl_14 (ix r14) rfl rfl hc15 dX1_holdsAlong_79 ?_
        refine k_ladd (v := i6_1 + (gB σ 1 (ix r14))) hx hb dX1_holdsAlong_80 rfl ?_
        obtain ⟨v16, ev16⟩ : ∃ z : Int64, z = i6_1 + (gB σ 1 (ix r14)) := ⟨_, rfl⟩
        have hw := hw v16 ev16
        refine lv_lstore (lv' := [(6, .long v16), (4, .long v13), (0, .ref (ad 12)), (1, .ref (ad 1)), (2, .int p2), (3, .int p3), (8, .int i8_1)]) hx hb dX1_holdsAlong_81 hl (by decide) (by subst ev16; rfl) (fun ls hl => ?_)
        refine lv_iconst (v := 0) hx hb dX1_holdsAlong_83 (by decide) ?_
        refine lv_istore (lv' := [(9, .int 0), (6, .long v16), (4, .long v13), (0, .ref (ad 12)), (1, .ref (ad 1)), (2, .int p2), (3, .int p3), (8, .int i8_1)]) hx hb dX1_holdsAlong_84 hl (by decide) rfl (fun ls hl => ?_)
        obtain ⟨I17, μ17, hI17, hw17⟩ := hw
        have hl : lv_has ls 12 [(0, .ref (ad 12)), (1, .ref (ad 1)), (2, .int p2), (3, .int p3), (4, .long v13), (6, .long v16), (8, .int i8_1), (9, .int 0)] := lv_sub hl [3, 4, 5, 6, 2, 1, 7, 0] rfl
        suffices key17 : ∀ (n17 : Nat) (i4_17 : Int64) (i6_17 : Int64) (i9_17 : Int32), μ17 i4_17 i6_17 i9_17 < n17 → I17 i4_17 i6_17 i9_17 → ∀ (H : Heap) (locs : List Loc) (ls : Array Slot), va_P D vwCl (WL ad cA σ) H → va_D A (WL ad cA σ) → va_S A s.heap H locs → lv_has ls 12 [(0, .ref (ad 12)), (1, .ref (ad 1)), (2, .int p2), (3, .int p3), (4, .long i4_17), (6, .long i6_17), (8, .int i8_1), (9, .int i9_17)] → W p l e (RM 2 0 0 46) s m args below meth c H locs (0) (0) (vx_MQ below (QM D ad cA A (fun v σ' => ∃ r : Int32, v = some (.int r) ∧ σ' = σ ∧ Q r)) (XM D ad cA A (fun _ _ => False)) args s (RM 2 0 0 46).cells (RM 2 0 0 46).slots A) (F0 m 86 ls []) from key17 _ _ _ _ (Nat.lt_succ_self _) hI17 _ _ ls hP hD hS hl
        clear hP hD hS hl
        intro n17
        induction n17 with
        | zero => intro _ _ _ h; exact absurd h (Nat.not_lt_zero _)
        | succ n17 ih17 =>
          intro i4_17 i6_17 i9_17 hm17 hI17 H locs ls hP hD hS hl
          have hw := hw17 i4_17 i6_17 i9_17 hI17
          refine lv_iload hx hb dX1_holdsAlong_86 (lv_at hl 7 rfl) ?_
          refine lv_aload_n hx hb dX1_holdsAlong_88 rfl (lv_at hl 1 rfl) ?_
          refine k_get (ci := 4) (C := RX2) (T := TX2) (N := 12) (v := .int (gI σ 1)) hx hb hG inX2 hown hK hP 1 wl_1 rfl 1 (by decide) gw75 rfl dX1_holdsAlong_89 ?_
          refine lv_icmp_ge (tgt := 174) hx hb dX1_holdsAlong_92 (by decide) (fun k18 => ?_) (fun k18 => ?_)
          · skip
            have hw := hw.1 k18
            refine lv_iinc (v := i8_1 + 1) (lv' := [(8, .int (i8_1 + 1)), (0, .ref (ad 12)), (1, .ref (ad 1)), (2, .int p2), (3, .int p3), (4, .long i4_17), (6, .long i6_17), (9, .int i9_17)]) hx hb dX1_holdsAlong_174 hl (k := 6) rfl rfl (by decide) rfl (fun ls hl => ?_)
            refine lv_goto (tgt := 9) hx hb dX1_holdsAlong_177 (by decide) ?_
            exact ih1 i4_17 i6_17 (i8_1 + 1) (Nat.lt_of_lt_of_le hw.2 (Nat.le_of_lt_succ hm1)) hw.1 _ _ ls hP hD hS (lv_sub hl [1, 2, 3, 4, 5, 6, 0] rfl)
          · skip
            have hw := hw.2 k18
            refine lv_aload_n hx hb dX1_holdsAlong_95 rfl (lv_at hl 1 rfl) ?_
            refine lv_iload hx hb dX1_holdsAlong_96 (lv_at hl 7 rfl) ?_
            refine lv_iload hx hb dX1_holdsAlong_98 (lv_at hl 6 rfl) ?_
            refine mc_V hSF hl.1 hP hD hS hA hK hGV (m_X2_otherEnd l hfl D ad cA g i9_17 i8_1 σ _ hw) goV_X1_196 pd_X2_otherEnd ⟨(Nat.le_of_ble_eq_true rfl), (Nat.le_of_ble_eq_true rfl)⟩ ⟨(Nat.le_of_ble_eq_true rfl), (Nat.le_of_ble_eq_true rfl)⟩ (va_recv hK hP (ci := 4) (q0 := 1) rfl wl_1) dX1_holdsAlong_100 rfl (Nat.le_of_ble_eq_true rfl) (fun v9 σ9 H locs hq hP hD hS => ?_) (fun _ _ _ _ _ _ h => h.elim)
            obtain ⟨r19, hv9, hs9, hw⟩ := hq
            subst hv9
            subst σ9
            refine W.eq (g2 := F0 m 103 ls [.int r19]) rfl ?_
            refine W.widen (k := 0) (n := 0) (Nat.le_refl _) (Nat.le_refl _) ?_
            refine lv_istore (lv' := [(10, .int r19), (0, .ref (ad 12)), (1, .ref (ad 1)), (2, .int p2), (3, .int p3), (4, .long i4_17), (6, .long i6_17), (8, .int i8_1), (9, .int i9_17)]) hx hb dX1_holdsAlong_103 hl (by decide) rfl (fun ls hl => ?_)
            refine lv_iload hx hb dX1_holdsAlong_105 (lv_at hl 0 rfl) ?_
            refine lv_if_lt (tgt := 168) hx hb dX1_holdsAlong_107 (by decide) (fun k20 => ?_) (fun k20 => ?_)
            · skip
              have hw := hw.1 k20
              refine lv_iinc (v := i9_17 + 1) (lv' := [(9, .int (i9_17 + 1)), (10, .int r19), (0, .ref (ad 12)), (1, .ref (ad 1)), (2, .int p2), (3, .int p3), (4, .long i4_17), (6, .long i6_17), (8, .int i8_1)]) hx hb dX1_holdsAlong_168 hl (k := 8) rfl rfl (by decide) rfl (fun ls hl => ?_)
              refine lv_goto (tgt := 86) hx hb dX1_holdsAlong_171 (by decide) ?_
              exact ih17 i4_17 i6_17 (i9_17 + 1) (Nat.lt_of_lt_of_le hw.2 (Nat.le_of_lt_succ hm17)) hw.1 _ _ ls hP hD hS (lv_sub hl [2, 3, 4, 5, 6, 7, 8, 0] rfl)
            · skip
              have hw := hw.2 k20
              refine lv_aload_n hx hb dX1_holdsAlong_110 rfl (lv_at hl 2 rfl) ?_
              refine k_get (ci := 4) (C := RX2) (T := TX2) (N := 12) (v := .ref (ad 2)) hx hb hG inX2 hown hK hP 1 wl_1 rfl 2 (by decide) gw77 rfl dX1_holdsAlong_111 ?_
              refine lv_iconst (v := 2) hx hb dX1_holdsAlong_114 (by decide) ?_
              refine lv_iload hx hb dX1_holdsAlong_115 (lv_at hl 0 rfl) ?_
              refine k_imul (v := 2 * r19) hx hb dX1_holdsAlong_117 rfl ?_
              refine lv_iconst (v := 0) hx hb dX1_holdsAlong_118 (by decide) ?_
              refine k_iadd (v := (2 * r19) + 0) hx hb dX1_holdsAlong_119 rfl ?_
              obtain ⟨hc21, hw⟩ := hw
              refine k_iald (v := gA σ 0 (ix ((2 * r19) + 0))) hx hb hK hP 2 wl_2 (ix ((2 * r19) + 0)) rfl rfl hc21 dX1_holdsAlong_120 ?_
              refine lv_iload_n hx hb dX1_holdsAlong_121 rfl (lv_at hl 3 rfl) ?_
              refine lv_icmp_le (tgt := 168) hx hb dX1_holdsAlong_122 (by decide) (fun k22 => ?_) (fun k22 => ?_)
              · skip
                have hw := hw.1 k22
                refine lv_iinc (v := i9_17 + 1) (lv' := [(9, .int (i9_17 + 1)), (10, .int r19), (0, .ref (ad 12)), (1, .ref (ad 1)), (2, .int p2), (3, .int p3), (4, .long i4_17), (6, .long i6_17), (8, .int i8_1)]) hx hb dX1_holdsAlong_168 hl (k := 8) rfl rfl (by decide) rfl (fun ls hl => ?_)
                refine lv_goto (tgt := 86) hx hb dX1_holdsAlong_171 (by decide) ?_
                exact ih17 i4_17 i6_17 (i9_17 + 1) (Nat.lt_of_lt_of_le hw.2 (Nat.le_of_lt_succ hm17)) hw.1 _ _ ls hP hD hS (lv_sub hl [2, 3, 4, 5, 6, 7, 8, 0] rfl)
              · skip
                have hw := hw.2 k22
                refine lv_aload_n hx hb dX1_holdsAlong_125 rfl (lv_at hl 2 rfl) ?_
                refine lv_iload hx hb dX1_holdsAlong_126 (lv_at hl 8 rfl) ?_
                refine lv_iload hx hb dX1_holdsAlong_128 (lv_at hl 7 rfl) ?_
                refine lv_iload_n hx hb dX1_holdsAlong_130 rfl (lv_at hl 4 rfl) ?_
                refine mc_V hSF hl.1 hP hD hS hA hK hGV (m_X2_wayAlong l hfl D ad cA g i9_17 i8_1 p3 σ _ hw) goV_X1_112 pd_X2_wayAlong ⟨(Nat.le_of_ble_eq_true rfl), (Nat.le_of_ble_eq_true rfl)⟩ ⟨(Nat.le_of_ble_eq_true rfl), (Nat.le_of_ble_eq_true rfl)⟩ (va_recv hK hP (ci := 4) (q0 := 1) rfl wl_1) dX1_holdsAlong_131 rfl (Nat.le_of_ble_eq_true rfl) (fun v9 σ9 H locs hq hP hD hS => ?_) (fun _ _ _ _ _ _ h => h.elim)
                obtain ⟨r23, hv9, hs9, hw⟩ := hq
                subst hv9
                subst σ9
                refine W.eq (g2 := F0 m 134 ls [.int r23]) rfl ?_
                refine W.widen (k := 0) (n := 0) (Nat.le_refl _) (Nat.le_refl _) ?_
                refine lv_istore (lv' := [(11, .int r23), (10, .int r19), (0, .ref (ad 12)), (1, .ref (ad 1)), (2, .int p2), (3, .int p3), (4, .long i4_17), (6, .long i6_17), (8, .int i8_1), (9, .int i9_17)]) hx hb dX1_holdsAlong_134 hl (by decide) rfl (fun ls hl => ?_)
                refine lv_lload hx hb dX1_holdsAlong_136 (lv_at hl 6 rfl) ?_
                refine lv_iload hx hb dX1_holdsAlong_138 (lv_at hl 0 rfl) ?_
                refine lv_i2l (v := r23.toInt64) hx hb dX1_holdsAlong_140 rfl ?_
                refine lv_aload_n hx hb dX1_holdsAlong_141 rfl (lv_at hl 2 rfl) ?_
                refine k_get (ci := 3) (C := RX1) (T := TX1) (N := 17) (v := .ref (ad 13)) hx hb hG inX1 hown hK hP 12 wl_12 rfl 3 (by decide) gw144 rfl dX1_holdsAlong_142 ?_
                refine lv_iload hx hb dX1_holdsAlong_145 (lv_at hl 9 rfl) ?_
                obtain ⟨hc24, hw⟩ := hw
                refine k_lald (v := gB σ 0 (ix i9_17)) hx hb hK hP 13 wl_13 (ix i9_17) rfl rfl hc24 dX1_holdsAlong_147 ?_
                refine k_lmul (v := r23.toInt64 * (gB σ 0 (ix i9_17))) hx hb dX1_holdsAlong_148 rfl ?_
                refine k_ladd (v := i4_17 + (r23.toInt64 * (gB σ 0 (ix i9_17)))) hx hb dX1_holdsAlong_149 rfl ?_
                obtain ⟨v25, ev25⟩ : ∃ z : Int64, z = i4_17 + (r23.toInt64 * (gB σ 0 (ix i9_17))) := ⟨_, rfl⟩
                have hw := hw v25 ev25
                refine lv_lstore (lv' := [(4, .long v25), (11, .int r23), (10, .int r19), (0, .ref (ad 12)), (1, .ref (ad 1)), (2, .int p2), (3, .int p3), (6, .long i6_17), (8, .int i8_1), (9, .int i9_17)]) hx hb dX1_holdsAlong_150 hl (by decide) (by subst ev25; rfl) (fun ls hl => ?_)
                refine lv_lload hx hb dX1_holdsAlong_152 (lv_at hl 7 rfl) ?_
                refine lv_iload hx hb dX1_holdsAlong_154 (lv_at hl 1 rfl) ?_
                refine lv_i2l (v := r23.toInt64) hx hb dX1_holdsAlong_156 rfl ?_
                refine lv_aload_n hx hb dX1_holdsAlong_157 rfl (lv_at hl 3 rfl) ?_
                refine k_get (ci := 3) (C := RX1) (T := TX1) (N := 17) (v := .ref (ad 14)) hx hb hG inX1 hown hK hP 12 wl_12 rfl 4 (by decide) gw145 rfl dX1_holdsAlong_158 ?_
                refine lv_iload hx hb dX1_holdsAlong_161 (lv_at hl 9 rfl) ?_
                obtain ⟨hc26, hw⟩ := hw
                refine k_lald (v := gB σ 1 (ix i9_17)) hx hb hK hP 14 wl_14 (ix i9_17) rfl rfl hc26 dX1_holdsAlong_163 ?_
                refine k_lmul (v := r23.toInt64 * (gB σ 1 (ix i9_17))) hx hb dX1_holdsAlong_164 rfl ?_
                refine k_ladd (v := i6_17 + (r23.toInt64 * (gB σ 1 (ix i9_17)))) hx hb dX1_holdsAlong_165 rfl ?_
                obtain ⟨v27, ev27⟩ : ∃ z : Int64, z = i6_17 + (r23.toInt64 * (gB σ 1 (ix i9_17))) := ⟨_, rfl⟩
                have hw := hw v27 ev27
                refine lv_lstore (lv' := [(6, .long v27), (4, .long v25), (11, .int r23), (10, .int r19), (0, .ref (ad 12)), (1, .ref (ad 1)), (2, .int p2), (3, .int p3), (8, .int i8_1), (9, .int i9_17)]) hx hb dX1_holdsAlong_166 hl (by decide) (by subst ev27; rfl) (fun ls hl => ?_)
                refine lv_iinc (v := i9_17 + 1) (lv' := [(9, .int (i9_17 + 1)), (6, .long v27), (4, .long v25), (11, .int r23), (10, .int r19), (0, .ref (ad 12)), (1, .ref (ad 1)), (2, .int p2), (3, .int p3), (8, .int i8_1)]) hx hb dX1_holdsAlong_168 hl (k := 9) rfl rfl (by decide) rfl (fun ls hl => ?_)
                refine lv_goto (tgt := 86) hx hb dX1_holdsAlong_171 (by decide) ?_
                exact ih17 v25 v27 (i9_17 + 1) (Nat.lt_of_lt_of_le hw.2 (Nat.le_of_lt_succ hm17)) hw.1 _ _ ls hP hD hS (lv_sub hl [5, 6, 7, 8, 2, 1, 9, 0] rfl)
      · skip
        have hw := hw.2 k9
        refine lv_goto (tgt := 174) hx hb dX1_holdsAlong_33 (by decide) ?_
        refine lv_iinc (v := i8_1 + 1) (lv' := [(8, .int (i8_1 + 1)), (0, .ref (ad 12)), (1, .ref (ad 1)), (2, .int p2), (3, .int p3), (4, .long i4_1), (6, .long i6_1)]) hx hb dX1_holdsAlong_174 hl (k := 6) rfl rfl (by decide) rfl (fun ls hl => ?_)
        refine lv_goto (tgt := 9) hx hb dX1_holdsAlong_177 (by decide) ?_
        exact ih1 i4_1 i6_1 (i8_1 + 1) (Nat.lt_of_lt_of_le hw.2 (Nat.le_of_lt_succ hm1)) hw.1 _ _ ls hP hD hS (lv_sub hl [1, 2, 3, 4, 5, 6, 0] rfl)

set_option maxHeartbeats 4000000 in
set_option maxRecDepth 100000 in
theorem m_X1_holdsAt (l : Launch) (hfl : l.stackTraces = false) (D : va_G) (ad : Nat → Nat) (cA : Nat → ClassId) (g : gv_T) (p2 : Int32) (σ : Sg) (Q : Int32 → Prop) (hw : w_X1_holdsAt p2 σ Q) : MC l yX1_holdsAt cX1_holdsAt 3 (some .boolean) (RM 3 0 0 77) D ad cA g [.ref (ad 12), .ref (ad 1), .int p2] σ (fun v σ' => ∃ r : Int32, v = some (.int r) ∧ σ' = σ ∧ Q r) (fun _ _ => False) := by
  refine MC.of (plainFor_of_name (by decide +kernel)) (Nat.le_of_ble_eq_true rfl) ?_
  intro p e s m args below meth c A ls hx hb hr hml hown hG hlocks htab hA hS hP hK hD hGV hl
  have hown : s.vm.findClass RX1 = some m.cls := hown
  have hl : lv_has ls 3 [(0, .ref (ad 12)), (1, .ref (ad 1)), (2, .int p2)] := hl
  have hSF : CF p m c cX1_holdsAt 3 s args RX1 := ⟨hx, hb, hml, hown, hG⟩
  refine lv_aload_n hx hb dX1_holdsAt_0 rfl (lv_at hl 0 rfl) ?_
  refine lv_aload_n hx hb dX1_holdsAt_1 rfl (lv_at hl 1 rfl) ?_
  refine lv_iload_n hx hb dX1_holdsAt_2 rfl (lv_at hl 2 rfl) ?_
  refine lv_iconst (v := 0) hx hb dX1_holdsAt_3 (by decide) ?_
  refine mc_V hSF hl.1 hP hD hS hA hK hGV (m_X1_holdsAlong l hfl D ad cA g p2 0 σ _ hw) goV_X1_185 pd_X1_holdsAlong ⟨(Nat.le_of_ble_eq_true rfl), (Nat.le_of_ble_eq_true rfl)⟩ ⟨(Nat.le_of_ble_eq_true rfl), (Nat.le_of_ble_eq_true rfl)⟩ (va_recv hK hP (ci := 3) (q0 := 12) rfl wl_12) dX1_holdsAt_4 rfl (Nat.le_of_ble_eq_true rfl) (fun v9 σ9 H locs hq hP hD hS => ?_) (fun _ _ _ _ _ _ h => h.elim)
  obtain ⟨r1, hv9, hs9, hw⟩ := hq
  subst hv9
  subst σ9
  refine W.eq (g2 := F0 m 7 ls [.int r1]) rfl ?_
  refine W.widen (k := 0) (n := 0) (Nat.le_refl _) (Nat.le_refl _) ?_
  refine lv_if_eq (tgt := 24) hx hb dX1_holdsAt_7 (by decide) (fun k2 => ?_) (fun k2 => ?_)
  · skip
    have hw := hw.1 k2
    refine lv_iconst (v := 0) hx hb dX1_holdsAt_24 (by decide) ?_
    exact vx_ret (m_i ⟨_, rfl, rfl, hw⟩ hx hb hr hlocks rfl hP hD hS (Nat.le_of_ble_eq_true rfl) (Nat.le_of_ble_eq_true rfl) dX1_holdsAt_25)
  · skip
    have hw := hw.2 k2
    refine lv_aload_n hx hb dX1_holdsAt_10 rfl (lv_at hl 0 rfl) ?_
    refine lv_aload_n hx hb dX1_holdsAt_11 rfl (lv_at hl 1 rfl) ?_
    refine lv_iload_n hx hb dX1_holdsAt_12 rfl (lv_at hl 2 rfl) ?_
    refine lv_iconst (v := 1) hx hb dX1_holdsAt_13 (by decide) ?_
    refine mc_V hSF hl.1 hP hD hS hA hK hGV (m_X1_holdsAlong l hfl D ad cA g p2 1 σ _ hw) goV_X1_185 pd_X1_holdsAlong ⟨(Nat.le_of_ble_eq_true rfl), (Nat.le_of_ble_eq_true rfl)⟩ ⟨(Nat.le_of_ble_eq_true rfl), (Nat.le_of_ble_eq_true rfl)⟩ (va_recv hK hP (ci := 3) (q0 := 12) rfl wl_12) dX1_holdsAt_14 rfl (Nat.le_of_ble_eq_true rfl) (fun v9 σ9 H locs hq hP hD hS => ?_) (fun _ _ _ _ _ _ h => h.elim)
    obtain ⟨r3, hv9, hs9, hw⟩ := hq
    subst hv9
    subst σ9
    refine W.eq (g2 := F0 m 17 ls [.int r3]) rfl ?_
    refine W.widen (k := 0) (n := 0) (Nat.le_refl _) (Nat.le_refl _) ?_
    refine lv_if_eq (tgt := 24) hx hb dX1_holdsAt_17 (by decide) (fun k4 => ?_) (fun k4 => ?_)
    · skip
      have hw := hw.1 k4
      refine lv_iconst (v := 0) hx hb dX1_holdsAt_24 (by decide) ?_
      exact vx_ret (m_i ⟨_, rfl, rfl, hw⟩ hx hb hr hlocks rfl hP hD hS (Nat.le_of_ble_eq_true rfl) (Nat.le_of_ble_eq_true rfl) dX1_holdsAt_25)
    · skip
      have hw := hw.2 k4
      refine lv_iconst (v := 1) hx hb dX1_holdsAt_20 (by decide) ?_
      refine lv_goto (tgt := 25) hx hb dX1_holdsAt_21 (by decide) ?_
      exact vx_ret (m_i ⟨_, rfl, rfl, hw⟩ hx hb hr hlocks rfl hP hD hS (Nat.le_of_ble_eq_true rfl) (Nat.le_of_ble_eq_true rfl) dX1_holdsAt_25)

set_option maxHeartbeats 4000000 in
set_option maxRecDepth 100000 in
theorem m_X6_isBalanced (l : Launch) (hfl : l.stackTraces = false) (D : va_G) (ad : Nat → Nat) (cA : Nat → ClassId) (g : gv_T) (p1 : Int32) (σ : Sg) (Q : Int32 → Sg → Prop) (X : String → Sg → Prop) (hw : w_X6_isBalanced p1 σ Q X) : MC l yX6_isBalanced cX6_isBalanced 2 (some .boolean) (RM 7 1 6 140) D ad cA g [.ref (ad 0), .int p1] σ (fun v σ' => ∃ r : Int32, v = some (.int r) ∧ Q r σ') X := by
  refine MC.of (plainFor_of_name (by decide +kernel)) (Nat.le_of_ble_eq_true rfl) ?_
  intro p e s m args below meth c A ls hx hb hr hml hown hG hlocks htab hA hS hP hK hD hGV hl
  have hown : s.vm.findClass RX6 = some m.cls := hown
  have hl : lv_has ls 2 [(0, .ref (ad 0)), (1, .int p1)] := hl
  have hSF : CF p m c cX6_isBalanced 2 s args RX6 := ⟨hx, hb, hml, hown, hG⟩
  refine lv_iload_n hx hb dX6_isBalanced_0 rfl (lv_at hl 1 rfl) ?_
  refine lv_iconst (v := 0) hx hb dX6_isBalanced_1 (by decide) ?_
  refine lv_bipush (v := 30) hx hb dX6_isBalanced_2 (by decide) ?_
  refine mc_S hSF hl.1 hP hD hS hA hK hGV (m_X6_isWithin l hfl D ad cA g p1 0 30 σ _ hw) goS_X6_44 pd_X6_isWithin.2 ⟨(Nat.le_of_ble_eq_true rfl), (Nat.le_of_ble_eq_true rfl)⟩ ⟨(Nat.le_of_ble_eq_true rfl), (Nat.le_of_ble_eq_true rfl)⟩ dX6_isBalanced_4 rfl (Nat.le_of_ble_eq_true rfl) (fun v9 σ9 H locs hq hP hD hS => ?_) (fun _ _ _ _ _ _ h => h.elim)
  obtain ⟨r1, hv9, hs9, hw⟩ := hq
  subst hv9
  subst σ9
  refine W.eq (g2 := F0 m 7 ls [.int r1]) rfl ?_
  refine W.widen (k := 0) (n := 0) (Nat.le_refl _) (Nat.le_refl _) ?_
  refine lv_if_ne (tgt := 20) hx hb dX6_isBalanced_7 (by decide) (fun k2 => ?_) (fun k2 => ?_)
  · skip
    have hw := hw.1 k2
    refine lv_aload_n hx hb dX6_isBalanced_20 rfl (lv_at hl 0 rfl) ?_
    refine mc_V hSF hl.1 hP hD hS hA hK hGV (m_X6_checkStanding l hfl D ad cA g  σ _ _ hw) goV_X6_121 pd_X6_checkStanding ⟨(Nat.le_of_ble_eq_true rfl), (Nat.le_of_ble_eq_true rfl)⟩ ⟨(Nat.le_of_ble_eq_true rfl), (Nat.le_of_ble_eq_true rfl)⟩ (va_recv hK hP (ci := 8) (q0 := 0) rfl wl_0) dX6_isBalanced_21 rfl (Nat.le_of_ble_eq_true rfl) (fun v9 σ4 H locs hq hP hD hS => ?_) (fun E9 σ9 H locs x9 ce9 hw hP hD hS h9 hv9 hc9 => ?_)
    · skip
      obtain ⟨hv9, hw⟩ := hq
      subst hv9
      refine W.eq (g2 := F0 m 24 ls []) rfl ?_
      refine W.widen (k := 1) (n := 6) (Nat.le_refl _) (Nat.le_refl _) ?_
      refine lv_aload_n hx hb dX6_isBalanced_24 rfl (lv_at hl 0 rfl) ?_
      refine k_get (ci := 8) (C := RX6) (T := TX6) (N := 5) (v := .ref (ad 12)) hx hb hG inX6 hown hK hP 0 wl_0 rfl 1 (by decide) gw306 rfl dX6_isBalanced_25 ?_
      refine lv_aload_n hx hb dX6_isBalanced_28 rfl (lv_at hl 0 rfl) ?_
      refine k_get (ci := 8) (C := RX6) (T := TX6) (N := 5) (v := .ref (ad 1)) hx hb hG inX6 hown hK hP 0 wl_0 rfl 0 (by decide) gw305 rfl dX6_isBalanced_29 ?_
      refine lv_iload_n hx hb dX6_isBalanced_32 rfl (lv_at hl 1 rfl) ?_
      refine mc_V hSF hl.1 hP hD hS hA hK hGV (m_X1_holdsAt l hfl D ad cA g p1 σ4 _ hw) goV_X6_138 pd_X1_holdsAt ⟨(Nat.le_of_ble_eq_true rfl), (Nat.le_of_ble_eq_true rfl)⟩ ⟨(Nat.le_of_ble_eq_true rfl), (Nat.le_of_ble_eq_true rfl)⟩ (va_recv hK hP (ci := 3) (q0 := 12) rfl wl_12) dX6_isBalanced_33 rfl (Nat.le_of_ble_eq_true rfl) (fun v9 σ9 H locs hq hP hD hS => ?_) (fun _ _ _ _ _ _ h => h.elim)
      obtain ⟨r5, hv9, hs9, hw⟩ := hq
      subst hv9
      subst σ9
      refine W.eq (g2 := F0 m 36 ls [.int r5]) rfl ?_
      refine W.widen (k := 1) (n := 6) (Nat.le_refl _) (Nat.le_refl _) ?_
      obtain ⟨hc6, hw⟩ := hw
      exact vx_ret (m_i ⟨_, rfl, hw⟩ hx hb hr hlocks hc6 hP hD hS (Nat.le_of_ble_eq_true rfl) (Nat.le_of_ble_eq_true rfl) dX6_isBalanced_36)
    · skip
      exact m_out hw htab hlocks h9 hv9 hc9 hP hD hS (Nat.le_of_ble_eq_true rfl) (Nat.le_of_ble_eq_true rfl)
  · skip
    have hw := hw.2 k2
    exact m_throw hw (names := ["java/lang/RuntimeException", "java/lang/Exception"]) 19 hx hb hfl hown hG hGV htab hlocks (hl.1.trans hml.symm) (by decide +kernel) (by decide +kernel) gw595 gw46 rfl xat_X6_60 hP hD hS dX6_isBalanced_10 dX6_isBalanced_13 dX6_isBalanced_14 dX6_isBalanced_16 dX6_isBalanced_19 (Nat.le_of_ble_eq_true rfl) (Nat.le_of_ble_eq_true rfl) (Nat.le_of_ble_eq_true rfl) (Nat.le_of_ble_eq_true rfl) (Nat.le_of_ble_eq_true rfl) (Nat.le_of_ble_eq_true rfl)

set_option maxHeartbeats 4000000 in
set_option maxRecDepth 100000 in
theorem m_L_isBalanced (l : Launch) (hfl : l.stackTraces = false) (D : va_G) (ad : Nat → Nat) (cA : Nat → ClassId) (g : gv_T) (p1 : Int32) (σ : Sg) (Q : Int32 → Sg → Prop) (hw : w_L_isBalanced p1 σ Q) : MW l yL_isBalanced cL_isBalanced 3 (some .int) [(0, 13, 14, 20), (0, 13, 18, 22)] (RM 8 1 6 161) D ad cA g [.ref (ad 0), .int p1] σ (fun v σ' => ∃ r : Int32, v = some (.int r) ∧ Q r σ') := by
  refine MW.of (by decide +kernel) (Nat.le_of_ble_eq_true rfl) ?_
  intro p e s m args below meth c A ls hx hb hr hml hown hG hlocks htab hA hS hP hK hD hGV hl
  have hown : s.vm.findClass RL = some m.cls := hown
  have hl : lv_has ls 3 [(0, .ref (ad 0)), (1, .int p1)] := hl
  have hSF : CF p m c cL_isBalanced 3 s args RL := ⟨hx, hb, hml, hown, hG⟩
  refine lv_aload_n hx hb dL_isBalanced_0 rfl (lv_at hl 0 rfl) ?_
  refine lv_iload_n hx hb dL_isBalanced_1 rfl (lv_at hl 1 rfl) ?_
  refine mc_V hSF hl.1 hP hD hS hA hK hGV (m_X6_isBalanced l hfl D ad cA g p1 σ _ _ hw) goV_L_45 pd_X6_isBalanced ⟨(Nat.le_of_ble_eq_true rfl), (Nat.le_of_ble_eq_true rfl)⟩ ⟨(Nat.le_of_ble_eq_true rfl), (Nat.le_of_ble_eq_true rfl)⟩ (va_recv hK hP (ci := 8) (q0 := 0) rfl wl_0) dL_isBalanced_2 rfl (Nat.le_of_ble_eq_true rfl) (fun v9 σ2 H locs hq hP hD hS => ?_) (fun E9 σ4 H locs x9 ce9 hw hP hD hS h9 hv9 hc9 => ?_)
  · skip
    obtain ⟨r1, hv9, hw⟩ := hq
    subst hv9
    refine W.eq (g2 := F0 m 5 ls [.int r1]) rfl ?_
    refine W.widen (k := 1) (n := 6) (Nat.le_refl _) (Nat.le_refl _) ?_
    refine lv_if_eq (tgt := 12) hx hb dL_isBalanced_5 (by decide) (fun k3 => ?_) (fun k3 => ?_)
    · skip
      have hw := hw.1 k3
      refine lv_iconst (v := 0) hx hb dL_isBalanced_12 (by decide) ?_
      exact m_i ⟨_, rfl, hw⟩ hx hb hr hlocks rfl hP hD hS (Nat.le_of_ble_eq_true rfl) (Nat.le_of_ble_eq_true rfl) dL_isBalanced_13
    · skip
      have hw := hw.2 k3
      refine lv_iconst (v := 1) hx hb dL_isBalanced_8 (by decide) ?_
      refine lv_goto (tgt := 13) hx hb dL_isBalanced_9 (by decide) ?_
      exact m_i ⟨_, rfl, hw⟩ hx hb hr hlocks rfl hP hD hS (Nat.le_of_ble_eq_true rfl) (Nat.le_of_ble_eq_true rfl) dL_isBalanced_13
  · skip
    rcases hw with ⟨rfl, hw⟩ | ⟨rfl, hw⟩
    · skip
      refine vx_catch (own := RL) (name := "java/lang/IllegalArgumentException") hown [] { startPc := 0, endPc := 13, handlerPc := 14, catchType := 20 } [{ startPc := 0, endPc := 13, handlerPc := 18, catchType := 22 }] (htab.trans rfl) (fun z hz => nomatch hz) rfl (by decide) (hG _ gw499) (va_Nw.use rfl (hGV.nw _ gw597)) h9 hv9 hc9 ?_
      refine W.eq (g2 := F0 m 14 ls [.ref x9]) rfl ?_
      refine W.widen (k := 1) (n := 6) (Nat.le_refl _) (Nat.le_refl _) ?_
      refine lv_astore_n (lv' := [(2, .ref x9), (0, .ref (ad 0)), (1, .int p1)]) hx hb dL_isBalanced_14 rfl hl (by decide) rfl (fun ls hl => ?_)
      refine lv_bipush (v := (-78)) hx hb dL_isBalanced_15 (by decide) ?_
      exact m_i ⟨_, rfl, hw⟩ hx hb hr hlocks rfl hP hD hS (Nat.le_of_ble_eq_true rfl) (Nat.le_of_ble_eq_true rfl) dL_isBalanced_17
    · skip
      refine vx_catch (own := RL) (name := "java/lang/IllegalStateException") hown [{ startPc := 0, endPc := 13, handlerPc := 14, catchType := 20 }] { startPc := 0, endPc := 13, handlerPc := 18, catchType := 22 } [] (htab.trans rfl) (fun z hz => by rcases List.mem_singleton.mp hz with rfl; exact Or.inr ⟨by decide, "java/lang/IllegalArgumentException", hG _ gw499, hGV.nc ("java/lang/IllegalStateException", "java/lang/IllegalArgumentException") (by decide)⟩) rfl (by decide) (hG _ gw500) (va_Nw.use rfl (hGV.nw _ gw669)) h9 hv9 hc9 ?_
      refine W.eq (g2 := F0 m 18 ls [.ref x9]) rfl ?_
      refine W.widen (k := 1) (n := 6) (Nat.le_refl _) (Nat.le_refl _) ?_
      refine lv_astore_n (lv' := [(2, .ref x9), (0, .ref (ad 0)), (1, .int p1)]) hx hb dL_isBalanced_18 rfl hl (by decide) rfl (fun ls hl => ?_)
      refine lv_bipush (v := (-79)) hx hb dL_isBalanced_19 (by decide) ?_
      exact m_i ⟨_, rfl, hw⟩ hx hb hr hlocks rfl hP hD hS (Nat.le_of_ble_eq_true rfl) (Nat.le_of_ble_eq_true rfl) dL_isBalanced_21

set_option maxHeartbeats 4000000 in
set_option maxRecDepth 100000 in
theorem m_X6_weakest (l : Launch) (hfl : l.stackTraces = false) (D : va_G) (ad : Nat → Nat) (cA : Nat → ClassId) (g : gv_T) (σ : Sg) (Q : Int32 → Sg → Prop) (X : String → Sg → Prop) (hw : w_X6_weakest  σ Q X) : MC l yX6_weakest cX6_weakest 3 (some .int) (RM 7 2 12 140) D ad cA g [.ref (ad 0)] σ (fun v σ' => ∃ r : Int32, v = some (.int r) ∧ Q r σ') X := by
  refine MC.of (plainFor_of_name (by decide +kernel)) (Nat.le_of_ble_eq_true rfl) ?_
  intro p e s m args below meth c A ls hx hb hr hml hown hG hlocks htab hA hS hP hK hD hGV hl
  have hown : s.vm.findClass RX6 = some m.cls := hown
  have hl : lv_has ls 3 [(0, .ref (ad 0))] := hl
  have hSF : CF p m c cX6_weakest 3 s args RX6 := ⟨hx, hb, hml, hown, hG⟩
  refine lv_aload_n hx hb dX6_weakest_0 rfl (lv_at hl 0 rfl) ?_
  refine mc_V hSF hl.1 hP hD hS hA hK hGV (m_X6_checkStanding l hfl D ad cA g  σ _ _ hw) goV_X6_121 pd_X6_checkStanding ⟨(Nat.le_of_ble_eq_true rfl), (Nat.le_of_ble_eq_true rfl)⟩ ⟨(Nat.le_of_ble_eq_true rfl), (Nat.le_of_ble_eq_true rfl)⟩ (va_recv hK hP (ci := 8) (q0 := 0) rfl wl_0) dX6_weakest_1 rfl (Nat.le_of_ble_eq_true rfl) (fun v9 σ2 H locs hq hP hD hS => ?_) (fun E9 σ9 H locs x9 ce9 hw hP hD hS h9 hv9 hc9 => ?_)
  · skip
    obtain ⟨hv9, hw⟩ := hq
    subst hv9
    refine W.eq (g2 := F0 m 4 ls []) rfl ?_
    refine W.widen (k := 1) (n := 6) (Nat.le_refl _) (Nat.le_refl _) ?_
    refine lv_aload_n hx hb dX6_weakest_4 rfl (lv_at hl 0 rfl) ?_
    refine k_get (ci := 8) (C := RX6) (T := TX6) (N := 5) (v := .ref (ad 1)) hx hb hG inX6 hown hK hP 0 wl_0 rfl 0 (by decide) gw305 rfl dX6_weakest_5 ?_
    refine k_get (ci := 4) (C := RX2) (T := TX2) (N := 12) (v := .int (gI σ2 1)) hx hb hG inX2 hown hK hP 1 wl_1 rfl 1 (by decide) gw73 rfl dX6_weakest_8 ?_
    refine lv_if_ne (tgt := 24) hx hb dX6_weakest_11 (by decide) (fun k3 => ?_) (fun k3 => ?_)
    · skip
      have hw := hw.1 k3
      refine lv_iconst (v := 0) hx hb dX6_weakest_24 (by decide) ?_
      refine lv_istore_n (lv' := [(1, .int 0), (0, .ref (ad 0))]) hx hb dX6_weakest_25 rfl hl (by decide) rfl (fun ls hl => ?_)
      refine lv_iconst (v := 1) hx hb dX6_weakest_26 (by decide) ?_
      refine lv_istore_n (lv' := [(2, .int 1), (1, .int 0), (0, .ref (ad 0))]) hx hb dX6_weakest_27 rfl hl (by decide) rfl (fun ls hl => ?_)
      obtain ⟨I4, μ4, hI4, hw4⟩ := hw
      have hl : lv_has ls 3 [(0, .ref (ad 0)), (1, .int 0), (2, .int 1)] := lv_sub hl [2, 1, 0] rfl
      suffices key4 : ∀ (n4 : Nat) (i1_4 : Int32) (i2_4 : Int32), μ4 i1_4 i2_4 < n4 → I4 i1_4 i2_4 → ∀ (H : Heap) (locs : List Loc) (ls : Array Slot), va_P D vwCl (WL ad cA σ2) H → va_D A (WL ad cA σ2) → va_S A s.heap H locs → lv_has ls 3 [(0, .ref (ad 0)), (1, .int i1_4), (2, .int i2_4)] → W p l e (RM 7 2 12 140) s m args below meth c H locs (1) (6) (vx_MQ below (QM D ad cA A (fun v σ' => ∃ r : Int32, v = some (.int r) ∧ Q r σ')) (XM D ad cA A X) args s (RM 7 2 12 140).cells (RM 7 2 12 140).slots A) (F0 m 28 ls []) from key4 _ _ _ (Nat.lt_succ_self _) hI4 _ _ ls hP hD hS hl
      clear hP hD hS hl
      intro n4
      induction n4 with
      | zero => intro _ _ h; exact absurd h (Nat.not_lt_zero _)
      | succ n4 ih4 =>
        intro i1_4 i2_4 hm4 hI4 H locs ls hP hD hS hl
        have hw := hw4 i1_4 i2_4 hI4
        refine lv_iload_n hx hb dX6_weakest_28 rfl (lv_at hl 2 rfl) ?_
        refine lv_aload_n hx hb dX6_weakest_29 rfl (lv_at hl 0 rfl) ?_
        refine k_get (ci := 8) (C := RX6) (T := TX6) (N := 5) (v := .ref (ad 1)) hx hb hG inX6 hown hK hP 0 wl_0 rfl 0 (by decide) gw305 rfl dX6_weakest_30 ?_
        refine k_get (ci := 4) (C := RX2) (T := TX2) (N := 12) (v := .int (gI σ2 1)) hx hb hG inX2 hown hK hP 1 wl_1 rfl 1 (by decide) gw73 rfl dX6_weakest_33 ?_
        refine lv_icmp_ge (tgt := 75) hx hb dX6_weakest_36 (by decide) (fun k5 => ?_) (fun k5 => ?_)
        · skip
          have hw := hw.1 k5
          refine lv_iload_n hx hb dX6_weakest_75 rfl (lv_at hl 1 rfl) ?_
          exact vx_ret (m_i ⟨_, rfl, hw⟩ hx hb hr hlocks rfl hP hD hS (Nat.le_of_ble_eq_true rfl) (Nat.le_of_ble_eq_true rfl) dX6_weakest_76)
        · skip
          have hw := hw.2 k5
          refine lv_aload_n hx hb dX6_weakest_39 rfl (lv_at hl 0 rfl) ?_
          refine k_get (ci := 8) (C := RX6) (T := TX6) (N := 5) (v := .ref (ad 12)) hx hb hG inX6 hown hK hP 0 wl_0 rfl 1 (by decide) gw306 rfl dX6_weakest_40 ?_
          refine k_get (ci := 3) (C := RX1) (T := TX1) (N := 17) (v := .ref (ad 15)) hx hb hG inX1 hown hK hP 12 wl_12 rfl 5 (by decide) gw147 rfl dX6_weakest_43 ?_
          refine lv_iload_n hx hb dX6_weakest_46 rfl (lv_at hl 2 rfl) ?_
          obtain ⟨hc6, hw⟩ := hw
          refine k_lald (v := gB σ2 2 (ix i2_4)) hx hb hK hP 15 wl_15 (ix i2_4) rfl rfl hc6 dX6_weakest_47 ?_
          refine k_mabsl (v := mabsl (gB σ2 2 (ix i2_4))) hx hb (hml.trans hl.1.symm) hown (hG _ gw871) (hG _ gw364) (hG _ gw41) (hG _ gw365) (Nat.le_of_ble_eq_true rfl) (Nat.le_of_ble_eq_true rfl) (Nat.le_of_ble_eq_true rfl) (Nat.le_of_ble_eq_true rfl) dX6_weakest_48 rfl ?_
          refine lv_aload_n hx hb dX6_weakest_51 rfl (lv_at hl 0 rfl) ?_
          refine k_get (ci := 8) (C := RX6) (T := TX6) (N := 5) (v := .ref (ad 12)) hx hb hG inX6 hown hK hP 0 wl_0 rfl 1 (by decide) gw306 rfl dX6_weakest_52 ?_
          refine k_get (ci := 3) (C := RX1) (T := TX1) (N := 17) (v := .ref (ad 15)) hx hb hG inX1 hown hK hP 12 wl_12 rfl 5 (by decide) gw147 rfl dX6_weakest_55 ?_
          refine lv_iload_n hx hb dX6_weakest_58 rfl (lv_at hl 1 rfl) ?_
          obtain ⟨hc7, hw⟩ := hw
          refine k_lald (v := gB σ2 2 (ix i1_4)) hx hb hK hP 15 wl_15 (ix i1_4) rfl rfl hc7 dX6_weakest_59 ?_
          refine k_mabsl (v := mabsl (gB σ2 2 (ix i1_4))) hx hb (hml.trans hl.1.symm) hown (hG _ gw871) (hG _ gw364) (hG _ gw41) (hG _ gw365) (Nat.le_of_ble_eq_true rfl) (Nat.le_of_ble_eq_true rfl) (Nat.le_of_ble_eq_true rfl) (Nat.le_of_ble_eq_true rfl) dX6_weakest_60 rfl ?_
          refine k_lcmp (v := lg_cmp (mabsl (gB σ2 2 (ix i2_4))) (mabsl (gB σ2 2 (ix i1_4)))) hx hb dX6_weakest_63 rfl ?_
          refine lv_if_le (tgt := 69) hx hb dX6_weakest_64 (by decide) (fun k8 => ?_) (fun k8 => ?_)
          · skip
            have hw := hw.1 (lc_le.mp k8)
            refine lv_iinc (v := i2_4 + 1) (lv' := [(2, .int (i2_4 + 1)), (0, .ref (ad 0)), (1, .int i1_4)]) hx hb dX6_weakest_69 hl (k := 2) rfl rfl (by decide) rfl (fun ls hl => ?_)
            refine lv_goto (tgt := 28) hx hb dX6_weakest_72 (by decide) ?_
            exact ih4 i1_4 (i2_4 + 1) (Nat.lt_of_lt_of_le hw.2 (Nat.le_of_lt_succ hm4)) hw.1 _ _ ls hP hD hS (lv_sub hl [1, 2, 0] rfl)
          · skip
            have hw := hw.2 (fun q9 => k8 (lc_le.mpr q9))
            refine lv_iload_n hx hb dX6_weakest_67 rfl (lv_at hl 2 rfl) ?_
            refine lv_istore_n (lv' := [(1, .int i2_4), (0, .ref (ad 0)), (2, .int i2_4)]) hx hb dX6_weakest_68 rfl hl (by decide) rfl (fun ls hl => ?_)
            refine lv_iinc (v := i2_4 + 1) (lv' := [(2, .int (i2_4 + 1)), (1, .int i2_4), (0, .ref (ad 0))]) hx hb dX6_weakest_69 hl (k := 2) rfl rfl (by decide) rfl (fun ls hl => ?_)
            refine lv_goto (tgt := 28) hx hb dX6_weakest_72 (by decide) ?_
            exact ih4 i2_4 (i2_4 + 1) (Nat.lt_of_lt_of_le hw.2 (Nat.le_of_lt_succ hm4)) hw.1 _ _ ls hP hD hS (lv_sub hl [2, 1, 0] rfl)
    · skip
      have hw := hw.2 k3
      exact m_throwN hw (Y0 := "java/lang/RuntimeException") (idx := 13) (bs := prog_35_method_4_code) (names := ["java/lang/Exception"]) 18 hx hb hfl hown hG hGV htab hlocks (hl.1.trans hml.symm) (by decide +kernel) (by decide +kernel) (by decide +kernel) ns_0 ns_1 ns_2 ns_5 gw881 gw52 rfl xat_X6_146 hP hD hS dX6_weakest_14 dX6_weakest_17 dX6_weakest_18 dX6_weakest_20 dX6_weakest_23 (Nat.le_of_ble_eq_true rfl) (Nat.le_of_ble_eq_true rfl) (Nat.le_of_ble_eq_true rfl) (Nat.le_of_ble_eq_true rfl) (Nat.le_of_ble_eq_true rfl) (Nat.le_of_ble_eq_true rfl)
  · skip
    exact m_out hw htab hlocks h9 hv9 hc9 hP hD hS (Nat.le_of_ble_eq_true rfl) (Nat.le_of_ble_eq_true rfl)

set_option maxHeartbeats 4000000 in
set_option maxRecDepth 100000 in
theorem m_L_weakest (l : Launch) (hfl : l.stackTraces = false) (D : va_G) (ad : Nat → Nat) (cA : Nat → ClassId) (g : gv_T) (σ : Sg) (Q : Int32 → Sg → Prop) (hw : w_L_weakest  σ Q) : MW l yL_weakest cL_weakest 2 (some .int) [(0, 4, 5, 22), (0, 4, 9, 53)] (RM 8 2 12 162) D ad cA g [.ref (ad 0)] σ (fun v σ' => ∃ r : Int32, v = some (.int r) ∧ Q r σ') := by
  refine MW.of (by decide +kernel) (Nat.le_of_ble_eq_true rfl) ?_
  intro p e s m args below meth c A ls hx hb hr hml hown hG hlocks htab hA hS hP hK hD hGV hl
  have hown : s.vm.findClass RL = some m.cls := hown
  have hl : lv_has ls 2 [(0, .ref (ad 0))] := hl
  have hSF : CF p m c cL_weakest 2 s args RL := ⟨hx, hb, hml, hown, hG⟩
  refine lv_aload_n hx hb dL_weakest_0 rfl (lv_at hl 0 rfl) ?_
  refine mc_V hSF hl.1 hP hD hS hA hK hGV (m_X6_weakest l hfl D ad cA g  σ _ _ hw) goV_L_49 pd_X6_weakest ⟨(Nat.le_of_ble_eq_true rfl), (Nat.le_of_ble_eq_true rfl)⟩ ⟨(Nat.le_of_ble_eq_true rfl), (Nat.le_of_ble_eq_true rfl)⟩ (va_recv hK hP (ci := 8) (q0 := 0) rfl wl_0) dL_weakest_1 rfl (Nat.le_of_ble_eq_true rfl) (fun v9 σ2 H locs hq hP hD hS => ?_) (fun E9 σ3 H locs x9 ce9 hw hP hD hS h9 hv9 hc9 => ?_)
  · skip
    obtain ⟨r1, hv9, hw⟩ := hq
    subst hv9
    refine W.eq (g2 := F0 m 4 ls [.int r1]) rfl ?_
    refine W.widen (k := 2) (n := 12) (Nat.le_refl _) (Nat.le_refl _) ?_
    exact m_i ⟨_, rfl, hw⟩ hx hb hr hlocks rfl hP hD hS (Nat.le_of_ble_eq_true rfl) (Nat.le_of_ble_eq_true rfl) dL_weakest_4
  · skip
    rcases hw with ⟨rfl, hw⟩ | ⟨rfl, hw⟩
    · skip
      refine vx_catch (own := RL) (name := "java/lang/IllegalStateException") hown [] { startPc := 0, endPc := 4, handlerPc := 5, catchType := 22 } [{ startPc := 0, endPc := 4, handlerPc := 9, catchType := 53 }] (htab.trans rfl) (fun z hz => nomatch hz) rfl (by decide) (hG _ gw500) (va_Nw.use rfl (hGV.nw _ gw669)) h9 hv9 hc9 ?_
      refine W.eq (g2 := F0 m 5 ls [.ref x9]) rfl ?_
      refine W.widen (k := 2) (n := 12) (Nat.le_refl _) (Nat.le_refl _) ?_
      refine lv_astore_n (lv' := [(1, .ref x9), (0, .ref (ad 0))]) hx hb dL_weakest_5 rfl hl (by decide) rfl (fun ls hl => ?_)
      refine lv_bipush (v := (-79)) hx hb dL_weakest_6 (by decide) ?_
      exact m_i ⟨_, rfl, hw⟩ hx hb hr hlocks rfl hP hD hS (Nat.le_of_ble_eq_true rfl) (Nat.le_of_ble_eq_true rfl) dL_weakest_8
    · skip
      refine vx_catch (own := RL) (name := "java/util/NoSuchElementException") hown [{ startPc := 0, endPc := 4, handlerPc := 5, catchType := 22 }] { startPc := 0, endPc := 4, handlerPc := 9, catchType := 53 } [] (htab.trans rfl) (fun z hz => by rcases List.mem_singleton.mp hz with rfl; exact Or.inr ⟨by decide, "java/lang/IllegalStateException", hG _ gw500, hGV.nc ("java/util/NoSuchElementException", "java/lang/IllegalStateException") (by decide)⟩) rfl (by decide) (hG _ gw876) (va_Nw.use rfl (hGV.nw _ gw883)) h9 hv9 hc9 ?_
      refine W.eq (g2 := F0 m 9 ls [.ref x9]) rfl ?_
      refine W.widen (k := 2) (n := 12) (Nat.le_refl _) (Nat.le_refl _) ?_
      refine lv_astore_n (lv' := [(1, .ref x9), (0, .ref (ad 0))]) hx hb dL_weakest_9 rfl hl (by decide) rfl (fun ls hl => ?_)
      refine lv_bipush (v := (-75)) hx hb dL_weakest_10 (by decide) ?_
      exact m_i ⟨_, rfl, hw⟩ hx hb hr hlocks rfl hP hD hS (Nat.le_of_ble_eq_true rfl) (Nat.le_of_ble_eq_true rfl) dL_weakest_12

set_option maxHeartbeats 4000000 in
set_option maxRecDepth 100000 in
theorem m_J0_isLatin1_aae02_S8 (l : Launch) (hfl : l.stackTraces = false) (D : va_G) (ad : Nat → Nat) (cA : Nat → ClassId) (g : gv_T) (σ : Sg) (Q : Int32 → Prop) (hw : w_J0_isLatin1_aae02_S8  σ Q) : MC l yJ0_isLatin1_aae02 cJ0_isLatin1_aae02 1 (some .boolean) (RM 0 0 0 0) D ad cA g [.ref (g.1 8)] σ (fun v σ' => ∃ r : Int32, v = some (.int r) ∧ σ' = σ ∧ Q r) (fun _ _ => False) := by
  refine MC.of (plainFor_of_name (by decide +kernel)) (Nat.le_of_ble_eq_true rfl) ?_
  intro p e s m args below meth c A ls hx hb hr hml hown hG hlocks htab hA hS hP hK hD hGV hl
  have hown : s.vm.findClass RJ0 = some m.cls := hown
  have hl : lv_has ls 1 [(0, .ref (g.1 8))] := hl
  have hSF : CF p m c cJ0_isLatin1_aae02 1 s args RJ0 := ⟨hx, hb, hml, hown, hG⟩
  refine k_getsC hx hb hGV hG hS hown gw521 dJ0_isLatin1_aae02_0 ?_
  refine k_if_eq_f (tgt := 17) hx hb dJ0_isLatin1_aae02_3 (by decide) (by decide) ?_
  refine lv_aload_n hx hb dJ0_isLatin1_aae02_6 rfl (lv_at hl 0 rfl) ?_
  refine k_scoder (x9 := (8, 5, [117, 100, 108, 114, 102])) hx hb hGV (by decide) hG hS hown gw1195 dJ0_isLatin1_aae02_7 ?_
  refine k_if_ne_f (tgt := 17) hx hb dJ0_isLatin1_aae02_10 (by decide) (by decide) ?_
  refine lv_iconst (v := 1) hx hb dJ0_isLatin1_aae02_13 (by decide) ?_
  refine lv_goto (tgt := 18) hx hb dJ0_isLatin1_aae02_14 (by decide) ?_
  exact vx_ret (m_i ⟨_, rfl, rfl, hw⟩ hx hb hr hlocks rfl hP hD hS (Nat.le_of_ble_eq_true rfl) (Nat.le_of_ble_eq_true rfl) dJ0_isLatin1_aae02_18)

set_option maxHeartbeats 4000000 in
set_option maxRecDepth 100000 in
theorem m_J0_coder_7d493_S8 (l : Launch) (hfl : l.stackTraces = false) (D : va_G) (ad : Nat → Nat) (cA : Nat → ClassId) (g : gv_T) (σ : Sg) (Q : Int32 → Prop) (hw : w_J0_coder_7d493_S8  σ Q) : MC l yJ0_coder_7d493 cJ0_coder_7d493 1 (some .byte) (RM 0 0 0 0) D ad cA g [.ref (g.1 8)] σ (fun v σ' => ∃ r : Int32, v = some (.int r) ∧ σ' = σ ∧ Q r) (fun _ _ => False) := by
  refine MC.of (plainFor_of_name (by decide +kernel)) (Nat.le_of_ble_eq_true rfl) ?_
  intro p e s m args below meth c A ls hx hb hr hml hown hG hlocks htab hA hS hP hK hD hGV hl
  have hown : s.vm.findClass RJ0 = some m.cls := hown
  have hl : lv_has ls 1 [(0, .ref (g.1 8))] := hl
  have hSF : CF p m c cJ0_coder_7d493 1 s args RJ0 := ⟨hx, hb, hml, hown, hG⟩
  refine k_getsC hx hb hGV hG hS hown gw521 dJ0_coder_7d493_0 ?_
  refine k_if_eq_f (tgt := 13) hx hb dJ0_coder_7d493_3 (by decide) (by decide) ?_
  refine lv_aload_n hx hb dJ0_coder_7d493_6 rfl (lv_at hl 0 rfl) ?_
  refine k_scoder (x9 := (8, 5, [117, 100, 108, 114, 102])) hx hb hGV (by decide) hG hS hown gw1195 dJ0_coder_7d493_7 ?_
  refine lv_goto (tgt := 14) hx hb dJ0_coder_7d493_10 (by decide) ?_
  exact vx_ret (m_i ⟨_, rfl, rfl, hw⟩ hx hb hr hlocks rfl hP hD hS (Nat.le_of_ble_eq_true rfl) (Nat.le_of_ble_eq_true rfl) dJ0_coder_7d493_14)

set_option maxHeartbeats 4000000 in
set_option maxRecDepth 100000 in
theorem m_J0_length_8abf5_S8 (l : Launch) (hfl : l.stackTraces = false) (D : va_G) (ad : Nat → Nat) (cA : Nat → ClassId) (g : gv_T) (σ : Sg) (Q : Int32 → Prop) (hw : w_J0_length_8abf5_S8  σ Q) : MC l yJ0_length_8abf5 cJ0_length_8abf5 1 (some .int) (RM 1 0 0 20) D ad cA g [.ref (g.1 8)] σ (fun v σ' => ∃ r : Int32, v = some (.int r) ∧ σ' = σ ∧ Q r) (fun _ _ => False) := by
  refine MC.of (plainFor_of_name (by decide +kernel)) (Nat.le_of_ble_eq_true rfl) ?_
  intro p e s m args below meth c A ls hx hb hr hml hown hG hlocks htab hA hS hP hK hD hGV hl
  have hown : s.vm.findClass RJ0 = some m.cls := hown
  have hl : lv_has ls 1 [(0, .ref (g.1 8))] := hl
  have hSF : CF p m c cJ0_length_8abf5 1 s args RJ0 := ⟨hx, hb, hml, hown, hG⟩
  refine lv_aload_n hx hb dJ0_length_8abf5_0 rfl (lv_at hl 0 rfl) ?_
  refine k_svalue (x9 := (8, 5, [117, 100, 108, 114, 102])) hx hb hGV (by decide) hG hS hown gw1196 dJ0_length_8abf5_1 ?_
  refine k_slen (x9 := (8, 5, [117, 100, 108, 114, 102])) (v := 5) hx hb hGV (by decide) hS (by decide) dJ0_length_8abf5_4 ?_
  refine lv_aload_n hx hb dJ0_length_8abf5_5 rfl (lv_at hl 0 rfl) ?_
  refine mc_V hSF hl.1 hP hD hS hA hK hGV (m_J0_coder_7d493_S8 l hfl D ad cA g  σ (fun r9 => r9 = 0) rfl) goV_J0_335 pd_J0_coder_7d493 ⟨(Nat.le_of_ble_eq_true rfl), (Nat.le_of_ble_eq_true rfl)⟩ ⟨(Nat.le_of_ble_eq_true rfl), (Nat.le_of_ble_eq_true rfl)⟩ (k_srecv (x9 := (8, 5, [117, 100, 108, 114, 102])) hGV (by decide) hS) dJ0_length_8abf5_6 rfl (Nat.le_of_ble_eq_true rfl) (fun v9 σ9 H locs hq hP hD hS => ?_) (fun _ _ _ _ _ _ h => h.elim)
  obtain ⟨r9, hv9, hs9, hr9⟩ := hq
  subst hv9
  subst σ9
  subst hr9
  refine W.eq (g2 := F0 m 9 ls [.int 0, .int 5]) rfl ?_
  refine W.widen (k := 0) (n := 0) (Nat.le_refl _) (Nat.le_refl _) ?_
  refine k_ishr (v := 5) hx hb dJ0_length_8abf5_9 (by decide +kernel) ?_
  exact vx_ret (m_i ⟨_, rfl, rfl, hw⟩ hx hb hr hlocks rfl hP hD hS (Nat.le_of_ble_eq_true rfl) (Nat.le_of_ble_eq_true rfl) dJ0_length_8abf5_10)

set_option maxHeartbeats 4000000 in
set_option maxRecDepth 100000 in
theorem m_J1_indexOfChar_4cfef_V8_0_5 (l : Launch) (hfl : l.stackTraces = false) (D : va_G) (ad : Nat → Nat) (cA : Nat → ClassId) (g : gv_T) (p1 : Int32) (σ : Sg) (Q : Int32 → Prop) (hw : w_J1_indexOfChar_4cfef_V8_0_5 p1 σ Q) : MC l yJ1_indexOfChar_4cfef cJ1_indexOfChar_4cfef 6 (some .int) (RM 0 0 0 0) D ad cA g [.ref (g.2.1 8), .int p1, .int 0, .int 5] σ (fun v σ' => ∃ r : Int32, v = some (.int r) ∧ σ' = σ ∧ Q r) (fun _ _ => False) := by
  refine MC.of (plainFor_of_name (by decide +kernel)) (Nat.le_of_ble_eq_true rfl) ?_
  intro p e s m args below meth c A ls hx hb hr hml hown hG hlocks htab hA hS hP hK hD hGV hl
  have hown : s.vm.findClass RJ1 = some m.cls := hown
  have hl : lv_has ls 6 [(0, .ref (g.2.1 8)), (1, .int p1), (2, .int 0), (3, .int 5)] := hl
  have hSF : CF p m c cJ1_indexOfChar_4cfef 6 s args RJ1 := ⟨hx, hb, hml, hown, hG⟩
  refine lv_iload_n hx hb dJ1_indexOfChar_4cfef_0 rfl (lv_at hl 1 rfl) ?_
  refine lv_i2b (v := p1.toInt8.toInt32) hx hb dJ1_indexOfChar_4cfef_1 rfl ?_
  obtain ⟨v1, ev1⟩ : ∃ z : Int32, z = p1.toInt8.toInt32 := ⟨_, rfl⟩
  have hw := hw v1 ev1
  refine lv_istore (lv' := [(4, .int v1), (0, .ref (g.2.1 8)), (1, .int p1), (2, .int 0), (3, .int 5)]) hx hb dJ1_indexOfChar_4cfef_2 hl (by decide) (by subst ev1; rfl) (fun ls hl => ?_)
  refine lv_iload_n hx hb dJ1_indexOfChar_4cfef_4 rfl (lv_at hl 3 rfl) ?_
  refine lv_istore (lv' := [(5, .int 0), (4, .int v1), (0, .ref (g.2.1 8)), (1, .int p1), (2, .int 0), (3, .int 5)]) hx hb dJ1_indexOfChar_4cfef_5 hl (by decide) rfl (fun ls hl => ?_)
  refine lv_iload hx hb dJ1_indexOfChar_4cfef_7 (lv_at hl 0 rfl) ?_
  refine lv_iload_n hx hb dJ1_indexOfChar_4cfef_9 rfl (lv_at hl 5 rfl) ?_
  refine k_icmp_ge_f (tgt := 31) hx hb dJ1_indexOfChar_4cfef_10 (by decide) (by decide) ?_
  refine lv_aload_n hx hb dJ1_indexOfChar_4cfef_13 rfl (lv_at hl 2 rfl) ?_
  refine lv_iload hx hb dJ1_indexOfChar_4cfef_14 (lv_at hl 0 rfl) ?_
  refine k_sld (x9 := (8, 5, [117, 100, 108, 114, 102])) (v := 117) hx hb hGV (by decide) hS (by unfold vp_in; decide) (by decide) dJ1_indexOfChar_4cfef_16 ?_
  refine lv_iload hx hb dJ1_indexOfChar_4cfef_17 (lv_at hl 1 rfl) ?_
  refine lv_icmp_ne (tgt := 25) hx hb dJ1_indexOfChar_4cfef_19 (by decide) (fun k2 => ?_) (fun k2 => ?_)
  · skip
    have hw := hw.1 k2
    refine lv_iinc (v := 1) (lv' := [(5, .int 1), (4, .int v1), (0, .ref (g.2.1 8)), (1, .int p1), (2, .int 0), (3, .int 5)]) hx hb dJ1_indexOfChar_4cfef_25 hl (k := 0) rfl (by decide +kernel) (by decide) rfl (fun ls hl => ?_)
    refine lv_goto (tgt := 7) hx hb dJ1_indexOfChar_4cfef_28 (by decide) ?_
    refine lv_iload hx hb dJ1_indexOfChar_4cfef_7 (lv_at hl 0 rfl) ?_
    refine lv_iload_n hx hb dJ1_indexOfChar_4cfef_9 rfl (lv_at hl 5 rfl) ?_
    refine k_icmp_ge_f (tgt := 31) hx hb dJ1_indexOfChar_4cfef_10 (by decide) (by decide) ?_
    refine lv_aload_n hx hb dJ1_indexOfChar_4cfef_13 rfl (lv_at hl 2 rfl) ?_
    refine lv_iload hx hb dJ1_indexOfChar_4cfef_14 (lv_at hl 0 rfl) ?_
    refine k_sld (x9 := (8, 5, [117, 100, 108, 114, 102])) (v := 100) hx hb hGV (by decide) hS (by unfold vp_in; decide) (by decide) dJ1_indexOfChar_4cfef_16 ?_
    refine lv_iload hx hb dJ1_indexOfChar_4cfef_17 (lv_at hl 1 rfl) ?_
    refine lv_icmp_ne (tgt := 25) hx hb dJ1_indexOfChar_4cfef_19 (by decide) (fun k3 => ?_) (fun k3 => ?_)
    · skip
      have hw := hw.1 k3
      refine lv_iinc (v := 2) (lv' := [(5, .int 2), (4, .int v1), (0, .ref (g.2.1 8)), (1, .int p1), (2, .int 0), (3, .int 5)]) hx hb dJ1_indexOfChar_4cfef_25 hl (k := 0) rfl (by decide +kernel) (by decide) rfl (fun ls hl => ?_)
      refine lv_goto (tgt := 7) hx hb dJ1_indexOfChar_4cfef_28 (by decide) ?_
      refine lv_iload hx hb dJ1_indexOfChar_4cfef_7 (lv_at hl 0 rfl) ?_
      refine lv_iload_n hx hb dJ1_indexOfChar_4cfef_9 rfl (lv_at hl 5 rfl) ?_
      refine k_icmp_ge_f (tgt := 31) hx hb dJ1_indexOfChar_4cfef_10 (by decide) (by decide) ?_
      refine lv_aload_n hx hb dJ1_indexOfChar_4cfef_13 rfl (lv_at hl 2 rfl) ?_
      refine lv_iload hx hb dJ1_indexOfChar_4cfef_14 (lv_at hl 0 rfl) ?_
      refine k_sld (x9 := (8, 5, [117, 100, 108, 114, 102])) (v := 108) hx hb hGV (by decide) hS (by unfold vp_in; decide) (by decide) dJ1_indexOfChar_4cfef_16 ?_
      refine lv_iload hx hb dJ1_indexOfChar_4cfef_17 (lv_at hl 1 rfl) ?_
      refine lv_icmp_ne (tgt := 25) hx hb dJ1_indexOfChar_4cfef_19 (by decide) (fun k4 => ?_) (fun k4 => ?_)
      · skip
        have hw := hw.1 k4
        refine lv_iinc (v := 3) (lv' := [(5, .int 3), (4, .int v1), (0, .ref (g.2.1 8)), (1, .int p1), (2, .int 0), (3, .int 5)]) hx hb dJ1_indexOfChar_4cfef_25 hl (k := 0) rfl (by decide +kernel) (by decide) rfl (fun ls hl => ?_)
        refine lv_goto (tgt := 7) hx hb dJ1_indexOfChar_4cfef_28 (by decide) ?_
        refine lv_iload hx hb dJ1_indexOfChar_4cfef_7 (lv_at hl 0 rfl) ?_
        refine lv_iload_n hx hb dJ1_indexOfChar_4cfef_9 rfl (lv_at hl 5 rfl) ?_
        refine k_icmp_ge_f (tgt := 31) hx hb dJ1_indexOfChar_4cfef_10 (by decide) (by decide) ?_
        refine lv_aload_n hx hb dJ1_indexOfChar_4cfef_13 rfl (lv_at hl 2 rfl) ?_
        refine lv_iload hx hb dJ1_indexOfChar_4cfef_14 (lv_at hl 0 rfl) ?_
        refine k_sld (x9 := (8, 5, [117, 100, 108, 114, 102])) (v := 114) hx hb hGV (by decide) hS (by unfold vp_in; decide) (by decide) dJ1_indexOfChar_4cfef_16 ?_
        refine lv_iload hx hb dJ1_indexOfChar_4cfef_17 (lv_at hl 1 rfl) ?_
        refine lv_icmp_ne (tgt := 25) hx hb dJ1_indexOfChar_4cfef_19 (by decide) (fun k5 => ?_) (fun k5 => ?_)
        · skip
          have hw := hw.1 k5
          refine lv_iinc (v := 4) (lv' := [(5, .int 4), (4, .int v1), (0, .ref (g.2.1 8)), (1, .int p1), (2, .int 0), (3, .int 5)]) hx hb dJ1_indexOfChar_4cfef_25 hl (k := 0) rfl (by decide +kernel) (by decide) rfl (fun ls hl => ?_)
          refine lv_goto (tgt := 7) hx hb dJ1_indexOfChar_4cfef_28 (by decide) ?_
          refine lv_iload hx hb dJ1_indexOfChar_4cfef_7 (lv_at hl 0 rfl) ?_
          refine lv_iload_n hx hb dJ1_indexOfChar_4cfef_9 rfl (lv_at hl 5 rfl) ?_
          refine k_icmp_ge_f (tgt := 31) hx hb dJ1_indexOfChar_4cfef_10 (by decide) (by decide) ?_
          refine lv_aload_n hx hb dJ1_indexOfChar_4cfef_13 rfl (lv_at hl 2 rfl) ?_
          refine lv_iload hx hb dJ1_indexOfChar_4cfef_14 (lv_at hl 0 rfl) ?_
          refine k_sld (x9 := (8, 5, [117, 100, 108, 114, 102])) (v := 102) hx hb hGV (by decide) hS (by unfold vp_in; decide) (by decide) dJ1_indexOfChar_4cfef_16 ?_
          refine lv_iload hx hb dJ1_indexOfChar_4cfef_17 (lv_at hl 1 rfl) ?_
          refine lv_icmp_ne (tgt := 25) hx hb dJ1_indexOfChar_4cfef_19 (by decide) (fun k6 => ?_) (fun k6 => ?_)
          · skip
            have hw := hw.1 k6
            refine lv_iinc (v := 5) (lv' := [(5, .int 5), (4, .int v1), (0, .ref (g.2.1 8)), (1, .int p1), (2, .int 0), (3, .int 5)]) hx hb dJ1_indexOfChar_4cfef_25 hl (k := 0) rfl (by decide +kernel) (by decide) rfl (fun ls hl => ?_)
            refine lv_goto (tgt := 7) hx hb dJ1_indexOfChar_4cfef_28 (by decide) ?_
            refine lv_iload hx hb dJ1_indexOfChar_4cfef_7 (lv_at hl 0 rfl) ?_
            refine lv_iload_n hx hb dJ1_indexOfChar_4cfef_9 rfl (lv_at hl 5 rfl) ?_
            refine k_icmp_ge_t (tgt := 31) hx hb dJ1_indexOfChar_4cfef_10 (by decide) (by decide) ?_
            refine lv_iconst (v := (-1)) hx hb dJ1_indexOfChar_4cfef_31 (by decide) ?_
            exact vx_ret (m_i ⟨_, rfl, rfl, hw⟩ hx hb hr hlocks rfl hP hD hS (Nat.le_of_ble_eq_true rfl) (Nat.le_of_ble_eq_true rfl) dJ1_indexOfChar_4cfef_32)
          · skip
            have hw := hw.2 k6
            refine lv_iload hx hb dJ1_indexOfChar_4cfef_22 (lv_at hl 0 rfl) ?_
            exact vx_ret (m_i ⟨_, rfl, rfl, hw⟩ hx hb hr hlocks rfl hP hD hS (Nat.le_of_ble_eq_true rfl) (Nat.le_of_ble_eq_true rfl) dJ1_indexOfChar_4cfef_24)
        · skip
          have hw := hw.2 k5
          refine lv_iload hx hb dJ1_indexOfChar_4cfef_22 (lv_at hl 0 rfl) ?_
          exact vx_ret (m_i ⟨_, rfl, rfl, hw⟩ hx hb hr hlocks rfl hP hD hS (Nat.le_of_ble_eq_true rfl) (Nat.le_of_ble_eq_true rfl) dJ1_indexOfChar_4cfef_24)
      · skip
        have hw := hw.2 k4
        refine lv_iload hx hb dJ1_indexOfChar_4cfef_22 (lv_at hl 0 rfl) ?_
        exact vx_ret (m_i ⟨_, rfl, rfl, hw⟩ hx hb hr hlocks rfl hP hD hS (Nat.le_of_ble_eq_true rfl) (Nat.le_of_ble_eq_true rfl) dJ1_indexOfChar_4cfef_24)
    · skip
      have hw := hw.2 k3
      refine lv_iload hx hb dJ1_indexOfChar_4cfef_22 (lv_at hl 0 rfl) ?_
      exact vx_ret (m_i ⟨_, rfl, rfl, hw⟩ hx hb hr hlocks rfl hP hD hS (Nat.le_of_ble_eq_true rfl) (Nat.le_of_ble_eq_true rfl) dJ1_indexOfChar_4cfef_24)
  · skip
    have hw := hw.2 k2
    refine lv_iload hx hb dJ1_indexOfChar_4cfef_22 (lv_at hl 0 rfl) ?_
    exact vx_ret (m_i ⟨_, rfl, rfl, hw⟩ hx hb hr hlocks rfl hP hD hS (Nat.le_of_ble_eq_true rfl) (Nat.le_of_ble_eq_true rfl) dJ1_indexOfChar_4cfef_24)

set_option maxHeartbeats 4000000 in
set_option maxRecDepth 100000 in
theorem m_J1_indexOf_4cfef_V8_0_5 (l : Launch) (hfl : l.stackTraces = false) (D : va_G) (ad : Nat → Nat) (cA : Nat → ClassId) (g : gv_T) (p1 : Int32) (σ : Sg) (Q : Int32 → Prop) (hw : w_J1_indexOf_4cfef_V8_0_5 p1 σ Q) : MC l yJ1_indexOf_4cfef cJ1_indexOf_4cfef 4 (some .int) (RM 1 0 0 25) D ad cA g [.ref (g.2.1 8), .int p1, .int 0, .int 5] σ (fun v σ' => ∃ r : Int32, v = some (.int r) ∧ σ' = σ ∧ Q r) (fun _ _ => False) := by
  refine MC.of (plainFor_of_name (by decide +kernel)) (Nat.le_of_ble_eq_true rfl) ?_
  intro p e s m args below meth c A ls hx hb hr hml hown hG hlocks htab hA hS hP hK hD hGV hl
  have hown : s.vm.findClass RJ1 = some m.cls := hown
  have hl : lv_has ls 4 [(0, .ref (g.2.1 8)), (1, .int p1), (2, .int 0), (3, .int 5)] := hl
  have hSF : CF p m c cJ1_indexOf_4cfef 4 s args RJ1 := ⟨hx, hb, hml, hown, hG⟩
  refine lv_iload_n hx hb dJ1_indexOf_4cfef_0 rfl (lv_at hl 1 rfl) ?_
  refine mc_S hSF hl.1 hP hD hS hA hK hGV (m_J1_canEncode_9a6ad l hfl D ad cA g p1 σ _ hw) goS_J1_88 pd_J1_canEncode_9a6ad.2 ⟨(Nat.le_of_ble_eq_true rfl), (Nat.le_of_ble_eq_true rfl)⟩ ⟨(Nat.le_of_ble_eq_true rfl), (Nat.le_of_ble_eq_true rfl)⟩ dJ1_indexOf_4cfef_1 rfl (Nat.le_of_ble_eq_true rfl) (fun v9 σ9 H locs hq hP hD hS => ?_) (fun _ _ _ _ _ _ h => h.elim)
  obtain ⟨r1, hv9, hs9, hw⟩ := hq
  subst hv9
  subst σ9
  refine W.eq (g2 := F0 m 4 ls [.int r1]) rfl ?_
  refine W.widen (k := 0) (n := 0) (Nat.le_refl _) (Nat.le_refl _) ?_
  refine lv_if_ne (tgt := 9) hx hb dJ1_indexOf_4cfef_4 (by decide) (fun k2 => ?_) (fun k2 => ?_)
  · skip
    have hw := hw.1 k2
    refine lv_iload_n hx hb dJ1_indexOf_4cfef_9 rfl (lv_at hl 2 rfl) ?_
    refine lv_iconst (v := 0) hx hb dJ1_indexOf_4cfef_10 (by decide) ?_
    refine k_mmax (v := 0) hx hb (hml.trans hl.1.symm) hown (hG _ gw537) (hG _ gw538) (hG _ gw41) (hG _ gw539) (Nat.le_of_ble_eq_true rfl) (Nat.le_of_ble_eq_true rfl) (Nat.le_of_ble_eq_true rfl) (Nat.le_of_ble_eq_true rfl) dJ1_indexOf_4cfef_11 (by decide +kernel) ?_
    refine lv_istore_n (lv' := [(2, .int 0), (0, .ref (g.2.1 8)), (1, .int p1), (3, .int 5)]) hx hb dJ1_indexOf_4cfef_14 rfl hl (by decide) rfl (fun ls hl => ?_)
    refine lv_iload_n hx hb dJ1_indexOf_4cfef_15 rfl (lv_at hl 3 rfl) ?_
    refine lv_aload_n hx hb dJ1_indexOf_4cfef_16 rfl (lv_at hl 1 rfl) ?_
    refine k_slen (x9 := (8, 5, [117, 100, 108, 114, 102])) (v := 5) hx hb hGV (by decide) hS (by decide) dJ1_indexOf_4cfef_17 ?_
    refine k_mmin (v := 5) hx hb (hml.trans hl.1.symm) hown (hG _ gw540) (hG _ gw541) (hG _ gw41) (hG _ gw542) (Nat.le_of_ble_eq_true rfl) (Nat.le_of_ble_eq_true rfl) (Nat.le_of_ble_eq_true rfl) (Nat.le_of_ble_eq_true rfl) dJ1_indexOf_4cfef_18 (by decide +kernel) ?_
    refine lv_istore_n (lv' := [(3, .int 5), (2, .int 0), (0, .ref (g.2.1 8)), (1, .int p1)]) hx hb dJ1_indexOf_4cfef_21 rfl hl (by decide) rfl (fun ls hl => ?_)
    refine lv_iload_n hx hb dJ1_indexOf_4cfef_22 rfl (lv_at hl 1 rfl) ?_
    refine lv_iload_n hx hb dJ1_indexOf_4cfef_23 rfl (lv_at hl 0 rfl) ?_
    refine k_icmp_lt_t (tgt := 29) hx hb dJ1_indexOf_4cfef_24 (by decide) (by decide) ?_
    refine lv_aload_n hx hb dJ1_indexOf_4cfef_29 rfl (lv_at hl 2 rfl) ?_
    refine lv_iload_n hx hb dJ1_indexOf_4cfef_30 rfl (lv_at hl 3 rfl) ?_
    refine lv_iload_n hx hb dJ1_indexOf_4cfef_31 rfl (lv_at hl 1 rfl) ?_
    refine lv_iload_n hx hb dJ1_indexOf_4cfef_32 rfl (lv_at hl 0 rfl) ?_
    refine mc_S hSF hl.1 hP hD hS hA hK hGV (m_J1_indexOfChar_4cfef_V8_0_5 l hfl D ad cA g p1 σ _ hw) goS_J1_95 pd_J1_indexOfChar_4cfef.2 ⟨(Nat.le_of_ble_eq_true rfl), (Nat.le_of_ble_eq_true rfl)⟩ ⟨(Nat.le_of_ble_eq_true rfl), (Nat.le_of_ble_eq_true rfl)⟩ dJ1_indexOf_4cfef_33 rfl (Nat.le_of_ble_eq_true rfl) (fun v9 σ9 H locs hq hP hD hS => ?_) (fun _ _ _ _ _ _ h => h.elim)
    obtain ⟨r3, hv9, hs9, hw⟩ := hq
    subst hv9
    subst σ9
    refine W.eq (g2 := F0 m 36 ls [.int r3]) rfl ?_
    refine W.widen (k := 0) (n := 0) (Nat.le_refl _) (Nat.le_refl _) ?_
    exact vx_ret (m_i ⟨_, rfl, rfl, hw⟩ hx hb hr hlocks rfl hP hD hS (Nat.le_of_ble_eq_true rfl) (Nat.le_of_ble_eq_true rfl) dJ1_indexOf_4cfef_36)
  · skip
    have hw := hw.2 k2
    refine lv_iconst (v := (-1)) hx hb dJ1_indexOf_4cfef_7 (by decide) ?_
    exact vx_ret (m_i ⟨_, rfl, rfl, hw⟩ hx hb hr hlocks rfl hP hD hS (Nat.le_of_ble_eq_true rfl) (Nat.le_of_ble_eq_true rfl) dJ1_indexOf_4cfef_8)

set_option maxHeartbeats 4000000 in
set_option maxRecDepth 100000 in
theorem m_J0_indexOf_7cf53_S8_0 (l : Launch) (hfl : l.stackTraces = false) (D : va_G) (ad : Nat → Nat) (cA : Nat → ClassId) (g : gv_T) (p1 : Int32) (σ : Sg) (Q : Int32 → Prop) (hw : w_J0_indexOf_7cf53_S8_0 p1 σ Q) : MC l yJ0_indexOf_7cf53 cJ0_indexOf_7cf53 3 (some .int) (RM 2 0 0 48) D ad cA g [.ref (g.1 8), .int p1, .int 0] σ (fun v σ' => ∃ r : Int32, v = some (.int r) ∧ σ' = σ ∧ Q r) (fun _ _ => False) := by
  refine MC.of (plainFor_of_name (by decide +kernel)) (Nat.le_of_ble_eq_true rfl) ?_
  intro p e s m args below meth c A ls hx hb hr hml hown hG hlocks htab hA hS hP hK hD hGV hl
  have hown : s.vm.findClass RJ0 = some m.cls := hown
  have hl : lv_has ls 3 [(0, .ref (g.1 8)), (1, .int p1), (2, .int 0)] := hl
  have hSF : CF p m c cJ0_indexOf_7cf53 3 s args RJ0 := ⟨hx, hb, hml, hown, hG⟩
  refine lv_aload_n hx hb dJ0_indexOf_7cf53_0 rfl (lv_at hl 0 rfl) ?_
  refine mc_V hSF hl.1 hP hD hS hA hK hGV (m_J0_isLatin1_aae02_S8 l hfl D ad cA g  σ (fun r9 => r9 = 1) rfl) goV_J0_492 pd_J0_isLatin1_aae02 ⟨(Nat.le_of_ble_eq_true rfl), (Nat.le_of_ble_eq_true rfl)⟩ ⟨(Nat.le_of_ble_eq_true rfl), (Nat.le_of_ble_eq_true rfl)⟩ (k_srecv (x9 := (8, 5, [117, 100, 108, 114, 102])) hGV (by decide) hS) dJ0_indexOf_7cf53_1 rfl (Nat.le_of_ble_eq_true rfl) (fun v9 σ9 H locs hq hP hD hS => ?_) (fun _ _ _ _ _ _ h => h.elim)
  obtain ⟨r9, hv9, hs9, hr9⟩ := hq
  subst hv9
  subst σ9
  subst hr9
  refine W.eq (g2 := F0 m 4 ls [.int 1]) rfl ?_
  refine W.widen (k := 0) (n := 0) (Nat.le_refl _) (Nat.le_refl _) ?_
  refine k_if_eq_f (tgt := 23) hx hb dJ0_indexOf_7cf53_4 (by decide) (by decide) ?_
  refine lv_aload_n hx hb dJ0_indexOf_7cf53_7 rfl (lv_at hl 0 rfl) ?_
  refine k_svalue (x9 := (8, 5, [117, 100, 108, 114, 102])) hx hb hGV (by decide) hG hS hown gw1196 dJ0_indexOf_7cf53_8 ?_
  refine lv_iload_n hx hb dJ0_indexOf_7cf53_11 rfl (lv_at hl 1 rfl) ?_
  refine lv_iload_n hx hb dJ0_indexOf_7cf53_12 rfl (lv_at hl 2 rfl) ?_
  refine lv_aload_n hx hb dJ0_indexOf_7cf53_13 rfl (lv_at hl 0 rfl) ?_
  refine mc_V hSF hl.1 hP hD hS hA hK hGV (m_J0_length_8abf5_S8 l hfl D ad cA g  σ (fun r9 => r9 = 5) rfl) goV_J0_505 pd_J0_length_8abf5 ⟨(Nat.le_of_ble_eq_true rfl), (Nat.le_of_ble_eq_true rfl)⟩ ⟨(Nat.le_of_ble_eq_true rfl), (Nat.le_of_ble_eq_true rfl)⟩ (k_srecv (x9 := (8, 5, [117, 100, 108, 114, 102])) hGV (by decide) hS) dJ0_indexOf_7cf53_14 rfl (Nat.le_of_ble_eq_true rfl) (fun v9 σ9 H locs hq hP hD hS => ?_) (fun _ _ _ _ _ _ h => h.elim)
  obtain ⟨r9, hv9, hs9, hr9⟩ := hq
  subst hv9
  subst σ9
  subst hr9
  refine W.eq (g2 := F0 m 17 ls [.int 5, .int 0, .int p1, .ref (g.2.1 8)]) rfl ?_
  refine W.widen (k := 0) (n := 0) (Nat.le_refl _) (Nat.le_refl _) ?_
  refine mc_S hSF hl.1 hP hD hS hA hK hGV (m_J1_indexOf_4cfef_V8_0_5 l hfl D ad cA g p1 σ _ hw) goS_J0_637 pd_J1_indexOf_4cfef.2 ⟨(Nat.le_of_ble_eq_true rfl), (Nat.le_of_ble_eq_true rfl)⟩ ⟨(Nat.le_of_ble_eq_true rfl), (Nat.le_of_ble_eq_true rfl)⟩ dJ0_indexOf_7cf53_17 rfl (Nat.le_of_ble_eq_true rfl) (fun v9 σ9 H locs hq hP hD hS => ?_) (fun _ _ _ _ _ _ h => h.elim)
  obtain ⟨r3, hv9, hs9, hw⟩ := hq
  subst hv9
  subst σ9
  refine W.eq (g2 := F0 m 20 ls [.int r3]) rfl ?_
  refine W.widen (k := 0) (n := 0) (Nat.le_refl _) (Nat.le_refl _) ?_
  refine lv_goto (tgt := 36) hx hb dJ0_indexOf_7cf53_20 (by decide) ?_
  exact vx_ret (m_i ⟨_, rfl, rfl, hw⟩ hx hb hr hlocks rfl hP hD hS (Nat.le_of_ble_eq_true rfl) (Nat.le_of_ble_eq_true rfl) dJ0_indexOf_7cf53_36)

set_option maxHeartbeats 4000000 in
set_option maxRecDepth 100000 in
theorem m_J0_indexOf_0f7a4_S8 (l : Launch) (hfl : l.stackTraces = false) (D : va_G) (ad : Nat → Nat) (cA : Nat → ClassId) (g : gv_T) (p1 : Int32) (σ : Sg) (Q : Int32 → Prop) (hw : w_J0_indexOf_0f7a4_S8 p1 σ Q) : MC l yJ0_indexOf_0f7a4 cJ0_indexOf_0f7a4 2 (some .int) (RM 3 0 0 70) D ad cA g [.ref (g.1 8), .int p1] σ (fun v σ' => ∃ r : Int32, v = some (.int r) ∧ σ' = σ ∧ Q r) (fun _ _ => False) := by
  refine MC.of (plainFor_of_name (by decide +kernel)) (Nat.le_of_ble_eq_true rfl) ?_
  intro p e s m args below meth c A ls hx hb hr hml hown hG hlocks htab hA hS hP hK hD hGV hl
  have hown : s.vm.findClass RJ0 = some m.cls := hown
  have hl : lv_has ls 2 [(0, .ref (g.1 8)), (1, .int p1)] := hl
  have hSF : CF p m c cJ0_indexOf_0f7a4 2 s args RJ0 := ⟨hx, hb, hml, hown, hG⟩
  refine lv_aload_n hx hb dJ0_indexOf_0f7a4_0 rfl (lv_at hl 0 rfl) ?_
  refine lv_iload_n hx hb dJ0_indexOf_0f7a4_1 rfl (lv_at hl 1 rfl) ?_
  refine lv_iconst (v := 0) hx hb dJ0_indexOf_0f7a4_2 (by decide) ?_
  refine mc_V hSF hl.1 hP hD hS hA hK hGV (m_J0_indexOf_7cf53_S8_0 l hfl D ad cA g p1 σ _ hw) goV_J0_633 pd_J0_indexOf_7cf53 ⟨(Nat.le_of_ble_eq_true rfl), (Nat.le_of_ble_eq_true rfl)⟩ ⟨(Nat.le_of_ble_eq_true rfl), (Nat.le_of_ble_eq_true rfl)⟩ (k_srecv (x9 := (8, 5, [117, 100, 108, 114, 102])) hGV (by decide) hS) dJ0_indexOf_0f7a4_3 rfl (Nat.le_of_ble_eq_true rfl) (fun v9 σ9 H locs hq hP hD hS => ?_) (fun _ _ _ _ _ _ h => h.elim)
  obtain ⟨r1, hv9, hs9, hw⟩ := hq
  subst hv9
  subst σ9
  refine W.eq (g2 := F0 m 6 ls [.int r1]) rfl ?_
  refine W.widen (k := 0) (n := 0) (Nat.le_refl _) (Nat.le_refl _) ?_
  exact vx_ret (m_i ⟨_, rfl, rfl, hw⟩ hx hb hr hlocks rfl hP hD hS (Nat.le_of_ble_eq_true rfl) (Nat.le_of_ble_eq_true rfl) dJ0_indexOf_0f7a4_6)

set_option maxHeartbeats 4000000 in
set_option maxRecDepth 100000 in
theorem m_X3_wayIndex (l : Launch) (hfl : l.stackTraces = false) (D : va_G) (ad : Nat → Nat) (cA : Nat → ClassId) (g : gv_T) (p1 : Int32) (σ : Sg) (Q : Int32 → Prop) (hw : w_X3_wayIndex p1 σ Q) : MC l yX3_wayIndex cX3_wayIndex 2 (some .int) (RM 4 0 0 91) D ad cA g [.ref (ad 32), .int p1] σ (fun v σ' => ∃ r : Int32, v = some (.int r) ∧ σ' = σ ∧ Q r) (fun _ _ => False) := by
  refine MC.of (plainFor_of_name (by decide +kernel)) (Nat.le_of_ble_eq_true rfl) ?_
  intro p e s m args below meth c A ls hx hb hr hml hown hG hlocks htab hA hS hP hK hD hGV hl
  have hown : s.vm.findClass RX3 = some m.cls := hown
  have hl : lv_has ls 2 [(0, .ref (ad 32)), (1, .int p1)] := hl
  have hSF : CF p m c cX3_wayIndex 2 s args RX3 := ⟨hx, hb, hml, hown, hG⟩
  refine k_ldcS hx hb hGV 8 rfl hown dX3_wayIndex_0 ?_
  refine lv_iload_n hx hb dX3_wayIndex_2 rfl (lv_at hl 1 rfl) ?_
  refine mc_V hSF hl.1 hP hD hS hA hK hGV (m_J0_indexOf_0f7a4_S8 l hfl D ad cA g p1 σ _ hw) goV_X3_29 pd_J0_indexOf_0f7a4 ⟨(Nat.le_of_ble_eq_true rfl), (Nat.le_of_ble_eq_true rfl)⟩ ⟨(Nat.le_of_ble_eq_true rfl), (Nat.le_of_ble_eq_true rfl)⟩ (k_srecv (x9 := (8, 5, [117, 100, 108, 114, 102])) hGV (by decide) hS) dX3_wayIndex_3 rfl (Nat.le_of_ble_eq_true rfl) (fun v9 σ9 H locs hq hP hD hS => ?_) (fun _ _ _ _ _ _ h => h.elim)
  obtain ⟨r1, hv9, hs9, hw⟩ := hq
  subst hv9
  subst σ9
  refine W.eq (g2 := F0 m 6 ls [.int r1]) rfl ?_
  refine W.widen (k := 0) (n := 0) (Nat.le_refl _) (Nat.le_refl _) ?_
  exact vx_ret (m_i ⟨_, rfl, rfl, hw⟩ hx hb hr hlocks rfl hP hD hS (Nat.le_of_ble_eq_true rfl) (Nat.le_of_ble_eq_true rfl) dX3_wayIndex_6)

set_option maxHeartbeats 4000000 in
set_option maxRecDepth 100000 in
theorem m_X2_haveCommonNode (l : Launch) (hfl : l.stackTraces = false) (D : va_G) (ad : Nat → Nat) (cA : Nat → ClassId) (g : gv_T) (p1 : Int32) (p2 : Int32) (σ : Sg) (Q : Int32 → Prop) (hw : w_X2_haveCommonNode p1 p2 σ Q) : MC l yX2_haveCommonNode cX2_haveCommonNode 3 (some .boolean) (RM 1 0 0 22) D ad cA g [.ref (ad 1), .int p1, .int p2] σ (fun v σ' => ∃ r : Int32, v = some (.int r) ∧ σ' = σ ∧ Q r) (fun _ _ => False) := by
  refine MC.of (plainFor_of_name (by decide +kernel)) (Nat.le_of_ble_eq_true rfl) ?_
  intro p e s m args below meth c A ls hx hb hr hml hown hG hlocks htab hA hS hP hK hD hGV hl
  have hown : s.vm.findClass RX2 = some m.cls := hown
  have hl : lv_has ls 3 [(0, .ref (ad 1)), (1, .int p1), (2, .int p2)] := hl
  have hSF : CF p m c cX2_haveCommonNode 3 s args RX2 := ⟨hx, hb, hml, hown, hG⟩
  refine lv_aload_n hx hb dX2_haveCommonNode_0 rfl (lv_at hl 0 rfl) ?_
  refine lv_iload_n hx hb dX2_haveCommonNode_1 rfl (lv_at hl 1 rfl) ?_
  refine lv_aload_n hx hb dX2_haveCommonNode_2 rfl (lv_at hl 0 rfl) ?_
  refine k_get (ci := 4) (C := RX2) (T := TX2) (N := 12) (v := .ref (ad 6)) hx hb hG inX2 hown hK hP 1 wl_1 rfl 6 (by decide) gw82 rfl dX2_haveCommonNode_3 ?_
  refine lv_iload_n hx hb dX2_haveCommonNode_6 rfl (lv_at hl 2 rfl) ?_
  obtain ⟨hc1, hw⟩ := hw
  refine k_iald (v := gA σ 4 (ix p2)) hx hb hK hP 6 wl_6 (ix p2) rfl rfl hc1 dX2_haveCommonNode_7 ?_
  refine mc_V hSF hl.1 hP hD hS hA hK hGV (m_X2_otherEnd l hfl D ad cA g p1 (gA σ 4 (ix p2)) σ _ hw) goV_X2_50 pd_X2_otherEnd ⟨(Nat.le_of_ble_eq_true rfl), (Nat.le_of_ble_eq_true rfl)⟩ ⟨(Nat.le_of_ble_eq_true rfl), (Nat.le_of_ble_eq_true rfl)⟩ (va_recv hK hP (ci := 4) (q0 := 1) rfl wl_1) dX2_haveCommonNode_8 rfl (Nat.le_of_ble_eq_true rfl) (fun v9 σ9 H locs hq hP hD hS => ?_) (fun _ _ _ _ _ _ h => h.elim)
  obtain ⟨r2, hv9, hs9, hw⟩ := hq
  subst hv9
  subst σ9
  refine W.eq (g2 := F0 m 11 ls [.int r2]) rfl ?_
  refine W.widen (k := 0) (n := 0) (Nat.le_refl _) (Nat.le_refl _) ?_
  refine lv_if_ge (tgt := 28) hx hb dX2_haveCommonNode_11 (by decide) (fun k3 => ?_) (fun k3 => ?_)
  · skip
    have hw := hw.1 k3
    refine lv_iconst (v := 1) hx hb dX2_haveCommonNode_28 (by decide) ?_
    refine lv_goto (tgt := 33) hx hb dX2_haveCommonNode_29 (by decide) ?_
    exact vx_ret (m_i ⟨_, rfl, rfl, hw⟩ hx hb hr hlocks rfl hP hD hS (Nat.le_of_ble_eq_true rfl) (Nat.le_of_ble_eq_true rfl) dX2_haveCommonNode_33)
  · skip
    have hw := hw.2 k3
    refine lv_aload_n hx hb dX2_haveCommonNode_14 rfl (lv_at hl 0 rfl) ?_
    refine lv_iload_n hx hb dX2_haveCommonNode_15 rfl (lv_at hl 1 rfl) ?_
    refine lv_aload_n hx hb dX2_haveCommonNode_16 rfl (lv_at hl 0 rfl) ?_
    refine k_get (ci := 4) (C := RX2) (T := TX2) (N := 12) (v := .ref (ad 7)) hx hb hG inX2 hown hK hP 1 wl_1 rfl 7 (by decide) gw83 rfl dX2_haveCommonNode_17 ?_
    refine lv_iload_n hx hb dX2_haveCommonNode_20 rfl (lv_at hl 2 rfl) ?_
    obtain ⟨hc4, hw⟩ := hw
    refine k_iald (v := gA σ 5 (ix p2)) hx hb hK hP 7 wl_7 (ix p2) rfl rfl hc4 dX2_haveCommonNode_21 ?_
    refine mc_V hSF hl.1 hP hD hS hA hK hGV (m_X2_otherEnd l hfl D ad cA g p1 (gA σ 5 (ix p2)) σ _ hw) goV_X2_50 pd_X2_otherEnd ⟨(Nat.le_of_ble_eq_true rfl), (Nat.le_of_ble_eq_true rfl)⟩ ⟨(Nat.le_of_ble_eq_true rfl), (Nat.le_of_ble_eq_true rfl)⟩ (va_recv hK hP (ci := 4) (q0 := 1) rfl wl_1) dX2_haveCommonNode_22 rfl (Nat.le_of_ble_eq_true rfl) (fun v9 σ9 H locs hq hP hD hS => ?_) (fun _ _ _ _ _ _ h => h.elim)
    obtain ⟨r5, hv9, hs9, hw⟩ := hq
    subst hv9
    subst σ9
    refine W.eq (g2 := F0 m 25 ls [.int r5]) rfl ?_
    refine W.widen (k := 0) (n := 0) (Nat.le_refl _) (Nat.le_refl _) ?_
    refine lv_if_lt (tgt := 32) hx hb dX2_haveCommonNode_25 (by decide) (fun k6 => ?_) (fun k6 => ?_)
    · skip
      have hw := hw.1 k6
      refine lv_iconst (v := 0) hx hb dX2_haveCommonNode_32 (by decide) ?_
      exact vx_ret (m_i ⟨_, rfl, rfl, hw⟩ hx hb hr hlocks rfl hP hD hS (Nat.le_of_ble_eq_true rfl) (Nat.le_of_ble_eq_true rfl) dX2_haveCommonNode_33)
    · skip
      have hw := hw.2 k6
      refine lv_iconst (v := 1) hx hb dX2_haveCommonNode_28 (by decide) ?_
      refine lv_goto (tgt := 33) hx hb dX2_haveCommonNode_29 (by decide) ?_
      exact vx_ret (m_i ⟨_, rfl, rfl, hw⟩ hx hb hr hlocks rfl hP hD hS (Nat.le_of_ble_eq_true rfl) (Nat.le_of_ble_eq_true rfl) dX2_haveCommonNode_33)

set_option maxHeartbeats 4000000 in
set_option maxRecDepth 100000 in
theorem m_X3_partner (l : Launch) (hfl : l.stackTraces = false) (D : va_G) (ad : Nat → Nat) (cA : Nat → ClassId) (g : gv_T) (p1 : Int32) (p2 : Int32) (σ : Sg) (Q : Int32 → Prop) (hw : w_X3_partner p1 p2 σ Q) : MC l yX3_partner cX3_partner 3 (some .int) (RM 0 0 0 0) D ad cA g [.ref (ad 32), .int p1, .int p2] σ (fun v σ' => ∃ r : Int32, v = some (.int r) ∧ σ' = σ ∧ Q r) (fun _ _ => False) := by
  refine MC.of (plainFor_of_name (by decide +kernel)) (Nat.le_of_ble_eq_true rfl) ?_
  intro p e s m args below meth c A ls hx hb hr hml hown hG hlocks htab hA hS hP hK hD hGV hl
  have hown : s.vm.findClass RX3 = some m.cls := hown
  have hl : lv_has ls 3 [(0, .ref (ad 32)), (1, .int p1), (2, .int p2)] := hl
  have hSF : CF p m c cX3_partner 3 s args RX3 := ⟨hx, hb, hml, hown, hG⟩
  refine lv_aload_n hx hb dX3_partner_0 rfl (lv_at hl 0 rfl) ?_
  refine k_get (ci := 5) (C := RX3) (T := TX3) (N := 6) (v := .ref (ad 33)) hx hb hG inX3 hown hK hP 32 wl_32 rfl 1 (by decide) gw203 rfl dX3_partner_1 ?_
  refine lv_iload_n hx hb dX3_partner_4 rfl (lv_at hl 1 rfl) ?_
  obtain ⟨hc1, hw⟩ := hw
  refine k_iald (v := gA σ 13 (ix p1)) hx hb hK hP 33 wl_33 (ix p1) rfl rfl hc1 dX3_partner_5 ?_
  refine lv_iload_n hx hb dX3_partner_6 rfl (lv_at hl 2 rfl) ?_
  refine lv_icmp_ne (tgt := 17) hx hb dX3_partner_7 (by decide) (fun k2 => ?_) (fun k2 => ?_)
  · skip
    have hw := hw.1 k2
    refine lv_aload_n hx hb dX3_partner_17 rfl (lv_at hl 0 rfl) ?_
    refine k_get (ci := 5) (C := RX3) (T := TX3) (N := 6) (v := .ref (ad 34)) hx hb hG inX3 hown hK hP 32 wl_32 rfl 2 (by decide) gw204 rfl dX3_partner_18 ?_
    refine lv_iload_n hx hb dX3_partner_21 rfl (lv_at hl 1 rfl) ?_
    obtain ⟨hc3, hw⟩ := hw
    refine k_iald (v := gA σ 14 (ix p1)) hx hb hK hP 34 wl_34 (ix p1) rfl rfl hc3 dX3_partner_22 ?_
    refine lv_iload_n hx hb dX3_partner_23 rfl (lv_at hl 2 rfl) ?_
    refine lv_icmp_ne (tgt := 36) hx hb dX3_partner_24 (by decide) (fun k4 => ?_) (fun k4 => ?_)
    · skip
      have hw := hw.1 k4
      refine lv_iconst (v := (-1)) hx hb dX3_partner_36 (by decide) ?_
      exact vx_ret (m_i ⟨_, rfl, rfl, hw⟩ hx hb hr hlocks rfl hP hD hS (Nat.le_of_ble_eq_true rfl) (Nat.le_of_ble_eq_true rfl) dX3_partner_37)
    · skip
      have hw := hw.2 k4
      refine lv_aload_n hx hb dX3_partner_27 rfl (lv_at hl 0 rfl) ?_
      refine k_get (ci := 5) (C := RX3) (T := TX3) (N := 6) (v := .ref (ad 33)) hx hb hG inX3 hown hK hP 32 wl_32 rfl 1 (by decide) gw203 rfl dX3_partner_28 ?_
      refine lv_iload_n hx hb dX3_partner_31 rfl (lv_at hl 1 rfl) ?_
      obtain ⟨hc5, hw⟩ := hw
      refine k_iald (v := gA σ 13 (ix p1)) hx hb hK hP 33 wl_33 (ix p1) rfl rfl hc5 dX3_partner_32 ?_
      refine lv_goto (tgt := 37) hx hb dX3_partner_33 (by decide) ?_
      exact vx_ret (m_i ⟨_, rfl, rfl, hw⟩ hx hb hr hlocks rfl hP hD hS (Nat.le_of_ble_eq_true rfl) (Nat.le_of_ble_eq_true rfl) dX3_partner_37)
  · skip
    have hw := hw.2 k2
    refine lv_aload_n hx hb dX3_partner_10 rfl (lv_at hl 0 rfl) ?_
    refine k_get (ci := 5) (C := RX3) (T := TX3) (N := 6) (v := .ref (ad 34)) hx hb hG inX3 hown hK hP 32 wl_32 rfl 2 (by decide) gw204 rfl dX3_partner_11 ?_
    refine lv_iload_n hx hb dX3_partner_14 rfl (lv_at hl 1 rfl) ?_
    obtain ⟨hc6, hw⟩ := hw
    refine k_iald (v := gA σ 14 (ix p1)) hx hb hK hP 34 wl_34 (ix p1) rfl rfl hc6 dX3_partner_15 ?_
    exact vx_ret (m_i ⟨_, rfl, rfl, hw⟩ hx hb hr hlocks rfl hP hD hS (Nat.le_of_ble_eq_true rfl) (Nat.le_of_ble_eq_true rfl) dX3_partner_16)

set_option maxHeartbeats 4000000 in
set_option maxRecDepth 100000 in
theorem m_X3_areJoined (l : Launch) (hfl : l.stackTraces = false) (D : va_G) (ad : Nat → Nat) (cA : Nat → ClassId) (g : gv_T) (p1 : Int32) (p2 : Int32) (σ : Sg) (Q : Int32 → Prop) (hw : w_X3_areJoined p1 p2 σ Q) : MC l yX3_areJoined cX3_areJoined 4 (some .boolean) (RM 1 0 0 22) D ad cA g [.ref (ad 32), .int p1, .int p2] σ (fun v σ' => ∃ r : Int32, v = some (.int r) ∧ σ' = σ ∧ Q r) (fun _ _ => False) := by
  refine MC.of (plainFor_of_name (by decide +kernel)) (Nat.le_of_ble_eq_true rfl) ?_
  intro p e s m args below meth c A ls hx hb hr hml hown hG hlocks htab hA hS hP hK hD hGV hl
  have hown : s.vm.findClass RX3 = some m.cls := hown
  have hl : lv_has ls 4 [(0, .ref (ad 32)), (1, .int p1), (2, .int p2)] := hl
  have hSF : CF p m c cX3_areJoined 4 s args RX3 := ⟨hx, hb, hml, hown, hG⟩
  refine lv_iconst (v := 0) hx hb dX3_areJoined_0 (by decide) ?_
  refine lv_istore_n (lv' := [(3, .int 0), (0, .ref (ad 32)), (1, .int p1), (2, .int p2)]) hx hb dX3_areJoined_1 rfl hl (by decide) rfl (fun ls hl => ?_)
  obtain ⟨I1, μ1, hI1, hw1⟩ := hw
  have hl : lv_has ls 4 [(0, .ref (ad 32)), (1, .int p1), (2, .int p2), (3, .int 0)] := lv_sub hl [1, 2, 3, 0] rfl
  suffices key1 : ∀ (n1 : Nat) (i3_1 : Int32), μ1 i3_1 < n1 → I1 i3_1 → ∀ (H : Heap) (locs : List Loc) (ls : Array Slot), va_P D vwCl (WL ad cA σ) H → va_D A (WL ad cA σ) → va_S A s.heap H locs → lv_has ls 4 [(0, .ref (ad 32)), (1, .int p1), (2, .int p2), (3, .int i3_1)] → W p l e (RM 1 0 0 22) s m args below meth c H locs (0) (0) (vx_MQ below (QM D ad cA A (fun v σ' => ∃ r : Int32, v = some (.int r) ∧ σ' = σ ∧ Q r)) (XM D ad cA A (fun _ _ => False)) args s (RM 1 0 0 22).cells (RM 1 0 0 22).slots A) (F0 m 2 ls []) from key1 _ _ (Nat.lt_succ_self _) hI1 _ _ ls hP hD hS hl
  clear hP hD hS hl
  intro n1
  induction n1 with
  | zero => intro _ h; exact absurd h (Nat.not_lt_zero _)
  | succ n1 ih1 =>
    intro i3_1 hm1 hI1 H locs ls hP hD hS hl
    have hw := hw1 i3_1 hI1
    refine lv_iload_n hx hb dX3_areJoined_2 rfl (lv_at hl 3 rfl) ?_
    refine lv_aload_n hx hb dX3_areJoined_3 rfl (lv_at hl 0 rfl) ?_
    refine k_get (ci := 5) (C := RX3) (T := TX3) (N := 6) (v := .int (gI σ 4)) hx hb hG inX3 hown hK hP 32 wl_32 rfl 0 (by decide) gw200 rfl dX3_areJoined_4 ?_
    refine lv_icmp_ge (tgt := 28) hx hb dX3_areJoined_7 (by decide) (fun k2 => ?_) (fun k2 => ?_)
    · skip
      have hw := hw.1 k2
      refine lv_iconst (v := 0) hx hb dX3_areJoined_28 (by decide) ?_
      exact vx_ret (m_i ⟨_, rfl, rfl, hw⟩ hx hb hr hlocks rfl hP hD hS (Nat.le_of_ble_eq_true rfl) (Nat.le_of_ble_eq_true rfl) dX3_areJoined_29)
    · skip
      have hw := hw.2 k2
      refine lv_aload_n hx hb dX3_areJoined_10 rfl (lv_at hl 0 rfl) ?_
      refine lv_iload_n hx hb dX3_areJoined_11 rfl (lv_at hl 3 rfl) ?_
      refine lv_iload_n hx hb dX3_areJoined_12 rfl (lv_at hl 1 rfl) ?_
      refine mc_V hSF hl.1 hP hD hS hA hK hGV (m_X3_partner l hfl D ad cA g i3_1 p1 σ _ hw) goV_X3_39 pd_X3_partner ⟨(Nat.le_of_ble_eq_true rfl), (Nat.le_of_ble_eq_true rfl)⟩ ⟨(Nat.le_of_ble_eq_true rfl), (Nat.le_of_ble_eq_true rfl)⟩ (va_recv hK hP (ci := 5) (q0 := 32) rfl wl_32) dX3_areJoined_13 rfl (Nat.le_of_ble_eq_true rfl) (fun v9 σ9 H locs hq hP hD hS => ?_) (fun _ _ _ _ _ _ h => h.elim)
      obtain ⟨r3, hv9, hs9, hw⟩ := hq
      subst hv9
      subst σ9
      refine W.eq (g2 := F0 m 16 ls [.int r3]) rfl ?_
      refine W.widen (k := 0) (n := 0) (Nat.le_refl _) (Nat.le_refl _) ?_
      refine lv_iload_n hx hb dX3_areJoined_16 rfl (lv_at hl 2 rfl) ?_
      refine lv_icmp_ne (tgt := 22) hx hb dX3_areJoined_17 (by decide) (fun k4 => ?_) (fun k4 => ?_)
      · skip
        have hw := hw.1 k4
        refine lv_iinc (v := i3_1 + 1) (lv' := [(3, .int (i3_1 + 1)), (0, .ref (ad 32)), (1, .int p1), (2, .int p2)]) hx hb dX3_areJoined_22 hl (k := 3) rfl rfl (by decide) rfl (fun ls hl => ?_)
        refine lv_goto (tgt := 2) hx hb dX3_areJoined_25 (by decide) ?_
        exact ih1 (i3_1 + 1) (Nat.lt_of_lt_of_le hw.2 (Nat.le_of_lt_succ hm1)) hw.1 _ _ ls hP hD hS (lv_sub hl [1, 2, 3, 0] rfl)
      · skip
        have hw := hw.2 k4
        refine lv_iconst (v := 1) hx hb dX3_areJoined_20 (by decide) ?_
        exact vx_ret (m_i ⟨_, rfl, rfl, hw⟩ hx hb hr hlocks rfl hP hD hS (Nat.le_of_ble_eq_true rfl) (Nat.le_of_ble_eq_true rfl) dX3_areJoined_21)

set_option maxHeartbeats 4000000 in
set_option maxRecDepth 100000 in
theorem m_X3_add (l : Launch) (hfl : l.stackTraces = false) (D : va_G) (ad : Nat → Nat) (cA : Nat → ClassId) (g : gv_T) (p1 : Int32) (p2 : Int32) (p3 : Int32) (p4 : Int32) (p5 : Int32) (σ : Sg) (Q : Int32 → Sg → Prop) (hw : w_X3_add p1 p2 p3 p4 p5 σ Q) : MC l yX3_add cX3_add 7 (some .int) (RM 0 0 0 0) D ad cA g [.ref (ad 32), .int p1, .int p2, .int p3, .int p4, .int p5] σ (fun v σ' => ∃ r : Int32, v = some (.int r) ∧ Q r σ') (fun _ _ => False) := by
  refine MC.of (plainFor_of_name (by decide +kernel)) (Nat.le_of_ble_eq_true rfl) ?_
  intro p e s m args below meth c A ls hx hb hr hml hown hG hlocks htab hA hS hP hK hD hGV hl
  have hown : s.vm.findClass RX3 = some m.cls := hown
  have hl : lv_has ls 7 [(0, .ref (ad 32)), (1, .int p1), (2, .int p2), (3, .int p3), (4, .int p4), (5, .int p5)] := hl
  have hSF : CF p m c cX3_add 7 s args RX3 := ⟨hx, hb, hml, hown, hG⟩
  refine lv_aload_n hx hb dX3_add_0 rfl (lv_at hl 0 rfl) ?_
  refine k_get (ci := 5) (C := RX3) (T := TX3) (N := 6) (v := .int (gI σ 4)) hx hb hG inX3 hown hK hP 32 wl_32 rfl 0 (by decide) gw200 rfl dX3_add_1 ?_
  obtain ⟨v1, ev1⟩ : ∃ z : Int32, z = gI σ 4 := ⟨_, rfl⟩
  have hw := hw v1 ev1
  refine lv_istore (lv' := [(6, .int v1), (0, .ref (ad 32)), (1, .int p1), (2, .int p2), (3, .int p3), (4, .int p4), (5, .int p5)]) hx hb dX3_add_4 hl (by decide) (by subst ev1; rfl) (fun ls hl => ?_)
  refine lv_aload_n hx hb dX3_add_6 rfl (lv_at hl 1 rfl) ?_
  refine k_get (ci := 5) (C := RX3) (T := TX3) (N := 6) (v := .ref (ad 33)) hx hb hG inX3 hown hK hP 32 wl_32 rfl 1 (by decide) gw203 rfl dX3_add_7 ?_
  refine lv_iload hx hb dX3_add_10 (lv_at hl 0 rfl) ?_
  refine lv_iload_n hx hb dX3_add_12 rfl (lv_at hl 2 rfl) ?_
  obtain ⟨hc2, hw⟩ := hw
  obtain ⟨σ3, eσ3⟩ : ∃ z : Sg, z = sA σ 13 (ix v1) p1 := ⟨_, rfl⟩
  have hw := hw σ3 eσ3
  refine k_iast (ws1 := WL ad cA σ3) hx hb hK hP hD hS 33 wl_33 (ws_33 eσ3) hc2 dX3_add_13 (fun H locs hP hD hS => ?_)
  refine lv_aload_n hx hb dX3_add_14 rfl (lv_at hl 1 rfl) ?_
  refine k_get (ci := 5) (C := RX3) (T := TX3) (N := 6) (v := .ref (ad 34)) hx hb hG inX3 hown hK hP 32 wl_32 rfl 2 (by decide) gw204 rfl dX3_add_15 ?_
  refine lv_iload hx hb dX3_add_18 (lv_at hl 0 rfl) ?_
  refine lv_iload_n hx hb dX3_add_20 rfl (lv_at hl 3 rfl) ?_
  obtain ⟨hc4, hw⟩ := hw
  obtain ⟨σ5, eσ5⟩ : ∃ z : Sg, z = sA σ3 14 (ix v1) p2 := ⟨_, rfl⟩
  have hw := hw σ5 eσ5
  refine k_iast (ws1 := WL ad cA σ5) hx hb hK hP hD hS 34 wl_34 (ws_34 eσ5) hc4 dX3_add_21 (fun H locs hP hD hS => ?_)
  refine lv_aload_n hx hb dX3_add_22 rfl (lv_at hl 1 rfl) ?_
  refine k_get (ci := 5) (C := RX3) (T := TX3) (N := 6) (v := .ref (ad 35)) hx hb hG inX3 hown hK hP 32 wl_32 rfl 3 (by decide) gw205 rfl dX3_add_23 ?_
  refine lv_iload hx hb dX3_add_26 (lv_at hl 0 rfl) ?_
  refine lv_iload_n hx hb dX3_add_28 rfl (lv_at hl 4 rfl) ?_
  obtain ⟨hc6, hw⟩ := hw
  obtain ⟨σ7, eσ7⟩ : ∃ z : Sg, z = sA σ5 15 (ix v1) p3 := ⟨_, rfl⟩
  have hw := hw σ7 eσ7
  refine k_iast (ws1 := WL ad cA σ7) hx hb hK hP hD hS 35 wl_35 (ws_35 eσ7) hc6 dX3_add_29 (fun H locs hP hD hS => ?_)
  refine lv_aload_n hx hb dX3_add_30 rfl (lv_at hl 1 rfl) ?_
  refine k_get (ci := 5) (C := RX3) (T := TX3) (N := 6) (v := .ref (ad 36)) hx hb hG inX3 hown hK hP 32 wl_32 rfl 4 (by decide) gw206 rfl dX3_add_31 ?_
  refine lv_iload hx hb dX3_add_34 (lv_at hl 0 rfl) ?_
  refine lv_iload hx hb dX3_add_36 (lv_at hl 5 rfl) ?_
  obtain ⟨hc8, hw⟩ := hw
  obtain ⟨σ9, eσ9⟩ : ∃ z : Sg, z = sA σ7 16 (ix v1) p4 := ⟨_, rfl⟩
  have hw := hw σ9 eσ9
  refine k_iast (ws1 := WL ad cA σ9) hx hb hK hP hD hS 36 wl_36 (ws_36 eσ9) hc8 dX3_add_38 (fun H locs hP hD hS => ?_)
  refine lv_aload_n hx hb dX3_add_39 rfl (lv_at hl 1 rfl) ?_
  refine k_get (ci := 5) (C := RX3) (T := TX3) (N := 6) (v := .ref (ad 37)) hx hb hG inX3 hown hK hP 32 wl_32 rfl 5 (by decide) gw207 rfl dX3_add_40 ?_
  refine lv_iload hx hb dX3_add_43 (lv_at hl 0 rfl) ?_
  refine lv_iload hx hb dX3_add_45 (lv_at hl 6 rfl) ?_
  obtain ⟨hc10, hw⟩ := hw
  obtain ⟨σ11, eσ11⟩ : ∃ z : Sg, z = sA σ9 17 (ix v1) p5 := ⟨_, rfl⟩
  have hw := hw σ11 eσ11
  refine k_iast (ws1 := WL ad cA σ11) hx hb hK hP hD hS 37 wl_37 (ws_37 eσ11) hc10 dX3_add_47 (fun H locs hP hD hS => ?_)
  refine lv_aload_n hx hb dX3_add_48 rfl (lv_at hl 1 rfl) ?_
  refine lv_iload hx hb dX3_add_49 (lv_at hl 0 rfl) ?_
  refine lv_iconst (v := 1) hx hb dX3_add_51 (by decide) ?_
  refine k_iadd (v := v1 + 1) hx hb dX3_add_52 rfl ?_
  obtain ⟨σ12, eσ12⟩ : ∃ z : Sg, z = sI σ11 4 (v1 + 1) := ⟨_, rfl⟩
  have hw := hw σ12 eσ12
  refine k_put (ci := 5) (C := RX3) (T := TX3) (N := 6) (v := .int (v1 + 1)) (ws1 := WL ad cA σ12) hx hb hG inX3 tyX3 tyX3_ok nmX3 hown hK hP hD hS 32 wl_32 rfl 0 (by decide) gw200 rfl ⟨rfl, rfl⟩ (ws_32_0 eσ12) (Nat.le_of_ble_eq_true rfl) dX3_add_53 (fun H locs hP hD hS => ?_)
  refine lv_iload hx hb dX3_add_56 (lv_at hl 0 rfl) ?_
  exact vx_ret (m_i ⟨_, rfl, hw⟩ hx hb hr hlocks rfl hP hD hS (Nat.le_of_ble_eq_true rfl) (Nat.le_of_ble_eq_true rfl) dX3_add_58)

set_option maxHeartbeats 4000000 in
set_option maxRecDepth 100000 in
theorem m_X6_joint (l : Launch) (hfl : l.stackTraces = false) (D : va_G) (ad : Nat → Nat) (cA : Nat → ClassId) (g : gv_T) (p1 : Int32) (p2 : Int32) (p3 : Int32) (p4 : Int32) (p5 : Int32) (σ : Sg) (Q : Int32 → Sg → Prop) (X : String → Sg → Prop) (hw : w_X6_joint p1 p2 p3 p4 p5 σ Q X) : MC l yX6_joint cX6_joint 6 (some .int) (RM 7 3 18 112) D ad cA g [.ref (ad 0), .int p1, .int p2, .int p3, .int p4, .int p5] σ (fun v σ' => ∃ r : Int32, v = some (.int r) ∧ Q r σ') X := by
  refine MC.of (plainFor_of_name (by decide +kernel)) (Nat.le_of_ble_eq_true rfl) ?_
  intro p e s m args below meth c A ls hx hb hr hml hown hG hlocks htab hA hS hP hK hD hGV hl
  have hown : s.vm.findClass RX6 = some m.cls := hown
  have hl : lv_has ls 6 [(0, .ref (ad 0)), (1, .int p1), (2, .int p2), (3, .int p3), (4, .int p4), (5, .int p5)] := hl
  have hSF : CF p m c cX6_joint 6 s args RX6 := ⟨hx, hb, hml, hown, hG⟩
  refine lv_aload_n hx hb dX6_joint_0 rfl (lv_at hl 0 rfl) ?_
  refine lv_iload_n hx hb dX6_joint_1 rfl (lv_at hl 1 rfl) ?_
  refine mc_V hSF hl.1 hP hD hS hA hK hGV (m_X6_checkMember l hfl D ad cA g p1 σ _ _ hw) goV_X6_118 pd_X6_checkMember ⟨(Nat.le_of_ble_eq_true rfl), (Nat.le_of_ble_eq_true rfl)⟩ ⟨(Nat.le_of_ble_eq_true rfl), (Nat.le_of_ble_eq_true rfl)⟩ (va_recv hK hP (ci := 8) (q0 := 0) rfl wl_0) dX6_joint_2 rfl (Nat.le_of_ble_eq_true rfl) (fun v9 σ9 H locs hq hP hD hS => ?_) (fun E9 σ9 H locs x9 ce9 hw hP hD hS h9 hv9 hc9 => ?_)
  · skip
    obtain ⟨hv9, hs9, hw⟩ := hq
    subst hv9
    subst σ9
    refine W.eq (g2 := F0 m 5 ls []) rfl ?_
    refine W.widen (k := 1) (n := 6) (Nat.le_refl _) (Nat.le_refl _) ?_
    refine lv_aload_n hx hb dX6_joint_5 rfl (lv_at hl 0 rfl) ?_
    refine lv_iload_n hx hb dX6_joint_6 rfl (lv_at hl 2 rfl) ?_
    refine mc_V hSF hl.1 hP hD hS hA hK hGV (m_X6_checkMember l hfl D ad cA g p2 σ _ _ hw) goV_X6_118 pd_X6_checkMember ⟨(Nat.le_of_ble_eq_true rfl), (Nat.le_of_ble_eq_true rfl)⟩ ⟨(Nat.le_of_ble_eq_true rfl), (Nat.le_of_ble_eq_true rfl)⟩ (va_recv hK hP (ci := 8) (q0 := 0) rfl wl_0) dX6_joint_7 rfl (Nat.le_of_ble_eq_true rfl) (fun v9 σ9 H locs hq hP hD hS => ?_) (fun E9 σ9 H locs x9 ce9 hw hP hD hS h9 hv9 hc9 => ?_)
    · skip
      obtain ⟨hv9, hs9, hw⟩ := hq
      subst hv9
      subst σ9
      refine W.eq (g2 := F0 m 10 ls []) rfl ?_
      refine W.widen (k := 2) (n := 12) (Nat.le_refl _) (Nat.le_refl _) ?_
      refine lv_iload_n hx hb dX6_joint_10 rfl (lv_at hl 1 rfl) ?_
      refine lv_iload_n hx hb dX6_joint_11 rfl (lv_at hl 2 rfl) ?_
      refine lv_icmp_eq (tgt := 48) hx hb dX6_joint_12 (by decide) (fun k3 => ?_) (fun k3 => ?_)
      · skip
        have hw := hw.1 k3
        exact m_throw hw (names := ["java/lang/RuntimeException", "java/lang/Exception"]) 9 hx hb hfl hown hG hGV htab hlocks (hl.1.trans hml.symm) (by decide +kernel) (by decide +kernel) gw595 gw46 rfl xat_X6_60 hP hD hS dX6_joint_48 dX6_joint_51 dX6_joint_52 dX6_joint_54 dX6_joint_57 (Nat.le_of_ble_eq_true rfl) (Nat.le_of_ble_eq_true rfl) (Nat.le_of_ble_eq_true rfl) (Nat.le_of_ble_eq_true rfl) (Nat.le_of_ble_eq_true rfl) (Nat.le_of_ble_eq_true rfl)
      · skip
        have hw := hw.2 k3
        refine lv_aload_n hx hb dX6_joint_15 rfl (lv_at hl 0 rfl) ?_
        refine k_get (ci := 8) (C := RX6) (T := TX6) (N := 5) (v := .ref (ad 32)) hx hb hG inX6 hown hK hP 0 wl_0 rfl 2 (by decide) gw307 rfl dX6_joint_16 ?_
        refine lv_iload_n hx hb dX6_joint_19 rfl (lv_at hl 3 rfl) ?_
        refine mc_V hSF hl.1 hP hD hS hA hK hGV (m_X3_wayIndex l hfl D ad cA g p3 σ _ hw) goV_X6_153 pd_X3_wayIndex ⟨(Nat.le_of_ble_eq_true rfl), (Nat.le_of_ble_eq_true rfl)⟩ ⟨(Nat.le_of_ble_eq_true rfl), (Nat.le_of_ble_eq_true rfl)⟩ (va_recv hK hP (ci := 5) (q0 := 32) rfl wl_32) dX6_joint_20 rfl (Nat.le_of_ble_eq_true rfl) (fun v9 σ9 H locs hq hP hD hS => ?_) (fun _ _ _ _ _ _ h => h.elim)
        obtain ⟨r4, hv9, hs9, hw⟩ := hq
        subst hv9
        subst σ9
        refine W.eq (g2 := F0 m 23 ls [.int r4]) rfl ?_
        refine W.widen (k := 2) (n := 12) (Nat.le_refl _) (Nat.le_refl _) ?_
        refine lv_if_lt (tgt := 48) hx hb dX6_joint_23 (by decide) (fun k5 => ?_) (fun k5 => ?_)
        · skip
          have hw := hw.1 k5
          exact m_throw hw (names := ["java/lang/RuntimeException", "java/lang/Exception"]) 9 hx hb hfl hown hG hGV htab hlocks (hl.1.trans hml.symm) (by decide +kernel) (by decide +kernel) gw595 gw46 rfl xat_X6_60 hP hD hS dX6_joint_48 dX6_joint_51 dX6_joint_52 dX6_joint_54 dX6_joint_57 (Nat.le_of_ble_eq_true rfl) (Nat.le_of_ble_eq_true rfl) (Nat.le_of_ble_eq_true rfl) (Nat.le_of_ble_eq_true rfl) (Nat.le_of_ble_eq_true rfl) (Nat.le_of_ble_eq_true rfl)
        · skip
          have hw := hw.2 k5
          refine lv_iload hx hb dX6_joint_26 (lv_at hl 4 rfl) ?_
          refine lv_iconst (v := 2) hx hb dX6_joint_28 (by decide) ?_
          refine lv_bipush (v := 20) hx hb dX6_joint_29 (by decide) ?_
          refine mc_S hSF hl.1 hP hD hS hA hK hGV (m_X6_isWithin l hfl D ad cA g p4 2 20 σ _ hw) goS_X6_44 pd_X6_isWithin.2 ⟨(Nat.le_of_ble_eq_true rfl), (Nat.le_of_ble_eq_true rfl)⟩ ⟨(Nat.le_of_ble_eq_true rfl), (Nat.le_of_ble_eq_true rfl)⟩ dX6_joint_31 rfl (Nat.le_of_ble_eq_true rfl) (fun v9 σ9 H locs hq hP hD hS => ?_) (fun _ _ _ _ _ _ h => h.elim)
          obtain ⟨r6, hv9, hs9, hw⟩ := hq
          subst hv9
          subst σ9
          refine W.eq (g2 := F0 m 34 ls [.int r6]) rfl ?_
          refine W.widen (k := 2) (n := 12) (Nat.le_refl _) (Nat.le_refl _) ?_
          refine lv_if_eq (tgt := 48) hx hb dX6_joint_34 (by decide) (fun k7 => ?_) (fun k7 => ?_)
          · skip
            have hw := hw.1 k7
            exact m_throw hw (names := ["java/lang/RuntimeException", "java/lang/Exception"]) 9 hx hb hfl hown hG hGV htab hlocks (hl.1.trans hml.symm) (by decide +kernel) (by decide +kernel) gw595 gw46 rfl xat_X6_60 hP hD hS dX6_joint_48 dX6_joint_51 dX6_joint_52 dX6_joint_54 dX6_joint_57 (Nat.le_of_ble_eq_true rfl) (Nat.le_of_ble_eq_true rfl) (Nat.le_of_ble_eq_true rfl) (Nat.le_of_ble_eq_true rfl) (Nat.le_of_ble_eq_true rfl) (Nat.le_of_ble_eq_true rfl)
          · skip
            have hw := hw.2 k7
            refine lv_iload hx hb dX6_joint_37 (lv_at hl 5 rfl) ?_
            refine lv_iconst (v := 1) hx hb dX6_joint_39 (by decide) ?_
            refine lv_bipush (v := 31) hx hb dX6_joint_40 (by decide) ?_
            refine mc_S hSF hl.1 hP hD hS hA hK hGV (m_X6_isWithin l hfl D ad cA g p5 1 31 σ _ hw) goS_X6_44 pd_X6_isWithin.2 ⟨(Nat.le_of_ble_eq_true rfl), (Nat.le_of_ble_eq_true rfl)⟩ ⟨(Nat.le_of_ble_eq_true rfl), (Nat.le_of_ble_eq_true rfl)⟩ dX6_joint_42 rfl (Nat.le_of_ble_eq_true rfl) (fun v9 σ9 H locs hq hP hD hS => ?_) (fun _ _ _ _ _ _ h => h.elim)
            obtain ⟨r8, hv9, hs9, hw⟩ := hq
            subst hv9
            subst σ9
            refine W.eq (g2 := F0 m 45 ls [.int r8]) rfl ?_
            refine W.widen (k := 2) (n := 12) (Nat.le_refl _) (Nat.le_refl _) ?_
            refine lv_if_ne (tgt := 58) hx hb dX6_joint_45 (by decide) (fun k9 => ?_) (fun k9 => ?_)
            · skip
              have hw := hw.1 k9
              refine lv_aload_n hx hb dX6_joint_58 rfl (lv_at hl 0 rfl) ?_
              refine k_get (ci := 8) (C := RX6) (T := TX6) (N := 5) (v := .ref (ad 1)) hx hb hG inX6 hown hK hP 0 wl_0 rfl 0 (by decide) gw305 rfl dX6_joint_59 ?_
              refine lv_iload_n hx hb dX6_joint_62 rfl (lv_at hl 1 rfl) ?_
              refine lv_iload_n hx hb dX6_joint_63 rfl (lv_at hl 2 rfl) ?_
              refine mc_V hSF hl.1 hP hD hS hA hK hGV (m_X2_haveCommonNode l hfl D ad cA g p1 p2 σ _ hw) goV_X6_159 pd_X2_haveCommonNode ⟨(Nat.le_of_ble_eq_true rfl), (Nat.le_of_ble_eq_true rfl)⟩ ⟨(Nat.le_of_ble_eq_true rfl), (Nat.le_of_ble_eq_true rfl)⟩ (va_recv hK hP (ci := 4) (q0 := 1) rfl wl_1) dX6_joint_64 rfl (Nat.le_of_ble_eq_true rfl) (fun v9 σ9 H locs hq hP hD hS => ?_) (fun _ _ _ _ _ _ h => h.elim)
              obtain ⟨r10, hv9, hs9, hw⟩ := hq
              subst hv9
              subst σ9
              refine W.eq (g2 := F0 m 67 ls [.int r10]) rfl ?_
              refine W.widen (k := 2) (n := 12) (Nat.le_refl _) (Nat.le_refl _) ?_
              refine lv_if_eq (tgt := 82) hx hb dX6_joint_67 (by decide) (fun k11 => ?_) (fun k11 => ?_)
              · skip
                have hw := hw.1 k11
                exact m_throw hw (names := ["java/lang/RuntimeException", "java/lang/Exception"]) 10 hx hb hfl hown hG hGV htab hlocks (hl.1.trans hml.symm) (by decide +kernel) (by decide +kernel) gw789 gw50 rfl xat_X6_169 hP hD hS dX6_joint_82 dX6_joint_85 dX6_joint_86 dX6_joint_88 dX6_joint_91 (Nat.le_of_ble_eq_true rfl) (Nat.le_of_ble_eq_true rfl) (Nat.le_of_ble_eq_true rfl) (Nat.le_of_ble_eq_true rfl) (Nat.le_of_ble_eq_true rfl) (Nat.le_of_ble_eq_true rfl)
              · skip
                have hw := hw.2 k11
                refine lv_aload_n hx hb dX6_joint_70 rfl (lv_at hl 0 rfl) ?_
                refine k_get (ci := 8) (C := RX6) (T := TX6) (N := 5) (v := .ref (ad 32)) hx hb hG inX6 hown hK hP 0 wl_0 rfl 2 (by decide) gw307 rfl dX6_joint_71 ?_
                refine lv_iload_n hx hb dX6_joint_74 rfl (lv_at hl 1 rfl) ?_
                refine lv_iload_n hx hb dX6_joint_75 rfl (lv_at hl 2 rfl) ?_
                refine mc_V hSF hl.1 hP hD hS hA hK hGV (m_X3_areJoined l hfl D ad cA g p1 p2 σ _ hw) goV_X6_162 pd_X3_areJoined ⟨(Nat.le_of_ble_eq_true rfl), (Nat.le_of_ble_eq_true rfl)⟩ ⟨(Nat.le_of_ble_eq_true rfl), (Nat.le_of_ble_eq_true rfl)⟩ (va_recv hK hP (ci := 5) (q0 := 32) rfl wl_32) dX6_joint_76 rfl (Nat.le_of_ble_eq_true rfl) (fun v9 σ9 H locs hq hP hD hS => ?_) (fun _ _ _ _ _ _ h => h.elim)
                obtain ⟨r12, hv9, hs9, hw⟩ := hq
                subst hv9
                subst σ9
                refine W.eq (g2 := F0 m 79 ls [.int r12]) rfl ?_
                refine W.widen (k := 2) (n := 12) (Nat.le_refl _) (Nat.le_refl _) ?_
                refine lv_if_eq (tgt := 92) hx hb dX6_joint_79 (by decide) (fun k13 => ?_) (fun k13 => ?_)
                · skip
                  have hw := hw.1 k13
                  refine lv_aload_n hx hb dX6_joint_92 rfl (lv_at hl 0 rfl) ?_
                  refine k_get (ci := 8) (C := RX6) (T := TX6) (N := 5) (v := .ref (ad 32)) hx hb hG inX6 hown hK hP 0 wl_0 rfl 2 (by decide) gw307 rfl dX6_joint_93 ?_
                  refine k_get (ci := 5) (C := RX3) (T := TX3) (N := 6) (v := .int (gI σ 4)) hx hb hG inX3 hown hK hP 32 wl_32 rfl 0 (by decide) gw202 rfl dX6_joint_96 ?_
                  refine lv_bipush (v := 12) hx hb dX6_joint_99 (by decide) ?_
                  refine lv_icmp_lt (tgt := 114) hx hb dX6_joint_101 (by decide) (fun k14 => ?_) (fun k14 => ?_)
                  · skip
                    have hw := hw.1 k14
                    refine lv_aload_n hx hb dX6_joint_114 rfl (lv_at hl 0 rfl) ?_
                    refine k_get (ci := 8) (C := RX6) (T := TX6) (N := 5) (v := .ref (ad 38)) hx hb hG inX6 hown hK hP 0 wl_0 rfl 3 (by decide) gw308 rfl dX6_joint_115 ?_
                    refine lv_iconst (v := 0) hx hb dX6_joint_118 (by decide) ?_
                    obtain ⟨σ15, eσ15⟩ : ∃ z : Sg, z = sI σ 6 0 := ⟨_, rfl⟩
                    have hw := hw σ15 eσ15
                    refine k_put (ci := 2) (C := RX0) (T := TX0) (N := 11) (v := .int 0) (ws1 := WL ad cA σ15) hx hb hG inX0 tyX0 tyX0_ok nmX0 hown hK hP hD hS 38 wl_38 rfl 1 (by decide) gw229 rfl ⟨rfl, rfl⟩ (ws_38_1 eσ15) (Nat.le_of_ble_eq_true rfl) dX6_joint_119 (fun H locs hP hD hS => ?_)
                    refine lv_aload_n hx hb dX6_joint_122 rfl (lv_at hl 0 rfl) ?_
                    refine k_get (ci := 8) (C := RX6) (T := TX6) (N := 5) (v := .ref (ad 46)) hx hb hG inX6 hown hK hP 0 wl_0 rfl 4 (by decide) gw309 rfl dX6_joint_123 ?_
                    refine lv_iconst (v := 0) hx hb dX6_joint_126 (by decide) ?_
                    obtain ⟨σ16, eσ16⟩ : ∃ z : Sg, z = sI σ15 10 0 := ⟨_, rfl⟩
                    have hw := hw σ16 eσ16
                    refine k_put (ci := 6) (C := RX4) (T := TX4) (N := 9) (v := .int 0) (ws1 := WL ad cA σ16) hx hb hG inX4 tyX4 tyX4_ok nmX4 hown hK hP hD hS 46 wl_46 rfl 1 (by decide) gw275 rfl ⟨rfl, rfl⟩ (ws_46_1 eσ16) (Nat.le_of_ble_eq_true rfl) dX6_joint_127 (fun H locs hP hD hS => ?_)
                    refine lv_aload_n hx hb dX6_joint_130 rfl (lv_at hl 0 rfl) ?_
                    refine k_get (ci := 8) (C := RX6) (T := TX6) (N := 5) (v := .ref (ad 32)) hx hb hG inX6 hown hK hP 0 wl_0 rfl 2 (by decide) gw307 rfl dX6_joint_131 ?_
                    refine lv_iload_n hx hb dX6_joint_134 rfl (lv_at hl 1 rfl) ?_
                    refine lv_iload_n hx hb dX6_joint_135 rfl (lv_at hl 2 rfl) ?_
                    refine lv_aload_n hx hb dX6_joint_136 rfl (lv_at hl 0 rfl) ?_
                    refine k_get (ci := 8) (C := RX6) (T := TX6) (N := 5) (v := .ref (ad 32)) hx hb hG inX6 hown hK hP 0 wl_0 rfl 2 (by decide) gw307 rfl dX6_joint_137 ?_
                    refine lv_iload_n hx hb dX6_joint_140 rfl (lv_at hl 3 rfl) ?_
                    refine mc_V hSF hl.1 hP hD hS hA hK hGV (m_X3_wayIndex l hfl D ad cA g p3 σ16 _ hw) goV_X6_153 pd_X3_wayIndex ⟨(Nat.le_of_ble_eq_true rfl), (Nat.le_of_ble_eq_true rfl)⟩ ⟨(Nat.le_of_ble_eq_true rfl), (Nat.le_of_ble_eq_true rfl)⟩ (va_recv hK hP (ci := 5) (q0 := 32) rfl wl_32) dX6_joint_141 rfl (Nat.le_of_ble_eq_true rfl) (fun v9 σ9 H locs hq hP hD hS => ?_) (fun _ _ _ _ _ _ h => h.elim)
                    obtain ⟨r17, hv9, hs9, hw⟩ := hq
                    subst hv9
                    subst σ9
                    refine W.eq (g2 := F0 m 144 ls [.int r17, .int p2, .int p1, .ref (ad 32)]) rfl ?_
                    refine W.widen (k := 2) (n := 12) (Nat.le_refl _) (Nat.le_refl _) ?_
                    refine lv_iload hx hb dX6_joint_144 (lv_at hl 4 rfl) ?_
                    refine lv_iload hx hb dX6_joint_146 (lv_at hl 5 rfl) ?_
                    refine mc_V hSF hl.1 hP hD hS hA hK hGV (m_X3_add l hfl D ad cA g p1 p2 r17 p4 p5 σ16 _ hw) goV_X6_175 pd_X3_add ⟨(Nat.le_of_ble_eq_true rfl), (Nat.le_of_ble_eq_true rfl)⟩ ⟨(Nat.le_of_ble_eq_true rfl), (Nat.le_of_ble_eq_true rfl)⟩ (va_recv hK hP (ci := 5) (q0 := 32) rfl wl_32) dX6_joint_148 rfl (Nat.le_of_ble_eq_true rfl) (fun v9 σ19 H locs hq hP hD hS => ?_) (fun _ _ _ _ _ _ h => h.elim)
                    obtain ⟨r18, hv9, hw⟩ := hq
                    subst hv9
                    refine W.eq (g2 := F0 m 151 ls [.int r18]) rfl ?_
                    refine W.widen (k := 2) (n := 12) (Nat.le_refl _) (Nat.le_refl _) ?_
                    exact vx_ret (m_i ⟨_, rfl, hw⟩ hx hb hr hlocks rfl hP hD hS (Nat.le_of_ble_eq_true rfl) (Nat.le_of_ble_eq_true rfl) dX6_joint_151)
                  · skip
                    have hw := hw.2 k14
                    exact m_throw hw (names := ["java/lang/RuntimeException", "java/lang/Exception"]) 11 hx hb hfl hown hG hGV htab hlocks (hl.1.trans hml.symm) (by decide +kernel) (by decide +kernel) gw667 gw47 rfl xat_X6_71 hP hD hS dX6_joint_104 dX6_joint_107 dX6_joint_108 dX6_joint_110 dX6_joint_113 (Nat.le_of_ble_eq_true rfl) (Nat.le_of_ble_eq_true rfl) (Nat.le_of_ble_eq_true rfl) (Nat.le_of_ble_eq_true rfl) (Nat.le_of_ble_eq_true rfl) (Nat.le_of_ble_eq_true rfl)
                · skip
                  have hw := hw.2 k13
                  exact m_throw hw (names := ["java/lang/RuntimeException", "java/lang/Exception"]) 10 hx hb hfl hown hG hGV htab hlocks (hl.1.trans hml.symm) (by decide +kernel) (by decide +kernel) gw789 gw50 rfl xat_X6_169 hP hD hS dX6_joint_82 dX6_joint_85 dX6_joint_86 dX6_joint_88 dX6_joint_91 (Nat.le_of_ble_eq_true rfl) (Nat.le_of_ble_eq_true rfl) (Nat.le_of_ble_eq_true rfl) (Nat.le_of_ble_eq_true rfl) (Nat.le_of_ble_eq_true rfl) (Nat.le_of_ble_eq_true rfl)
            · skip
              have hw := hw.2 k9
              exact m_throw hw (names := ["java/lang/RuntimeException", "java/lang/Exception"]) 9 hx hb hfl hown hG hGV htab hlocks (hl.1.trans hml.symm) (by decide +kernel) (by decide +kernel) gw595 gw46 rfl xat_X6_60 hP hD hS dX6_joint_48 dX6_joint_51 dX6_joint_52 dX6_joint_54 dX6_joint_57 (Nat.le_of_ble_eq_true rfl) (Nat.le_of_ble_eq_true rfl) (Nat.le_of_ble_eq_true rfl) (Nat.le_of_ble_eq_true rfl) (Nat.le_of_ble_eq_true rfl) (Nat.le_of_ble_eq_true rfl)
    · skip
      exact m_out hw htab hlocks h9 hv9 hc9 hP hD hS (Nat.le_of_ble_eq_true rfl) (Nat.le_of_ble_eq_true rfl)
  · skip
    exact m_out hw htab hlocks h9 hv9 hc9 hP hD hS (Nat.le_of_ble_eq_true rfl) (Nat.le_of_ble_eq_true rfl)

set_option maxHeartbeats 4000000 in
set_option maxRecDepth 100000 in
theorem m_L_joint (l : Launch) (hfl : l.stackTraces = false) (D : va_G) (ad : Nat → Nat) (cA : Nat → ClassId) (g : gv_T) (p1 : Int32) (p2 : Int32) (p3 : Int32) (p4 : Int32) (p5 : Int32) (σ : Sg) (Q : Int32 → Sg → Prop) (hw : w_L_joint p1 p2 p3 p4 p5 σ Q) : MW l yL_joint cL_joint 7 (some .int) [(0, 11, 12, 28), (0, 11, 17, 20), (0, 11, 22, 59), (0, 11, 27, 22)] (RM 8 3 18 137) D ad cA g [.ref (ad 0), .int p1, .int p2, .int p3, .int p4, .int p5] σ (fun v σ' => ∃ r : Int32, v = some (.int r) ∧ Q r σ') := by
  refine MW.of (by decide +kernel) (Nat.le_of_ble_eq_true rfl) ?_
  intro p e s m args below meth c A ls hx hb hr hml hown hG hlocks htab hA hS hP hK hD hGV hl
  have hown : s.vm.findClass RL = some m.cls := hown
  have hl : lv_has ls 7 [(0, .ref (ad 0)), (1, .int p1), (2, .int p2), (3, .int p3), (4, .int p4), (5, .int p5)] := hl
  have hSF : CF p m c cL_joint 7 s args RL := ⟨hx, hb, hml, hown, hG⟩
  refine lv_aload_n hx hb dL_joint_0 rfl (lv_at hl 0 rfl) ?_
  refine lv_iload_n hx hb dL_joint_1 rfl (lv_at hl 1 rfl) ?_
  refine lv_iload_n hx hb dL_joint_2 rfl (lv_at hl 2 rfl) ?_
  refine lv_iload_n hx hb dL_joint_3 rfl (lv_at hl 3 rfl) ?_
  refine lv_iload hx hb dL_joint_4 (lv_at hl 4 rfl) ?_
  refine lv_iload hx hb dL_joint_6 (lv_at hl 5 rfl) ?_
  refine mc_V hSF hl.1 hP hD hS hA hK hGV (m_X6_joint l hfl D ad cA g p1 p2 p3 p4 p5 σ _ _ hw) goV_L_55 pd_X6_joint ⟨(Nat.le_of_ble_eq_true rfl), (Nat.le_of_ble_eq_true rfl)⟩ ⟨(Nat.le_of_ble_eq_true rfl), (Nat.le_of_ble_eq_true rfl)⟩ (va_recv hK hP (ci := 8) (q0 := 0) rfl wl_0) dL_joint_8 rfl (Nat.le_of_ble_eq_true rfl) (fun v9 σ2 H locs hq hP hD hS => ?_) (fun E9 σ3 H locs x9 ce9 hw hP hD hS h9 hv9 hc9 => ?_)
  · skip
    obtain ⟨r1, hv9, hw⟩ := hq
    subst hv9
    refine W.eq (g2 := F0 m 11 ls [.int r1]) rfl ?_
    refine W.widen (k := 3) (n := 18) (Nat.le_refl _) (Nat.le_refl _) ?_
    exact m_i ⟨_, rfl, hw⟩ hx hb hr hlocks rfl hP hD hS (Nat.le_of_ble_eq_true rfl) (Nat.le_of_ble_eq_true rfl) dL_joint_11
  · skip
    rcases hw with ⟨rfl, hw⟩ | ⟨rfl, hw⟩ | ⟨rfl, hw⟩ | ⟨rfl, hw⟩
    · skip
      refine vx_catch (own := RL) (name := "java/lang/IndexOutOfBoundsException") hown [] { startPc := 0, endPc := 11, handlerPc := 12, catchType := 28 } [{ startPc := 0, endPc := 11, handlerPc := 17, catchType := 20 }, { startPc := 0, endPc := 11, handlerPc := 22, catchType := 59 }, { startPc := 0, endPc := 11, handlerPc := 27, catchType := 22 }] (htab.trans rfl) (fun z hz => nomatch hz) rfl (by decide) (hG _ gw690) (va_Nw.use rfl (hGV.nw _ gw724)) h9 hv9 hc9 ?_
      refine W.eq (g2 := F0 m 12 ls [.ref x9]) rfl ?_
      refine W.widen (k := 3) (n := 18) (Nat.le_refl _) (Nat.le_refl _) ?_
      refine lv_astore (lv' := [(6, .ref x9), (0, .ref (ad 0)), (1, .int p1), (2, .int p2), (3, .int p3), (4, .int p4), (5, .int p5)]) hx hb dL_joint_12 hl (by decide) rfl (fun ls hl => ?_)
      refine lv_bipush (v := (-77)) hx hb dL_joint_14 (by decide) ?_
      exact m_i ⟨_, rfl, hw⟩ hx hb hr hlocks rfl hP hD hS (Nat.le_of_ble_eq_true rfl) (Nat.le_of_ble_eq_true rfl) dL_joint_16
    · skip
      refine vx_catch (own := RL) (name := "java/lang/IllegalArgumentException") hown [{ startPc := 0, endPc := 11, handlerPc := 12, catchType := 28 }] { startPc := 0, endPc := 11, handlerPc := 17, catchType := 20 } [{ startPc := 0, endPc := 11, handlerPc := 22, catchType := 59 }, { startPc := 0, endPc := 11, handlerPc := 27, catchType := 22 }] (htab.trans rfl) (fun z hz => by rcases List.mem_singleton.mp hz with rfl; exact Or.inr ⟨by decide, "java/lang/IndexOutOfBoundsException", hG _ gw690, hGV.nc ("java/lang/IllegalArgumentException", "java/lang/IndexOutOfBoundsException") (by decide)⟩) rfl (by decide) (hG _ gw499) (va_Nw.use rfl (hGV.nw _ gw597)) h9 hv9 hc9 ?_
      refine W.eq (g2 := F0 m 17 ls [.ref x9]) rfl ?_
      refine W.widen (k := 3) (n := 18) (Nat.le_refl _) (Nat.le_refl _) ?_
      refine lv_astore (lv' := [(6, .ref x9), (0, .ref (ad 0)), (1, .int p1), (2, .int p2), (3, .int p3), (4, .int p4), (5, .int p5)]) hx hb dL_joint_17 hl (by decide) rfl (fun ls hl => ?_)
      refine lv_bipush (v := (-78)) hx hb dL_joint_19 (by decide) ?_
      exact m_i ⟨_, rfl, hw⟩ hx hb hr hlocks rfl hP hD hS (Nat.le_of_ble_eq_true rfl) (Nat.le_of_ble_eq_true rfl) dL_joint_21
    · skip
      refine vx_catch (own := RL) (name := "java/lang/UnsupportedOperationException") hown [{ startPc := 0, endPc := 11, handlerPc := 12, catchType := 28 }, { startPc := 0, endPc := 11, handlerPc := 17, catchType := 20 }] { startPc := 0, endPc := 11, handlerPc := 22, catchType := 59 } [{ startPc := 0, endPc := 11, handlerPc := 27, catchType := 22 }] (htab.trans rfl) (fun z hz => by simp only [List.mem_cons, List.not_mem_nil, or_false] at hz; rcases hz with rfl | rfl <;> first | exact Or.inr ⟨by decide, "java/lang/IndexOutOfBoundsException", hG _ gw690, hGV.nc ("java/lang/UnsupportedOperationException", "java/lang/IndexOutOfBoundsException") (by decide)⟩ | exact Or.inr ⟨by decide, "java/lang/IllegalArgumentException", hG _ gw499, hGV.nc ("java/lang/UnsupportedOperationException", "java/lang/IllegalArgumentException") (by decide)⟩) rfl (by decide) (hG _ gw763) (va_Nw.use rfl (hGV.nw _ gw791)) h9 hv9 hc9 ?_
      refine W.eq (g2 := F0 m 22 ls [.ref x9]) rfl ?_
      refine W.widen (k := 3) (n := 18) (Nat.le_refl _) (Nat.le_refl _) ?_
      refine lv_astore (lv' := [(6, .ref x9), (0, .ref (ad 0)), (1, .int p1), (2, .int p2), (3, .int p3), (4, .int p4), (5, .int p5)]) hx hb dL_joint_22 hl (by decide) rfl (fun ls hl => ?_)
      refine lv_bipush (v := (-76)) hx hb dL_joint_24 (by decide) ?_
      exact m_i ⟨_, rfl, hw⟩ hx hb hr hlocks rfl hP hD hS (Nat.le_of_ble_eq_true rfl) (Nat.le_of_ble_eq_true rfl) dL_joint_26
    · skip
      refine vx_catch (own := RL) (name := "java/lang/IllegalStateException") hown [{ startPc := 0, endPc := 11, handlerPc := 12, catchType := 28 }, { startPc := 0, endPc := 11, handlerPc := 17, catchType := 20 }, { startPc := 0, endPc := 11, handlerPc := 22, catchType := 59 }] { startPc := 0, endPc := 11, handlerPc := 27, catchType := 22 } [] (htab.trans rfl) (fun z hz => by simp only [List.mem_cons, List.not_mem_nil, or_false] at hz; rcases hz with rfl | rfl | rfl <;> first | exact Or.inr ⟨by decide, "java/lang/IndexOutOfBoundsException", hG _ gw690, hGV.nc ("java/lang/IllegalStateException", "java/lang/IndexOutOfBoundsException") (by decide)⟩ | exact Or.inr ⟨by decide, "java/lang/IllegalArgumentException", hG _ gw499, hGV.nc ("java/lang/IllegalStateException", "java/lang/IllegalArgumentException") (by decide)⟩ | exact Or.inr ⟨by decide, "java/lang/UnsupportedOperationException", hG _ gw763, hGV.nc ("java/lang/IllegalStateException", "java/lang/UnsupportedOperationException") (by decide)⟩) rfl (by decide) (hG _ gw500) (va_Nw.use rfl (hGV.nw _ gw669)) h9 hv9 hc9 ?_
      refine W.eq (g2 := F0 m 27 ls [.ref x9]) rfl ?_
      refine W.widen (k := 3) (n := 18) (Nat.le_refl _) (Nat.le_refl _) ?_
      refine lv_astore (lv' := [(6, .ref x9), (0, .ref (ad 0)), (1, .int p1), (2, .int p2), (3, .int p3), (4, .int p4), (5, .int p5)]) hx hb dL_joint_27 hl (by decide) rfl (fun ls hl => ?_)
      refine lv_bipush (v := (-79)) hx hb dL_joint_29 (by decide) ?_
      exact m_i ⟨_, rfl, hw⟩ hx hb hr hlocks rfl hP hD hS (Nat.le_of_ble_eq_true rfl) (Nat.le_of_ble_eq_true rfl) dL_joint_31

set_option maxHeartbeats 4000000 in
set_option maxRecDepth 100000 in
theorem m_X6_checkJoint (l : Launch) (hfl : l.stackTraces = false) (D : va_G) (ad : Nat → Nat) (cA : Nat → ClassId) (g : gv_T) (p1 : Int32) (σ : Sg) (Q : Prop) (X : String → Sg → Prop) (hw : w_X6_checkJoint p1 σ Q X) : MC l yX6_checkJoint cX6_checkJoint 2 none (RM 6 1 6 82) D ad cA g [.ref (ad 0), .int p1] σ (fun v σ' => v = none ∧ σ' = σ ∧ Q) X := by
  refine MC.of (plainFor_of_name (by decide +kernel)) (Nat.le_of_ble_eq_true rfl) ?_
  intro p e s m args below meth c A ls hx hb hr hml hown hG hlocks htab hA hS hP hK hD hGV hl
  have hown : s.vm.findClass RX6 = some m.cls := hown
  have hl : lv_has ls 2 [(0, .ref (ad 0)), (1, .int p1)] := hl
  have hSF : CF p m c cX6_checkJoint 2 s args RX6 := ⟨hx, hb, hml, hown, hG⟩
  refine lv_iload_n hx hb dX6_checkJoint_0 rfl (lv_at hl 1 rfl) ?_
  refine lv_if_lt (tgt := 15) hx hb dX6_checkJoint_1 (by decide) (fun k1 => ?_) (fun k1 => ?_)
  · skip
    have hw := hw.1 k1
    exact m_throwW hw (names := ["java/lang/RuntimeException", "java/lang/Exception"]) 20 hx hb hfl hown hG hGV htab hlocks (hl.1.trans hml.symm) (by decide +kernel) (by decide +kernel) gw722 gw48 rfl xat_X6_232 hP hD hS dX6_checkJoint_15 dX6_checkJoint_18 dX6_checkJoint_19 dX6_checkJoint_22 dX6_checkJoint_25 (Nat.le_of_ble_eq_true rfl) (Nat.le_of_ble_eq_true rfl) (Nat.le_of_ble_eq_true rfl) (Nat.le_of_ble_eq_true rfl) (Nat.le_of_ble_eq_true rfl) (Nat.le_of_ble_eq_true rfl)
  · skip
    have hw := hw.2 k1
    refine lv_iload_n hx hb dX6_checkJoint_4 rfl (lv_at hl 1 rfl) ?_
    refine lv_aload_n hx hb dX6_checkJoint_5 rfl (lv_at hl 0 rfl) ?_
    refine k_get (ci := 8) (C := RX6) (T := TX6) (N := 5) (v := .ref (ad 32)) hx hb hG inX6 hown hK hP 0 wl_0 rfl 2 (by decide) gw307 rfl dX6_checkJoint_6 ?_
    refine k_get (ci := 5) (C := RX3) (T := TX3) (N := 6) (v := .int (gI σ 4)) hx hb hG inX3 hown hK hP 32 wl_32 rfl 0 (by decide) gw202 rfl dX6_checkJoint_9 ?_
    refine lv_icmp_lt (tgt := 26) hx hb dX6_checkJoint_12 (by decide) (fun k2 => ?_) (fun k2 => ?_)
    · skip
      have hw := hw.1 k2
      exact vx_ret (m_v ⟨rfl, rfl, hw⟩ hx hb hr hlocks hP hD hS (Nat.le_of_ble_eq_true rfl) (Nat.le_of_ble_eq_true rfl) dX6_checkJoint_26)
    · skip
      have hw := hw.2 k2
      exact m_throwW hw (names := ["java/lang/RuntimeException", "java/lang/Exception"]) 20 hx hb hfl hown hG hGV htab hlocks (hl.1.trans hml.symm) (by decide +kernel) (by decide +kernel) gw722 gw48 rfl xat_X6_232 hP hD hS dX6_checkJoint_15 dX6_checkJoint_18 dX6_checkJoint_19 dX6_checkJoint_22 dX6_checkJoint_25 (Nat.le_of_ble_eq_true rfl) (Nat.le_of_ble_eq_true rfl) (Nat.le_of_ble_eq_true rfl) (Nat.le_of_ble_eq_true rfl) (Nat.le_of_ble_eq_true rfl) (Nat.le_of_ble_eq_true rfl)

set_option maxHeartbeats 4000000 in
set_option maxRecDepth 100000 in
theorem m_X3_isThinEnough (l : Launch) (hfl : l.stackTraces = false) (D : va_G) (ad : Nat → Nat) (cA : Nat → ClassId) (g : gv_T) (p1 : Int32) (σ : Sg) (Q : Int32 → Prop) (hw : w_X3_isThinEnough p1 σ Q) : MC l yX3_isThinEnough cX3_isThinEnough 5 (some .boolean) (RM 1 0 0 16) D ad cA g [.ref (ad 32), .int p1, .ref (ad 1)] σ (fun v σ' => ∃ r : Int32, v = some (.int r) ∧ σ' = σ ∧ Q r) (fun _ _ => False) := by
  refine MC.of (plainFor_of_name (by decide +kernel)) (Nat.le_of_ble_eq_true rfl) ?_
  intro p e s m args below meth c A ls hx hb hr hml hown hG hlocks htab hA hS hP hK hD hGV hl
  have hown : s.vm.findClass RX3 = some m.cls := hown
  have hl : lv_has ls 5 [(0, .ref (ad 32)), (1, .int p1), (2, .ref (ad 1))] := hl
  have hSF : CF p m c cX3_isThinEnough 5 s args RX3 := ⟨hx, hb, hml, hown, hG⟩
  refine lv_aload_n hx hb dX3_isThinEnough_0 rfl (lv_at hl 2 rfl) ?_
  refine k_get (ci := 4) (C := RX2) (T := TX2) (N := 12) (v := .ref (ad 8)) hx hb hG inX2 hown hK hP 1 wl_1 rfl 8 (by decide) gw86 rfl dX3_isThinEnough_1 ?_
  refine lv_aload_n hx hb dX3_isThinEnough_4 rfl (lv_at hl 0 rfl) ?_
  refine k_get (ci := 5) (C := RX3) (T := TX3) (N := 6) (v := .ref (ad 33)) hx hb hG inX3 hown hK hP 32 wl_32 rfl 1 (by decide) gw203 rfl dX3_isThinEnough_5 ?_
  refine lv_iload_n hx hb dX3_isThinEnough_8 rfl (lv_at hl 1 rfl) ?_
  obtain ⟨hc1, hw⟩ := hw
  refine k_iald (v := gA σ 13 (ix p1)) hx hb hK hP 33 wl_33 (ix p1) rfl rfl hc1 dX3_isThinEnough_9 ?_
  obtain ⟨hc2, hw⟩ := hw
  refine k_iald (v := gA σ 6 (ix (gA σ 13 (ix p1)))) hx hb hK hP 8 wl_8 (ix (gA σ 13 (ix p1))) rfl rfl hc2 dX3_isThinEnough_10 ?_
  obtain ⟨v3, ev3⟩ : ∃ z : Int32, z = gA σ 6 (ix (gA σ 13 (ix p1))) := ⟨_, rfl⟩
  have hw := hw v3 ev3
  refine lv_istore_n (lv' := [(3, .int v3), (0, .ref (ad 32)), (1, .int p1), (2, .ref (ad 1))]) hx hb dX3_isThinEnough_11 rfl hl (by decide) (by subst ev3; rfl) (fun ls hl => ?_)
  refine lv_aload_n hx hb dX3_isThinEnough_12 rfl (lv_at hl 3 rfl) ?_
  refine k_get (ci := 4) (C := RX2) (T := TX2) (N := 12) (v := .ref (ad 8)) hx hb hG inX2 hown hK hP 1 wl_1 rfl 8 (by decide) gw86 rfl dX3_isThinEnough_13 ?_
  refine lv_aload_n hx hb dX3_isThinEnough_16 rfl (lv_at hl 1 rfl) ?_
  refine k_get (ci := 5) (C := RX3) (T := TX3) (N := 6) (v := .ref (ad 34)) hx hb hG inX3 hown hK hP 32 wl_32 rfl 2 (by decide) gw204 rfl dX3_isThinEnough_17 ?_
  refine lv_iload_n hx hb dX3_isThinEnough_20 rfl (lv_at hl 2 rfl) ?_
  obtain ⟨hc4, hw⟩ := hw
  refine k_iald (v := gA σ 14 (ix p1)) hx hb hK hP 34 wl_34 (ix p1) rfl rfl hc4 dX3_isThinEnough_21 ?_
  obtain ⟨hc5, hw⟩ := hw
  refine k_iald (v := gA σ 6 (ix (gA σ 14 (ix p1)))) hx hb hK hP 8 wl_8 (ix (gA σ 14 (ix p1))) rfl rfl hc5 dX3_isThinEnough_22 ?_
  obtain ⟨v6, ev6⟩ : ∃ z : Int32, z = gA σ 6 (ix (gA σ 14 (ix p1))) := ⟨_, rfl⟩
  have hw := hw v6 ev6
  refine lv_istore (lv' := [(4, .int v6), (3, .int v3), (0, .ref (ad 32)), (1, .int p1), (2, .ref (ad 1))]) hx hb dX3_isThinEnough_23 hl (by decide) (by subst ev6; rfl) (fun ls hl => ?_)
  refine lv_aload_n hx hb dX3_isThinEnough_25 rfl (lv_at hl 2 rfl) ?_
  refine k_get (ci := 5) (C := RX3) (T := TX3) (N := 6) (v := .ref (ad 36)) hx hb hG inX3 hown hK hP 32 wl_32 rfl 4 (by decide) gw206 rfl dX3_isThinEnough_26 ?_
  refine lv_iload_n hx hb dX3_isThinEnough_29 rfl (lv_at hl 3 rfl) ?_
  obtain ⟨hc7, hw⟩ := hw
  refine k_iald (v := gA σ 16 (ix p1)) hx hb hK hP 36 wl_36 (ix p1) rfl rfl hc7 dX3_isThinEnough_30 ?_
  refine lv_iload_n hx hb dX3_isThinEnough_31 rfl (lv_at hl 1 rfl) ?_
  refine lv_iload hx hb dX3_isThinEnough_32 (lv_at hl 0 rfl) ?_
  refine k_mmin (v := mmin v3 v6) hx hb (hml.trans hl.1.symm) hown (hG _ gw984) (hG _ gw541) (hG _ gw41) (hG _ gw542) (Nat.le_of_ble_eq_true rfl) (Nat.le_of_ble_eq_true rfl) (Nat.le_of_ble_eq_true rfl) (Nat.le_of_ble_eq_true rfl) dX3_isThinEnough_34 rfl ?_
  refine lv_iconst (v := 3) hx hb dX3_isThinEnough_37 (by decide) ?_
  refine k_idiv (v := (mmin v3 v6) / 3) hx hb dX3_isThinEnough_38 (by decide +kernel) rfl ?_
  refine lv_icmp_gt (tgt := 46) hx hb dX3_isThinEnough_39 (by decide) (fun k8 => ?_) (fun k8 => ?_)
  · skip
    have hw := hw.1 k8
    refine lv_iconst (v := 0) hx hb dX3_isThinEnough_46 (by decide) ?_
    exact vx_ret (m_i ⟨_, rfl, rfl, hw⟩ hx hb hr hlocks rfl hP hD hS (Nat.le_of_ble_eq_true rfl) (Nat.le_of_ble_eq_true rfl) dX3_isThinEnough_47)
  · skip
    have hw := hw.2 k8
    refine lv_iconst (v := 1) hx hb dX3_isThinEnough_42 (by decide) ?_
    refine lv_goto (tgt := 47) hx hb dX3_isThinEnough_43 (by decide) ?_
    exact vx_ret (m_i ⟨_, rfl, rfl, hw⟩ hx hb hr hlocks rfl hP hD hS (Nat.le_of_ble_eq_true rfl) (Nat.le_of_ble_eq_true rfl) dX3_isThinEnough_47)

set_option maxHeartbeats 4000000 in
set_option maxRecDepth 100000 in
theorem m_X6_isRight (l : Launch) (hfl : l.stackTraces = false) (D : va_G) (ad : Nat → Nat) (cA : Nat → ClassId) (g : gv_T) (p1 : Int32) (σ : Sg) (Q : Int32 → Prop) (X : String → Sg → Prop) (hw : w_X6_isRight p1 σ Q X) : MC l yX6_isRight cX6_isRight 2 (some .boolean) (RM 7 1 6 103) D ad cA g [.ref (ad 0), .int p1] σ (fun v σ' => ∃ r : Int32, v = some (.int r) ∧ σ' = σ ∧ Q r) X := by
  refine MC.of (plainFor_of_name (by decide +kernel)) (Nat.le_of_ble_eq_true rfl) ?_
  intro p e s m args below meth c A ls hx hb hr hml hown hG hlocks htab hA hS hP hK hD hGV hl
  have hown : s.vm.findClass RX6 = some m.cls := hown
  have hl : lv_has ls 2 [(0, .ref (ad 0)), (1, .int p1)] := hl
  have hSF : CF p m c cX6_isRight 2 s args RX6 := ⟨hx, hb, hml, hown, hG⟩
  refine lv_aload_n hx hb dX6_isRight_0 rfl (lv_at hl 0 rfl) ?_
  refine lv_iload_n hx hb dX6_isRight_1 rfl (lv_at hl 1 rfl) ?_
  refine mc_V hSF hl.1 hP hD hS hA hK hGV (m_X6_checkJoint l hfl D ad cA g p1 σ _ _ hw) goV_X6_179 pd_X6_checkJoint ⟨(Nat.le_of_ble_eq_true rfl), (Nat.le_of_ble_eq_true rfl)⟩ ⟨(Nat.le_of_ble_eq_true rfl), (Nat.le_of_ble_eq_true rfl)⟩ (va_recv hK hP (ci := 8) (q0 := 0) rfl wl_0) dX6_isRight_2 rfl (Nat.le_of_ble_eq_true rfl) (fun v9 σ9 H locs hq hP hD hS => ?_) (fun E9 σ9 H locs x9 ce9 hw hP hD hS h9 hv9 hc9 => ?_)
  · skip
    obtain ⟨hv9, hs9, hw⟩ := hq
    subst hv9
    subst σ9
    refine W.eq (g2 := F0 m 5 ls []) rfl ?_
    refine W.widen (k := 1) (n := 6) (Nat.le_refl _) (Nat.le_refl _) ?_
    refine lv_aload_n hx hb dX6_isRight_5 rfl (lv_at hl 0 rfl) ?_
    refine k_get (ci := 8) (C := RX6) (T := TX6) (N := 5) (v := .ref (ad 32)) hx hb hG inX6 hown hK hP 0 wl_0 rfl 2 (by decide) gw307 rfl dX6_isRight_6 ?_
    refine lv_iload_n hx hb dX6_isRight_9 rfl (lv_at hl 1 rfl) ?_
    refine lv_aload_n hx hb dX6_isRight_10 rfl (lv_at hl 0 rfl) ?_
    refine k_get (ci := 8) (C := RX6) (T := TX6) (N := 5) (v := .ref (ad 1)) hx hb hG inX6 hown hK hP 0 wl_0 rfl 0 (by decide) gw305 rfl dX6_isRight_11 ?_
    refine mc_V hSF hl.1 hP hD hS hA hK hGV (m_X3_isThinEnough l hfl D ad cA g p1 σ _ hw) goV_X6_182 pd_X3_isThinEnough ⟨(Nat.le_of_ble_eq_true rfl), (Nat.le_of_ble_eq_true rfl)⟩ ⟨(Nat.le_of_ble_eq_true rfl), (Nat.le_of_ble_eq_true rfl)⟩ (va_recv hK hP (ci := 5) (q0 := 32) rfl wl_32) dX6_isRight_14 rfl (Nat.le_of_ble_eq_true rfl) (fun v9 σ9 H locs hq hP hD hS => ?_) (fun _ _ _ _ _ _ h => h.elim)
    obtain ⟨r2, hv9, hs9, hw⟩ := hq
    subst hv9
    subst σ9
    refine W.eq (g2 := F0 m 17 ls [.int r2]) rfl ?_
    refine W.widen (k := 1) (n := 6) (Nat.le_refl _) (Nat.le_refl _) ?_
    obtain ⟨hc3, hw⟩ := hw
    exact vx_ret (m_i ⟨_, rfl, rfl, hw⟩ hx hb hr hlocks hc3 hP hD hS (Nat.le_of_ble_eq_true rfl) (Nat.le_of_ble_eq_true rfl) dX6_isRight_17)
  · skip
    exact m_out hw htab hlocks h9 hv9 hc9 hP hD hS (Nat.le_of_ble_eq_true rfl) (Nat.le_of_ble_eq_true rfl)

set_option maxHeartbeats 4000000 in
set_option maxRecDepth 100000 in
theorem m_L_isRight (l : Launch) (hfl : l.stackTraces = false) (D : va_G) (ad : Nat → Nat) (cA : Nat → ClassId) (g : gv_T) (p1 : Int32) (σ : Sg) (Q : Int32 → Prop) (hw : w_L_isRight p1 σ Q) : MW l yL_isRight cL_isRight 3 (some .int) [(0, 13, 14, 28)] (RM 8 1 6 124) D ad cA g [.ref (ad 0), .int p1] σ (fun v σ' => ∃ r : Int32, v = some (.int r) ∧ σ' = σ ∧ Q r) := by
  refine MW.of (by decide +kernel) (Nat.le_of_ble_eq_true rfl) ?_
  intro p e s m args below meth c A ls hx hb hr hml hown hG hlocks htab hA hS hP hK hD hGV hl
  have hown : s.vm.findClass RL = some m.cls := hown
  have hl : lv_has ls 3 [(0, .ref (ad 0)), (1, .int p1)] := hl
  have hSF : CF p m c cL_isRight 3 s args RL := ⟨hx, hb, hml, hown, hG⟩
  refine lv_aload_n hx hb dL_isRight_0 rfl (lv_at hl 0 rfl) ?_
  refine lv_iload_n hx hb dL_isRight_1 rfl (lv_at hl 1 rfl) ?_
  refine mc_V hSF hl.1 hP hD hS hA hK hGV (m_X6_isRight l hfl D ad cA g p1 σ _ _ hw) goV_L_61 pd_X6_isRight ⟨(Nat.le_of_ble_eq_true rfl), (Nat.le_of_ble_eq_true rfl)⟩ ⟨(Nat.le_of_ble_eq_true rfl), (Nat.le_of_ble_eq_true rfl)⟩ (va_recv hK hP (ci := 8) (q0 := 0) rfl wl_0) dL_isRight_2 rfl (Nat.le_of_ble_eq_true rfl) (fun v9 σ9 H locs hq hP hD hS => ?_) (fun E9 σ3 H locs x9 ce9 hw hP hD hS h9 hv9 hc9 => ?_)
  · skip
    obtain ⟨r1, hv9, hs9, hw⟩ := hq
    subst hv9
    subst σ9
    refine W.eq (g2 := F0 m 5 ls [.int r1]) rfl ?_
    refine W.widen (k := 1) (n := 6) (Nat.le_refl _) (Nat.le_refl _) ?_
    refine lv_if_eq (tgt := 12) hx hb dL_isRight_5 (by decide) (fun k2 => ?_) (fun k2 => ?_)
    · skip
      have hw := hw.1 k2
      refine lv_iconst (v := 0) hx hb dL_isRight_12 (by decide) ?_
      exact m_i ⟨_, rfl, rfl, hw⟩ hx hb hr hlocks rfl hP hD hS (Nat.le_of_ble_eq_true rfl) (Nat.le_of_ble_eq_true rfl) dL_isRight_13
    · skip
      have hw := hw.2 k2
      refine lv_iconst (v := 1) hx hb dL_isRight_8 (by decide) ?_
      refine lv_goto (tgt := 13) hx hb dL_isRight_9 (by decide) ?_
      exact m_i ⟨_, rfl, rfl, hw⟩ hx hb hr hlocks rfl hP hD hS (Nat.le_of_ble_eq_true rfl) (Nat.le_of_ble_eq_true rfl) dL_isRight_13
  · skip
    obtain ⟨rfl, hs9, hw⟩ := hw
    subst hs9
    refine vx_catch (own := RL) (name := "java/lang/IndexOutOfBoundsException") hown [] { startPc := 0, endPc := 13, handlerPc := 14, catchType := 28 } [] (htab.trans rfl) (fun z hz => nomatch hz) rfl (by decide) (hG _ gw690) (va_Nw.use rfl (hGV.nw _ gw724)) h9 hv9 hc9 ?_
    refine W.eq (g2 := F0 m 14 ls [.ref x9]) rfl ?_
    refine W.widen (k := 1) (n := 6) (Nat.le_refl _) (Nat.le_refl _) ?_
    refine lv_astore_n (lv' := [(2, .ref x9), (0, .ref (ad 0)), (1, .int p1)]) hx hb dL_isRight_14 rfl hl (by decide) rfl (fun ls hl => ?_)
    refine lv_bipush (v := (-77)) hx hb dL_isRight_15 (by decide) ?_
    exact m_i ⟨_, rfl, rfl, hw⟩ hx hb hr hlocks rfl hP hD hS (Nat.le_of_ble_eq_true rfl) (Nat.le_of_ble_eq_true rfl) dL_isRight_17

set_option maxHeartbeats 4000000 in
set_option maxRecDepth 100000 in
theorem m_X3_misreadMark (l : Launch) (hfl : l.stackTraces = false) (D : va_G) (ad : Nat → Nat) (cA : Nat → ClassId) (g : gv_T) (p1 : Int32) (σ : Sg) (Q : Int32 → Prop) (hw : w_X3_misreadMark p1 σ Q) : MC l yX3_misreadMark cX3_misreadMark 4 (some .int) (RM 0 0 0 0) D ad cA g [.ref (ad 32), .int p1] σ (fun v σ' => ∃ r : Int32, v = some (.int r) ∧ σ' = σ ∧ Q r) (fun _ _ => False) := by
  refine MC.of (plainFor_of_name (by decide +kernel)) (Nat.le_of_ble_eq_true rfl) ?_
  intro p e s m args below meth c A ls hx hb hr hml hown hG hlocks htab hA hS hP hK hD hGV hl
  have hown : s.vm.findClass RX3 = some m.cls := hown
  have hl : lv_has ls 4 [(0, .ref (ad 32)), (1, .int p1)] := hl
  have hSF : CF p m c cX3_misreadMark 4 s args RX3 := ⟨hx, hb, hml, hown, hG⟩
  refine lv_iconst (v := 0) hx hb dX3_misreadMark_0 (by decide) ?_
  refine lv_istore_n (lv' := [(2, .int 0), (0, .ref (ad 32)), (1, .int p1)]) hx hb dX3_misreadMark_1 rfl hl (by decide) rfl (fun ls hl => ?_)
  refine lv_iconst (v := 0) hx hb dX3_misreadMark_2 (by decide) ?_
  refine lv_istore_n (lv' := [(3, .int 0), (2, .int 0), (0, .ref (ad 32)), (1, .int p1)]) hx hb dX3_misreadMark_3 rfl hl (by decide) rfl (fun ls hl => ?_)
  obtain ⟨I1, μ1, hI1, hw1⟩ := hw
  have hl : lv_has ls 4 [(0, .ref (ad 32)), (1, .int p1), (2, .int 0), (3, .int 0)] := lv_sub hl [2, 3, 1, 0] rfl
  suffices key1 : ∀ (n1 : Nat) (i2_1 : Int32) (i3_1 : Int32), μ1 i2_1 i3_1 < n1 → I1 i2_1 i3_1 → ∀ (H : Heap) (locs : List Loc) (ls : Array Slot), va_P D vwCl (WL ad cA σ) H → va_D A (WL ad cA σ) → va_S A s.heap H locs → lv_has ls 4 [(0, .ref (ad 32)), (1, .int p1), (2, .int i2_1), (3, .int i3_1)] → W p l e (RM 0 0 0 0) s m args below meth c H locs (0) (0) (vx_MQ below (QM D ad cA A (fun v σ' => ∃ r : Int32, v = some (.int r) ∧ σ' = σ ∧ Q r)) (XM D ad cA A (fun _ _ => False)) args s (RM 0 0 0 0).cells (RM 0 0 0 0).slots A) (F0 m 4 ls []) from key1 _ _ _ (Nat.lt_succ_self _) hI1 _ _ ls hP hD hS hl
  clear hP hD hS hl
  intro n1
  induction n1 with
  | zero => intro _ _ h; exact absurd h (Nat.not_lt_zero _)
  | succ n1 ih1 =>
    intro i2_1 i3_1 hm1 hI1 H locs ls hP hD hS hl
    have hw := hw1 i2_1 i3_1 hI1
    refine lv_iload_n hx hb dX3_misreadMark_4 rfl (lv_at hl 3 rfl) ?_
    refine lv_iconst (v := 5) hx hb dX3_misreadMark_5 (by decide) ?_
    refine lv_icmp_ge (tgt := 30) hx hb dX3_misreadMark_6 (by decide) (fun k2 => ?_) (fun k2 => ?_)
    · skip
      have hw := hw.1 k2
      refine lv_iload_n hx hb dX3_misreadMark_30 rfl (lv_at hl 2 rfl) ?_
      exact vx_ret (m_i ⟨_, rfl, rfl, hw⟩ hx hb hr hlocks rfl hP hD hS (Nat.le_of_ble_eq_true rfl) (Nat.le_of_ble_eq_true rfl) dX3_misreadMark_31)
    · skip
      have hw := hw.2 k2
      refine lv_iload_n hx hb dX3_misreadMark_9 rfl (lv_at hl 2 rfl) ?_
      refine lv_iconst (v := 1) hx hb dX3_misreadMark_10 (by decide) ?_
      refine k_ishl (v := iShl i2_1 1) hx hb dX3_misreadMark_11 rfl ?_
      refine lv_aload_n hx hb dX3_misreadMark_12 rfl (lv_at hl 0 rfl) ?_
      refine k_get (ci := 5) (C := RX3) (T := TX3) (N := 6) (v := .ref (ad 37)) hx hb hG inX3 hown hK hP 32 wl_32 rfl 5 (by decide) gw207 rfl dX3_misreadMark_13 ?_
      refine lv_iload_n hx hb dX3_misreadMark_16 rfl (lv_at hl 1 rfl) ?_
      obtain ⟨hc3, hw⟩ := hw
      refine k_iald (v := gA σ 17 (ix p1)) hx hb hK hP 37 wl_37 (ix p1) rfl rfl hc3 dX3_misreadMark_17 ?_
      refine lv_iload_n hx hb dX3_misreadMark_18 rfl (lv_at hl 3 rfl) ?_
      refine k_ishr (v := iShr (gA σ 17 (ix p1)) i3_1) hx hb dX3_misreadMark_19 rfl ?_
      refine lv_iconst (v := 1) hx hb dX3_misreadMark_20 (by decide) ?_
      refine k_iand (v := (iShr (gA σ 17 (ix p1)) i3_1) &&& 1) hx hb dX3_misreadMark_21 rfl ?_
      refine k_ior (v := (iShl i2_1 1) ||| ((iShr (gA σ 17 (ix p1)) i3_1) &&& 1)) hx hb dX3_misreadMark_22 rfl ?_
      obtain ⟨v4, ev4⟩ : ∃ z : Int32, z = (iShl i2_1 1) ||| ((iShr (gA σ 17 (ix p1)) i3_1) &&& 1) := ⟨_, rfl⟩
      have hw := hw v4 ev4
      refine lv_istore_n (lv' := [(2, .int v4), (0, .ref (ad 32)), (1, .int p1), (3, .int i3_1)]) hx hb dX3_misreadMark_23 rfl hl (by decide) (by subst ev4; rfl) (fun ls hl => ?_)
      refine lv_iinc (v := i3_1 + 1) (lv' := [(3, .int (i3_1 + 1)), (2, .int v4), (0, .ref (ad 32)), (1, .int p1)]) hx hb dX3_misreadMark_24 hl (k := 3) rfl rfl (by decide) rfl (fun ls hl => ?_)
      refine lv_goto (tgt := 4) hx hb dX3_misreadMark_27 (by decide) ?_
      exact ih1 v4 (i3_1 + 1) (Nat.lt_of_lt_of_le hw.2 (Nat.le_of_lt_succ hm1)) hw.1 _ _ ls hP hD hS (lv_sub hl [2, 3, 1, 0] rfl)

set_option maxHeartbeats 4000000 in
set_option maxRecDepth 100000 in
theorem m_X6_misread (l : Launch) (hfl : l.stackTraces = false) (D : va_G) (ad : Nat → Nat) (cA : Nat → ClassId) (g : gv_T) (p1 : Int32) (σ : Sg) (Q : Int32 → Prop) (X : String → Sg → Prop) (hw : w_X6_misread p1 σ Q X) : MC l yX6_misread cX6_misread 2 (some .int) (RM 7 1 6 103) D ad cA g [.ref (ad 0), .int p1] σ (fun v σ' => ∃ r : Int32, v = some (.int r) ∧ σ' = σ ∧ Q r) X := by
  refine MC.of (plainFor_of_name (by decide +kernel)) (Nat.le_of_ble_eq_true rfl) ?_
  intro p e s m args below meth c A ls hx hb hr hml hown hG hlocks htab hA hS hP hK hD hGV hl
  have hown : s.vm.findClass RX6 = some m.cls := hown
  have hl : lv_has ls 2 [(0, .ref (ad 0)), (1, .int p1)] := hl
  have hSF : CF p m c cX6_misread 2 s args RX6 := ⟨hx, hb, hml, hown, hG⟩
  refine lv_aload_n hx hb dX6_misread_0 rfl (lv_at hl 0 rfl) ?_
  refine lv_iload_n hx hb dX6_misread_1 rfl (lv_at hl 1 rfl) ?_
  refine mc_V hSF hl.1 hP hD hS hA hK hGV (m_X6_checkJoint l hfl D ad cA g p1 σ _ _ hw) goV_X6_179 pd_X6_checkJoint ⟨(Nat.le_of_ble_eq_true rfl), (Nat.le_of_ble_eq_true rfl)⟩ ⟨(Nat.le_of_ble_eq_true rfl), (Nat.le_of_ble_eq_true rfl)⟩ (va_recv hK hP (ci := 8) (q0 := 0) rfl wl_0) dX6_misread_2 rfl (Nat.le_of_ble_eq_true rfl) (fun v9 σ9 H locs hq hP hD hS => ?_) (fun E9 σ9 H locs x9 ce9 hw hP hD hS h9 hv9 hc9 => ?_)
  · skip
    obtain ⟨hv9, hs9, hw⟩ := hq
    subst hv9
    subst σ9
    refine W.eq (g2 := F0 m 5 ls []) rfl ?_
    refine W.widen (k := 1) (n := 6) (Nat.le_refl _) (Nat.le_refl _) ?_
    refine lv_aload_n hx hb dX6_misread_5 rfl (lv_at hl 0 rfl) ?_
    refine k_get (ci := 8) (C := RX6) (T := TX6) (N := 5) (v := .ref (ad 32)) hx hb hG inX6 hown hK hP 0 wl_0 rfl 2 (by decide) gw307 rfl dX6_misread_6 ?_
    refine lv_iload_n hx hb dX6_misread_9 rfl (lv_at hl 1 rfl) ?_
    refine mc_V hSF hl.1 hP hD hS hA hK hGV (m_X3_misreadMark l hfl D ad cA g p1 σ _ hw) goV_X6_186 pd_X3_misreadMark ⟨(Nat.le_of_ble_eq_true rfl), (Nat.le_of_ble_eq_true rfl)⟩ ⟨(Nat.le_of_ble_eq_true rfl), (Nat.le_of_ble_eq_true rfl)⟩ (va_recv hK hP (ci := 5) (q0 := 32) rfl wl_32) dX6_misread_10 rfl (Nat.le_of_ble_eq_true rfl) (fun v9 σ9 H locs hq hP hD hS => ?_) (fun _ _ _ _ _ _ h => h.elim)
    obtain ⟨r2, hv9, hs9, hw⟩ := hq
    subst hv9
    subst σ9
    refine W.eq (g2 := F0 m 13 ls [.int r2]) rfl ?_
    refine W.widen (k := 1) (n := 6) (Nat.le_refl _) (Nat.le_refl _) ?_
    exact vx_ret (m_i ⟨_, rfl, rfl, hw⟩ hx hb hr hlocks rfl hP hD hS (Nat.le_of_ble_eq_true rfl) (Nat.le_of_ble_eq_true rfl) dX6_misread_13)
  · skip
    exact m_out hw htab hlocks h9 hv9 hc9 hP hD hS (Nat.le_of_ble_eq_true rfl) (Nat.le_of_ble_eq_true rfl)

set_option maxHeartbeats 4000000 in
set_option maxRecDepth 100000 in
theorem m_L_misread (l : Launch) (hfl : l.stackTraces = false) (D : va_G) (ad : Nat → Nat) (cA : Nat → ClassId) (g : gv_T) (p1 : Int32) (σ : Sg) (Q : Int32 → Prop) (hw : w_L_misread p1 σ Q) : MW l yL_misread cL_misread 3 (some .int) [(0, 5, 6, 28)] (RM 8 1 6 124) D ad cA g [.ref (ad 0), .int p1] σ (fun v σ' => ∃ r : Int32, v = some (.int r) ∧ σ' = σ ∧ Q r) := by
  refine MW.of (by decide +kernel) (Nat.le_of_ble_eq_true rfl) ?_
  intro p e s m args below meth c A ls hx hb hr hml hown hG hlocks htab hA hS hP hK hD hGV hl
  have hown : s.vm.findClass RL = some m.cls := hown
  have hl : lv_has ls 3 [(0, .ref (ad 0)), (1, .int p1)] := hl
  have hSF : CF p m c cL_misread 3 s args RL := ⟨hx, hb, hml, hown, hG⟩
  refine lv_aload_n hx hb dL_misread_0 rfl (lv_at hl 0 rfl) ?_
  refine lv_iload_n hx hb dL_misread_1 rfl (lv_at hl 1 rfl) ?_
  refine mc_V hSF hl.1 hP hD hS hA hK hGV (m_X6_misread l hfl D ad cA g p1 σ _ _ hw) goV_L_64 pd_X6_misread ⟨(Nat.le_of_ble_eq_true rfl), (Nat.le_of_ble_eq_true rfl)⟩ ⟨(Nat.le_of_ble_eq_true rfl), (Nat.le_of_ble_eq_true rfl)⟩ (va_recv hK hP (ci := 8) (q0 := 0) rfl wl_0) dL_misread_2 rfl (Nat.le_of_ble_eq_true rfl) (fun v9 σ9 H locs hq hP hD hS => ?_) (fun E9 σ2 H locs x9 ce9 hw hP hD hS h9 hv9 hc9 => ?_)
  · skip
    obtain ⟨r1, hv9, hs9, hw⟩ := hq
    subst hv9
    subst σ9
    refine W.eq (g2 := F0 m 5 ls [.int r1]) rfl ?_
    refine W.widen (k := 1) (n := 6) (Nat.le_refl _) (Nat.le_refl _) ?_
    exact m_i ⟨_, rfl, rfl, hw⟩ hx hb hr hlocks rfl hP hD hS (Nat.le_of_ble_eq_true rfl) (Nat.le_of_ble_eq_true rfl) dL_misread_5
  · skip
    obtain ⟨rfl, hs9, hw⟩ := hw
    subst hs9
    refine vx_catch (own := RL) (name := "java/lang/IndexOutOfBoundsException") hown [] { startPc := 0, endPc := 5, handlerPc := 6, catchType := 28 } [] (htab.trans rfl) (fun z hz => nomatch hz) rfl (by decide) (hG _ gw690) (va_Nw.use rfl (hGV.nw _ gw724)) h9 hv9 hc9 ?_
    refine W.eq (g2 := F0 m 6 ls [.ref x9]) rfl ?_
    refine W.widen (k := 1) (n := 6) (Nat.le_refl _) (Nat.le_refl _) ?_
    refine lv_astore_n (lv' := [(2, .ref x9), (0, .ref (ad 0)), (1, .int p1)]) hx hb dL_misread_6 rfl hl (by decide) rfl (fun ls hl => ?_)
    refine lv_bipush (v := (-77)) hx hb dL_misread_7 (by decide) ?_
    exact m_i ⟨_, rfl, rfl, hw⟩ hx hb hr hlocks rfl hP hD hS (Nat.le_of_ble_eq_true rfl) (Nat.le_of_ble_eq_true rfl) dL_misread_9

set_option maxHeartbeats 4000000 in
set_option maxRecDepth 100000 in
theorem m_X6_checkMoisture (l : Launch) (hfl : l.stackTraces = false) (D : va_G) (ad : Nat → Nat) (cA : Nat → ClassId) (g : gv_T) (p1 : Int32) (σ : Sg) (Q : Prop) (X : String → Sg → Prop) (hw : w_X6_checkMoisture p1 σ Q X) : MC l yX6_checkMoisture cX6_checkMoisture 2 none (RM 6 1 6 82) D ad cA g [.ref (ad 0), .int p1] σ (fun v σ' => v = none ∧ σ' = σ ∧ Q) X := by
  refine MC.of (plainFor_of_name (by decide +kernel)) (Nat.le_of_ble_eq_true rfl) ?_
  intro p e s m args below meth c A ls hx hb hr hml hown hG hlocks htab hA hS hP hK hD hGV hl
  have hown : s.vm.findClass RX6 = some m.cls := hown
  have hl : lv_has ls 2 [(0, .ref (ad 0)), (1, .int p1)] := hl
  have hSF : CF p m c cX6_checkMoisture 2 s args RX6 := ⟨hx, hb, hml, hown, hG⟩
  refine lv_iload_n hx hb dX6_checkMoisture_0 rfl (lv_at hl 1 rfl) ?_
  refine lv_bipush (v := 10) hx hb dX6_checkMoisture_1 (by decide) ?_
  refine lv_bipush (v := 60) hx hb dX6_checkMoisture_3 (by decide) ?_
  refine mc_S hSF hl.1 hP hD hS hA hK hGV (m_X6_isWithin l hfl D ad cA g p1 10 60 σ _ hw) goS_X6_44 pd_X6_isWithin.2 ⟨(Nat.le_of_ble_eq_true rfl), (Nat.le_of_ble_eq_true rfl)⟩ ⟨(Nat.le_of_ble_eq_true rfl), (Nat.le_of_ble_eq_true rfl)⟩ dX6_checkMoisture_5 rfl (Nat.le_of_ble_eq_true rfl) (fun v9 σ9 H locs hq hP hD hS => ?_) (fun _ _ _ _ _ _ h => h.elim)
  obtain ⟨r1, hv9, hs9, hw⟩ := hq
  subst hv9
  subst σ9
  refine W.eq (g2 := F0 m 8 ls [.int r1]) rfl ?_
  refine W.widen (k := 0) (n := 0) (Nat.le_refl _) (Nat.le_refl _) ?_
  refine lv_if_ne (tgt := 22) hx hb dX6_checkMoisture_8 (by decide) (fun k2 => ?_) (fun k2 => ?_)
  · skip
    have hw := hw.1 k2
    exact vx_ret (m_v ⟨rfl, rfl, hw⟩ hx hb hr hlocks hP hD hS (Nat.le_of_ble_eq_true rfl) (Nat.le_of_ble_eq_true rfl) dX6_checkMoisture_22)
  · skip
    have hw := hw.2 k2
    exact m_throwW hw (names := ["java/lang/RuntimeException", "java/lang/Exception"]) 12 hx hb hfl hown hG hGV htab hlocks (hl.1.trans hml.symm) (by decide +kernel) (by decide +kernel) gw595 gw46 rfl xat_X6_60 hP hD hS dX6_checkMoisture_11 dX6_checkMoisture_14 dX6_checkMoisture_15 dX6_checkMoisture_18 dX6_checkMoisture_21 (Nat.le_of_ble_eq_true rfl) (Nat.le_of_ble_eq_true rfl) (Nat.le_of_ble_eq_true rfl) (Nat.le_of_ble_eq_true rfl) (Nat.le_of_ble_eq_true rfl) (Nat.le_of_ble_eq_true rfl)

set_option maxHeartbeats 4000000 in
set_option maxRecDepth 100000 in
theorem m_X6_cutAt (l : Launch) (hfl : l.stackTraces = false) (D : va_G) (ad : Nat → Nat) (cA : Nat → ClassId) (g : gv_T) (p1 : Int32) (p2 : Int32) (σ : Sg) (Q : Int32 → Sg → Prop) (X : String → Sg → Prop) (hw : w_X6_cutAt p1 p2 σ Q X) : MC l yX6_cutAt cX6_cutAt 4 (some .int) (RM 7 2 12 103) D ad cA g [.ref (ad 0), .int p1, .int p2] σ (fun v σ' => ∃ r : Int32, v = some (.int r) ∧ Q r σ') X := by
  refine MC.of (plainFor_of_name (by decide +kernel)) (Nat.le_of_ble_eq_true rfl) ?_
  intro p e s m args below meth c A ls hx hb hr hml hown hG hlocks htab hA hS hP hK hD hGV hl
  have hown : s.vm.findClass RX6 = some m.cls := hown
  have hl : lv_has ls 4 [(0, .ref (ad 0)), (1, .int p1), (2, .int p2)] := hl
  have hSF : CF p m c cX6_cutAt 4 s args RX6 := ⟨hx, hb, hml, hown, hG⟩
  refine lv_aload_n hx hb dX6_cutAt_0 rfl (lv_at hl 0 rfl) ?_
  refine lv_iload_n hx hb dX6_cutAt_1 rfl (lv_at hl 1 rfl) ?_
  refine mc_V hSF hl.1 hP hD hS hA hK hGV (m_X6_checkMember l hfl D ad cA g p1 σ _ _ hw) goV_X6_118 pd_X6_checkMember ⟨(Nat.le_of_ble_eq_true rfl), (Nat.le_of_ble_eq_true rfl)⟩ ⟨(Nat.le_of_ble_eq_true rfl), (Nat.le_of_ble_eq_true rfl)⟩ (va_recv hK hP (ci := 8) (q0 := 0) rfl wl_0) dX6_cutAt_2 rfl (Nat.le_of_ble_eq_true rfl) (fun v9 σ9 H locs hq hP hD hS => ?_) (fun E9 σ9 H locs x9 ce9 hw hP hD hS h9 hv9 hc9 => ?_)
  · skip
    obtain ⟨hv9, hs9, hw⟩ := hq
    subst hv9
    subst σ9
    refine W.eq (g2 := F0 m 5 ls []) rfl ?_
    refine W.widen (k := 1) (n := 6) (Nat.le_refl _) (Nat.le_refl _) ?_
    refine lv_aload_n hx hb dX6_cutAt_5 rfl (lv_at hl 0 rfl) ?_
    refine lv_iload_n hx hb dX6_cutAt_6 rfl (lv_at hl 2 rfl) ?_
    refine mc_V hSF hl.1 hP hD hS hA hK hGV (m_X6_checkMoisture l hfl D ad cA g p2 σ _ _ hw) goV_X6_192 pd_X6_checkMoisture ⟨(Nat.le_of_ble_eq_true rfl), (Nat.le_of_ble_eq_true rfl)⟩ ⟨(Nat.le_of_ble_eq_true rfl), (Nat.le_of_ble_eq_true rfl)⟩ (va_recv hK hP (ci := 8) (q0 := 0) rfl wl_0) dX6_cutAt_7 rfl (Nat.le_of_ble_eq_true rfl) (fun v9 σ9 H locs hq hP hD hS => ?_) (fun E9 σ9 H locs x9 ce9 hw hP hD hS h9 hv9 hc9 => ?_)
    · skip
      obtain ⟨hv9, hs9, hw⟩ := hq
      subst hv9
      subst σ9
      refine W.eq (g2 := F0 m 10 ls []) rfl ?_
      refine W.widen (k := 2) (n := 12) (Nat.le_refl _) (Nat.le_refl _) ?_
      refine lv_aload_n hx hb dX6_cutAt_10 rfl (lv_at hl 0 rfl) ?_
      refine k_get (ci := 8) (C := RX6) (T := TX6) (N := 5) (v := .ref (ad 1)) hx hb hG inX6 hown hK hP 0 wl_0 rfl 0 (by decide) gw305 rfl dX6_cutAt_11 ?_
      refine k_get (ci := 4) (C := RX2) (T := TX2) (N := 12) (v := .ref (ad 10)) hx hb hG inX2 hown hK hP 1 wl_1 rfl 10 (by decide) gw91 rfl dX6_cutAt_14 ?_
      refine lv_iload_n hx hb dX6_cutAt_17 rfl (lv_at hl 1 rfl) ?_
      obtain ⟨hc3, hw⟩ := hw
      refine k_iald (v := gA σ 8 (ix p1)) hx hb hK hP 10 wl_10 (ix p1) rfl rfl hc3 dX6_cutAt_18 ?_
      obtain ⟨v4, ev4⟩ : ∃ z : Int32, z = gA σ 8 (ix p1) := ⟨_, rfl⟩
      have hw := hw v4 ev4
      refine lv_istore_n (lv' := [(3, .int v4), (0, .ref (ad 0)), (1, .int p1), (2, .int p2)]) hx hb dX6_cutAt_19 rfl hl (by decide) (by subst ev4; rfl) (fun ls hl => ?_)
      refine lv_aload_n hx hb dX6_cutAt_20 rfl (lv_at hl 1 rfl) ?_
      refine k_get (ci := 8) (C := RX6) (T := TX6) (N := 5) (v := .ref (ad 1)) hx hb hG inX6 hown hK hP 0 wl_0 rfl 0 (by decide) gw305 rfl dX6_cutAt_21 ?_
      refine k_get (ci := 4) (C := RX2) (T := TX2) (N := 12) (v := .ref (ad 10)) hx hb hG inX2 hown hK hP 1 wl_1 rfl 10 (by decide) gw91 rfl dX6_cutAt_24 ?_
      refine lv_iload_n hx hb dX6_cutAt_27 rfl (lv_at hl 2 rfl) ?_
      refine lv_iload_n hx hb dX6_cutAt_28 rfl (lv_at hl 3 rfl) ?_
      obtain ⟨hc5, hw⟩ := hw
      obtain ⟨σ6, eσ6⟩ : ∃ z : Sg, z = sA σ 8 (ix p1) p2 := ⟨_, rfl⟩
      have hw := hw σ6 eσ6
      refine k_iast (ws1 := WL ad cA σ6) hx hb hK hP hD hS 10 wl_10 (ws_10 eσ6) hc5 dX6_cutAt_29 (fun H locs hP hD hS => ?_)
      refine lv_iload_n hx hb dX6_cutAt_30 rfl (lv_at hl 0 rfl) ?_
      exact vx_ret (m_i ⟨_, rfl, hw⟩ hx hb hr hlocks rfl hP hD hS (Nat.le_of_ble_eq_true rfl) (Nat.le_of_ble_eq_true rfl) dX6_cutAt_31)
    · skip
      exact m_out hw htab hlocks h9 hv9 hc9 hP hD hS (Nat.le_of_ble_eq_true rfl) (Nat.le_of_ble_eq_true rfl)
  · skip
    exact m_out hw htab hlocks h9 hv9 hc9 hP hD hS (Nat.le_of_ble_eq_true rfl) (Nat.le_of_ble_eq_true rfl)

