set_option maxHeartbeats 4000000 in
set_option maxRecDepth 100000 in
theorem lc_9_1 {p : Program} {e : Env} {s : State} {m : MethodId} {below : List Frame} {meth : Method} {c : Code} (l : Launch) (hfl : l.stackTraces = false) {b L : Nat} {xs : Nat → Int32} (hL : L = 6) (C0 : lw_At p s m meth c b L xs) (D : va_G) (cA : Nat → ClassId) (g : gv_T) (hK : va_K D vwCl (TYS cA) s) (hGV : GV g (fun q : Nat => s.heap.size ≤ q) s s.heap) (a : Nat → Nat) {H : Heap} {locs : List Loc} (hP : va_P D vwCl (WL cA g a) H) (hD : va_D (fun q : Nat => s.heap.size ≤ q) (WL cA g a)) (hS : va_S (fun q : Nat => s.heap.size ≤ q) s.heap H locs) {ls : Array Slot} (hl : lv_has ls 9 [(5, .int 0), (4, .ref (a 72)), (3, .ref (a 71)), (2, .ref (a 52)), (1, .ref (a 0)), (0, .ref b)]) (kk : Int32) (hk : (((xs 3)).toUInt32 % 65536).toInt32 = kk) (k0 : ¬ (xs 1) < 0) (k1 : ¬ (lg_cmp ((xs 1)).toInt64 0) < 0) (k2 : 0 < (lg_cmp ((xs 1)).toInt64 (-1))) : W p l e room_1 s m #[Value.ref b] below meth c H locs 73 8292 (lw_Z below #[Value.ref b] s) (F0 m 759 ls []) := by
  obtain ⟨hx, hb, hr, hml, hown, hts, hX, hbl, hlocks, hgv⟩ := id C0
  have hb : c.code = cL_law := hb
  have hown : s.vm.findClass RL = some m.cls := hown
  have hG : ∀ w ∈ GW, w.before #[Value.ref b] s = true := fun w hw => hts w (List.mem_filter.mp hw).1
  have hA : ∀ q : Nat, s.heap.size ≤ q → (fun q : Nat => s.heap.size ≤ q) q := fun _ h => h
  have hbA : ¬ (fun q : Nat => s.heap.size ≤ q) b := Nat.not_le.mpr hbl
  have hSF : CF p m c cL_law 9 s #[Value.ref b] RL := ⟨hx, hb, hml, hown, hG⟩
  have hP : va_P D vwCl [((a 0), .inr (9, [.ref (a 1), .ref (a 12), .ref (a 32), .ref (a 38), .ref (a 46)])), ((a 1), .inr (5, [.int 0, .int 0, .ref (a 2), .ref (a 3), .ref (a 4), .ref (a 5), .ref (a 6), .ref (a 7), .ref (a 8), .ref (a 9), .ref (a 10), .ref (a 11)])), ((a 52), .inr (15, [.ref (a 53), .ref (a 54), .ref (a 55), .ref (a 56), .ref (a 57), .ref (a 58), .ref (a 59), .ref (a 60), .ref (a 61), .ref (a 62), .ref (a 63), .ref (a 64), .ref (a 65), .ref (a 66), .ref (a 67), .ref (a 68), .ref (a 69), .ref (a 70), .long 0, .int 0, .int 2, .int 0, .int 0, .int 0, .int 0, .int 0, .int 0])), ((a 54), .inr (2, [.int 0, .ref g.1, .int 0]))] H := hP.sub [0, 1, 52, 54] rfl
  have hD : va_D (fun q : Nat => s.heap.size ≤ q) [((a 0), .inr (9, [.ref (a 1), .ref (a 12), .ref (a 32), .ref (a 38), .ref (a 46)])), ((a 1), .inr (5, [.int 0, .int 0, .ref (a 2), .ref (a 3), .ref (a 4), .ref (a 5), .ref (a 6), .ref (a 7), .ref (a 8), .ref (a 9), .ref (a 10), .ref (a 11)])), ((a 52), .inr (15, [.ref (a 53), .ref (a 54), .ref (a 55), .ref (a 56), .ref (a 57), .ref (a 58), .ref (a 59), .ref (a 60), .ref (a 61), .ref (a 62), .ref (a 63), .ref (a 64), .ref (a 65), .ref (a 66), .ref (a 67), .ref (a 68), .ref (a 69), .ref (a 70), .long 0, .int 0, .int 2, .int 0, .int 0, .int 0, .int 0, .int 0, .int 0])), ((a 54), .inr (2, [.int 0, .ref g.1, .int 0]))] := hD.sub [0, 1, 52, 54] (by decide) rfl
  have hl : lv_has ls 9 [(5, .int 0), (4, .ref (a 72)), (3, .ref (a 71)), (2, .ref (a 52)), (1, .ref (a 0)), (0, .ref b)] := hl
  refine lv_aload_n hx hb dL_law_759 rfl (lv_at hl 4 rfl) ?_
  refine lv_aload_n hx hb dL_law_760 rfl (lv_at hl 5 rfl) ?_
  refine lv_iload hx hb dL_law_761 (lv_at hl 0 rfl) ?_
  refine lv_iconst (v := 1) hx hb dL_law_763 (by decide) ?_
  refine k_iadd (v := 1) hx hb dL_law_764 (by decide) ?_
  refine k_script (x := (xs 1)) hx hb hX hbl hbA hS 1 (by decide) rfl (by subst hL; unfold vp_in; decide) dL_law_765 ?_
  refine lv_aload_n hx hb dL_law_766 rfl (lv_at hl 5 rfl) ?_
  refine lv_iload hx hb dL_law_767 (lv_at hl 0 rfl) ?_
  refine lv_iconst (v := 2) hx hb dL_law_769 (by decide) ?_
  refine k_iadd (v := 2) hx hb dL_law_770 (by decide) ?_
  refine k_script (x := (xs 2)) hx hb hX hbl hbA hS 2 (by decide) rfl (by subst hL; unfold vp_in; decide) dL_law_771 ?_
  refine lv_aload_n hx hb dL_law_772 rfl (lv_at hl 5 rfl) ?_
  refine lv_iload hx hb dL_law_773 (lv_at hl 0 rfl) ?_
  refine lv_iconst (v := 3) hx hb dL_law_775 (by decide) ?_
  refine k_iadd (v := 3) hx hb dL_law_776 (by decide) ?_
  refine k_script (x := (xs 3)) hx hb hX hbl hbA hS 3 (by decide) rfl (by subst hL; unfold vp_in; decide) dL_law_777 ?_
  refine lv_i2c (v := kk) hx hb dL_law_778 hk ?_
  refine lv_aload_n hx hb dL_law_779 rfl (lv_at hl 5 rfl) ?_
  refine lv_iload hx hb dL_law_780 (lv_at hl 0 rfl) ?_
  refine lv_iconst (v := 4) hx hb dL_law_782 (by decide) ?_
  refine k_iadd (v := 4) hx hb dL_law_783 (by decide) ?_
  refine k_script (x := (xs 4)) hx hb hX hbl hbA hS 4 (by decide) rfl (by subst hL; unfold vp_in; decide) dL_law_784 ?_
  refine lv_aload_n hx hb dL_law_785 rfl (lv_at hl 5 rfl) ?_
  refine lv_iload hx hb dL_law_786 (lv_at hl 0 rfl) ?_
  refine lv_iconst (v := 5) hx hb dL_law_788 (by decide) ?_
  refine k_iadd (v := 5) hx hb dL_law_789 (by decide) ?_
  refine k_script (x := (xs 5)) hx hb hX hbl hbA hS 5 (by decide) rfl (by subst hL; unfold vp_in; decide) dL_law_790 ?_
  refine lv_aload_n hx hb dL_law_791 rfl (lv_at hl 2 rfl) ?_
  refine ct_SW (wr := [((a 52), .inr (15, [.ref (a 53), .ref (a 54), .ref (a 55), .ref (a 56), .ref (a 57), .ref (a 58), .ref (a 59), .ref (a 60), .ref (a 61), .ref (a 62), .ref (a 63), .ref (a 64), .ref (a 65), .ref (a 66), .ref (a 67), .ref (a 68), .ref (a 69), .ref (a 70), .long 0, .int 0, .int 2, .int 0, .int 0, .int 0, .int 0, .int 0, .int 0])), ((a 54), .inr (2, [.int 0, .ref g.1, .int 0]))]) hSF hl.1 hP hD hS hA hK hGV (c179_L_joint l hfl D cA g (a 0) (a 71) (a 1) (a 12) (a 32) (a 38) (a 46) (a 2) (a 3) (a 4) (a 5) (a 6) (a 7) (a 8) (a 9) (a 10) (a 11) ((xs 1)) ((xs 2)) (kk) ((xs 4)) ((xs 5)) k0) goW_L_159 pd_L_joint.2 ⟨(Nat.le_of_ble_eq_true rfl), (Nat.le_of_ble_eq_true rfl)⟩ ⟨(Nat.le_of_ble_eq_true rfl), (Nat.le_of_ble_eq_true rfl)⟩ dL_law_792 rfl (Nat.le_of_ble_eq_true rfl) [0, 1] [2, 3] rfl (by decide) rfl (by decide) (by decide) (fun q => [((a 52), .inr (15, [.ref (a 53), .ref (a 54), .ref (a 55), .ref (a 56), .ref (a 57), .ref (a 58), .ref (a 59), .ref (a 60), .ref (a 61), .ref (a 62), .ref (a 63), .ref (a 64), .ref (a 65), .ref (a 66), .ref (a 67), .ref (a 68), .ref (a 69), .ref (a 70), .long 0, .int 0, .int 2, .int 0, .int 0, .int 0, .int 0, .int 0, .int 0])), ((a 54), .inr (2, [.int 0, .ref g.1, .int 0])), ((a 0), .inr (9, [.ref (a 1), .ref (a 12), .ref (a 32), .ref (a 38), .ref (a 46)])), ((a 1), .inr (5, [.int 0, .int 0, .ref (a 2), .ref (a 3), .ref (a 4), .ref (a 5), .ref (a 6), .ref (a 7), .ref (a 8), .ref (a 9), .ref (a 10), .ref (a 11)]))]) (fun _ => rfl) (fun q1 H locs hP hD hS => ?_)
  refine W.eq (g2 := F0 m 795 ls [.int 1]) rfl ?_
  refine lv_istore (lv' := [(6, .int 1), (5, .int 0), (4, .ref (a 72)), (3, .ref (a 71)), (2, .ref (a 52)), (1, .ref (a 0)), (0, .ref b)]) hx hb dL_law_795 hl (by decide) rfl (fun ls hl => ?_)
  refine lv_aload_n hx hb dL_law_797 rfl (lv_at hl 4 rfl) ?_
  refine lv_aload_n hx hb dL_law_798 rfl (lv_at hl 6 rfl) ?_
  refine lv_iload hx hb dL_law_799 (lv_at hl 1 rfl) ?_
  refine lv_iconst (v := 1) hx hb dL_law_801 (by decide) ?_
  refine k_iadd (v := 1) hx hb dL_law_802 (by decide) ?_
  refine k_script (x := (xs 1)) hx hb hX hbl hbA hS 1 (by decide) rfl (by subst hL; unfold vp_in; decide) dL_law_803 ?_
  refine lv_aload_n hx hb dL_law_804 rfl (lv_at hl 6 rfl) ?_
  refine lv_iload hx hb dL_law_805 (lv_at hl 1 rfl) ?_
  refine lv_iconst (v := 2) hx hb dL_law_807 (by decide) ?_
  refine k_iadd (v := 2) hx hb dL_law_808 (by decide) ?_
  refine k_script (x := (xs 2)) hx hb hX hbl hbA hS 2 (by decide) rfl (by subst hL; unfold vp_in; decide) dL_law_809 ?_
  refine lv_aload_n hx hb dL_law_810 rfl (lv_at hl 6 rfl) ?_
  refine lv_iload hx hb dL_law_811 (lv_at hl 1 rfl) ?_
  refine lv_iconst (v := 3) hx hb dL_law_813 (by decide) ?_
  refine k_iadd (v := 3) hx hb dL_law_814 (by decide) ?_
  refine k_script (x := (xs 3)) hx hb hX hbl hbA hS 3 (by decide) rfl (by subst hL; unfold vp_in; decide) dL_law_815 ?_
  refine lv_i2c (v := kk) hx hb dL_law_816 hk ?_
  refine lv_aload_n hx hb dL_law_817 rfl (lv_at hl 6 rfl) ?_
  refine lv_iload hx hb dL_law_818 (lv_at hl 1 rfl) ?_
  refine lv_iconst (v := 4) hx hb dL_law_820 (by decide) ?_
  refine k_iadd (v := 4) hx hb dL_law_821 (by decide) ?_
  refine k_script (x := (xs 4)) hx hb hX hbl hbA hS 4 (by decide) rfl (by subst hL; unfold vp_in; decide) dL_law_822 ?_
  refine lv_aload_n hx hb dL_law_823 rfl (lv_at hl 6 rfl) ?_
  refine lv_iload hx hb dL_law_824 (lv_at hl 1 rfl) ?_
  refine lv_iconst (v := 5) hx hb dL_law_826 (by decide) ?_
  refine k_iadd (v := 5) hx hb dL_law_827 (by decide) ?_
  refine k_script (x := (xs 5)) hx hb hX hbl hbA hS 5 (by decide) rfl (by subst hL; unfold vp_in; decide) dL_law_828 ?_
  refine ct_V (wr := []) hSF hl.1 hP hD hS hA hK hGV (c180_X12_joint l hfl D cA g (a 52) (a 53) (a 54) (a 55) (a 56) (a 57) (a 58) (a 59) (a 60) (a 61) (a 62) (a 63) (a 64) (a 65) (a 66) (a 67) (a 68) (a 69) (a 70) ((xs 1)) ((xs 2)) (kk) ((xs 4)) ((xs 5)) k1 k2) goV_L_162 pd_X12_joint ⟨(Nat.le_of_ble_eq_true rfl), (Nat.le_of_ble_eq_true rfl)⟩ ⟨(Nat.le_of_ble_eq_true rfl), (Nat.le_of_ble_eq_true rfl)⟩ (va_recv hK hP (ci := 15) (q0 := 0) rfl rfl) dL_law_829 rfl (Nat.le_of_ble_eq_true rfl) [0, 1] [] rfl (by decide) rfl (by decide) (by decide) (fun q => [((a 52), .inr (15, [.ref (a 53), .ref (a 54), .ref (a 55), .ref (a 56), .ref (a 57), .ref (a 58), .ref (a 59), .ref (a 60), .ref (a 61), .ref (a 62), .ref (a 63), .ref (a 64), .ref (a 65), .ref (a 66), .ref (a 67), .ref (a 68), .ref (a 69), .ref (a 70), .long 0, .int 1, .int 2, .int 0, .int 0, .int 0, .int 0, .int 0, .int 0])), ((a 54), .inr (2, [.int 0, .ref g.1, .int 0]))]) (fun _ => rfl) (fun q2 H locs hP hD hS => ?_)
  refine W.eq (g2 := F0 m 832 ls [.int 0]) rfl ?_
  refine lv_istore (lv' := [(7, .int 0), (6, .int 1), (5, .int 0), (4, .ref (a 72)), (3, .ref (a 71)), (2, .ref (a 52)), (1, .ref (a 0)), (0, .ref b)]) hx hb dL_law_832 hl (by decide) rfl (fun ls hl => ?_)
  refine lv_aload_n hx hb dL_law_834 rfl (lv_at hl 5 rfl) ?_
  refine ct_V (wr := []) hSF hl.1 hP hD hS hA hK hGV (c17_X12_thrown l hfl D cA g (a 52) (a 53) (a 54) (a 55) (a 56) (a 57) (a 58) (a 59) (a 60) (a 61) (a 62) (a 63) (a 64) (a 65) (a 66) (a 67) (a 68) (a 69) (a 70)) goV_L_125 pd_X12_thrown ⟨(Nat.le_of_ble_eq_true rfl), (Nat.le_of_ble_eq_true rfl)⟩ ⟨(Nat.le_of_ble_eq_true rfl), (Nat.le_of_ble_eq_true rfl)⟩ (va_recv hK hP (ci := 15) (q0 := 0) rfl rfl) dL_law_835 rfl (Nat.le_of_ble_eq_true rfl) [0] [] rfl (by decide) rfl (by decide) (by decide) (fun q => [((a 52), .inr (15, [.ref (a 53), .ref (a 54), .ref (a 55), .ref (a 56), .ref (a 57), .ref (a 58), .ref (a 59), .ref (a 60), .ref (a 61), .ref (a 62), .ref (a 63), .ref (a 64), .ref (a 65), .ref (a 66), .ref (a 67), .ref (a 68), .ref (a 69), .ref (a 70), .long 0, .int 1, .int 2, .int 0, .int 0, .int 0, .int 0, .int 0, .int 0]))]) (fun _ => rfl) (fun q3 H locs hP hD hS => ?_)
  refine W.eq (g2 := F0 m 838 ls [.int 1]) rfl ?_
  refine lv_iload hx hb dL_law_838 (lv_at hl 1 rfl) ?_
  refine k_icmp_eq_t (tgt := 845) hx hb dL_law_840 (by decide) (by decide) ?_
  refine lv_iload hx hb dL_law_845 (lv_at hl 1 rfl) ?_
  refine k_if_ne_t (tgt := 862) hx hb dL_law_847 (by decide) (by decide) ?_
  refine lv_goto (tgt := 1963) hx hb dL_law_862 (by decide) ?_
  exact law_tail l hL C0 (Nat.le_of_ble_eq_true rfl) (Nat.le_of_ble_eq_true rfl) hS (lv_sub hl [2, 7] rfl)
set_option maxHeartbeats 4000000 in
set_option maxRecDepth 100000 in
theorem lc_10_0 {p : Program} {e : Env} {s : State} {m : MethodId} {below : List Frame} {meth : Method} {c : Code} (l : Launch) (hfl : l.stackTraces = false) {b L : Nat} {xs : Nat → Int32} (hL : L = 6) (C0 : lw_At p s m meth c b L xs) (D : va_G) (cA : Nat → ClassId) (g : gv_T) (hK : va_K D vwCl (TYS cA) s) (hGV : GV g (fun q : Nat => s.heap.size ≤ q) s s.heap) (a : Nat → Nat) {H : Heap} {locs : List Loc} (hP : va_P D vwCl (WL cA g a) H) (hD : va_D (fun q : Nat => s.heap.size ≤ q) (WL cA g a)) (hS : va_S (fun q : Nat => s.heap.size ≤ q) s.heap H locs) {ls : Array Slot} (hl : lv_has ls 9 [(5, .int 0), (4, .ref (a 72)), (3, .ref (a 71)), (2, .ref (a 52)), (1, .ref (a 0)), (0, .ref b)]) (k0 : (xs 1) < 0) (k1 : (lg_cmp ((xs 1)).toInt64 0) < 0) : W p l e room_1 s m #[Value.ref b] below meth c H locs 73 8292 (lw_Z below #[Value.ref b] s) (F0 m 865 ls []) := by
  obtain ⟨hx, hb, hr, hml, hown, hts, hX, hbl, hlocks, hgv⟩ := id C0
  have hb : c.code = cL_law := hb
  have hown : s.vm.findClass RL = some m.cls := hown
  have hG : ∀ w ∈ GW, w.before #[Value.ref b] s = true := fun w hw => hts w (List.mem_filter.mp hw).1
  have hA : ∀ q : Nat, s.heap.size ≤ q → (fun q : Nat => s.heap.size ≤ q) q := fun _ h => h
  have hbA : ¬ (fun q : Nat => s.heap.size ≤ q) b := Nat.not_le.mpr hbl
  have hSF : CF p m c cL_law 9 s #[Value.ref b] RL := ⟨hx, hb, hml, hown, hG⟩
  have hP : va_P D vwCl [((a 0), .inr (9, [.ref (a 1), .ref (a 12), .ref (a 32), .ref (a 38), .ref (a 46)])), ((a 52), .inr (15, [.ref (a 53), .ref (a 54), .ref (a 55), .ref (a 56), .ref (a 57), .ref (a 58), .ref (a 59), .ref (a 60), .ref (a 61), .ref (a 62), .ref (a 63), .ref (a 64), .ref (a 65), .ref (a 66), .ref (a 67), .ref (a 68), .ref (a 69), .ref (a 70), .long 0, .int 0, .int 2, .int 0, .int 0, .int 0, .int 0, .int 0, .int 0])), ((a 55), .inr (2, [.int 0, .ref g.1, .int 0]))] H := hP.sub [0, 52, 55] rfl
  have hD : va_D (fun q : Nat => s.heap.size ≤ q) [((a 0), .inr (9, [.ref (a 1), .ref (a 12), .ref (a 32), .ref (a 38), .ref (a 46)])), ((a 52), .inr (15, [.ref (a 53), .ref (a 54), .ref (a 55), .ref (a 56), .ref (a 57), .ref (a 58), .ref (a 59), .ref (a 60), .ref (a 61), .ref (a 62), .ref (a 63), .ref (a 64), .ref (a 65), .ref (a 66), .ref (a 67), .ref (a 68), .ref (a 69), .ref (a 70), .long 0, .int 0, .int 2, .int 0, .int 0, .int 0, .int 0, .int 0, .int 0])), ((a 55), .inr (2, [.int 0, .ref g.1, .int 0]))] := hD.sub [0, 52, 55] (by decide) rfl
  have hl : lv_has ls 9 [(5, .int 0), (4, .ref (a 72)), (3, .ref (a 71)), (2, .ref (a 52)), (1, .ref (a 0)), (0, .ref b)] := hl
  refine lv_aload_n hx hb dL_law_865 rfl (lv_at hl 4 rfl) ?_
  refine lv_aload_n hx hb dL_law_866 rfl (lv_at hl 5 rfl) ?_
  refine lv_iload hx hb dL_law_867 (lv_at hl 0 rfl) ?_
  refine lv_iconst (v := 1) hx hb dL_law_869 (by decide) ?_
  refine k_iadd (v := 1) hx hb dL_law_870 (by decide) ?_
  refine k_script (x := (xs 1)) hx hb hX hbl hbA hS 1 (by decide) rfl (by subst hL; unfold vp_in; decide) dL_law_871 ?_
  refine lv_aload_n hx hb dL_law_872 rfl (lv_at hl 2 rfl) ?_
  refine ct_SW (wr := [((a 52), .inr (15, [.ref (a 53), .ref (a 54), .ref (a 55), .ref (a 56), .ref (a 57), .ref (a 58), .ref (a 59), .ref (a 60), .ref (a 61), .ref (a 62), .ref (a 63), .ref (a 64), .ref (a 65), .ref (a 66), .ref (a 67), .ref (a 68), .ref (a 69), .ref (a 70), .long 0, .int 0, .int 2, .int 0, .int 0, .int 0, .int 0, .int 0, .int 0])), ((a 55), .inr (2, [.int 0, .ref g.1, .int 0]))]) hSF hl.1 hP hD hS hA hK hGV (c183_L_isRight l hfl D cA g (a 0) (a 71) (a 1) (a 12) (a 32) (a 38) (a 46) ((xs 1)) k0) goW_L_163 pd_L_isRight.2 ⟨(Nat.le_of_ble_eq_true rfl), (Nat.le_of_ble_eq_true rfl)⟩ ⟨(Nat.le_of_ble_eq_true rfl), (Nat.le_of_ble_eq_true rfl)⟩ dL_law_873 rfl (Nat.le_of_ble_eq_true rfl) [0] [1, 2] rfl (by decide) rfl (by decide) (by decide) (fun q => [((a 52), .inr (15, [.ref (a 53), .ref (a 54), .ref (a 55), .ref (a 56), .ref (a 57), .ref (a 58), .ref (a 59), .ref (a 60), .ref (a 61), .ref (a 62), .ref (a 63), .ref (a 64), .ref (a 65), .ref (a 66), .ref (a 67), .ref (a 68), .ref (a 69), .ref (a 70), .long 0, .int 0, .int 2, .int 0, .int 0, .int 0, .int 0, .int 0, .int 0])), ((a 55), .inr (2, [.int 0, .ref g.1, .int 0])), ((a 0), .inr (9, [.ref (a 1), .ref (a 12), .ref (a 32), .ref (a 38), .ref (a 46)]))]) (fun _ => rfl) (fun q1 H locs hP hD hS => ?_)
  refine W.eq (g2 := F0 m 876 ls [.int 1]) rfl ?_
  refine lv_istore (lv' := [(6, .int 1), (5, .int 0), (4, .ref (a 72)), (3, .ref (a 71)), (2, .ref (a 52)), (1, .ref (a 0)), (0, .ref b)]) hx hb dL_law_876 hl (by decide) rfl (fun ls hl => ?_)
  refine lv_aload_n hx hb dL_law_878 rfl (lv_at hl 4 rfl) ?_
  refine lv_aload_n hx hb dL_law_879 rfl (lv_at hl 6 rfl) ?_
  refine lv_iload hx hb dL_law_880 (lv_at hl 1 rfl) ?_
  refine lv_iconst (v := 1) hx hb dL_law_882 (by decide) ?_
  refine k_iadd (v := 1) hx hb dL_law_883 (by decide) ?_
  refine k_script (x := (xs 1)) hx hb hX hbl hbA hS 1 (by decide) rfl (by subst hL; unfold vp_in; decide) dL_law_884 ?_
  refine ct_V (wr := []) hSF hl.1 hP hD hS hA hK hGV (c185_X12_isRight l hfl D cA g (a 52) (a 53) (a 54) (a 55) (a 56) (a 57) (a 58) (a 59) (a 60) (a 61) (a 62) (a 63) (a 64) (a 65) (a 66) (a 67) (a 68) (a 69) (a 70) ((xs 1)) k1) goV_L_165 pd_X12_isRight ⟨(Nat.le_of_ble_eq_true rfl), (Nat.le_of_ble_eq_true rfl)⟩ ⟨(Nat.le_of_ble_eq_true rfl), (Nat.le_of_ble_eq_true rfl)⟩ (va_recv hK hP (ci := 15) (q0 := 0) rfl rfl) dL_law_885 rfl (Nat.le_of_ble_eq_true rfl) [0, 1] [] rfl (by decide) rfl (by decide) (by decide) (fun q => [((a 52), .inr (15, [.ref (a 53), .ref (a 54), .ref (a 55), .ref (a 56), .ref (a 57), .ref (a 58), .ref (a 59), .ref (a 60), .ref (a 61), .ref (a 62), .ref (a 63), .ref (a 64), .ref (a 65), .ref (a 66), .ref (a 67), .ref (a 68), .ref (a 69), .ref (a 70), .long 0, .int 1, .int 2, .int 0, .int 0, .int 0, .int 0, .int 0, .int 0])), ((a 55), .inr (2, [.int 0, .ref g.1, .int 0]))]) (fun _ => rfl) (fun q2 H locs hP hD hS => ?_)
  refine W.eq (g2 := F0 m 888 ls [.int 0]) rfl ?_
  refine lv_istore (lv' := [(7, .int 0), (6, .int 1), (5, .int 0), (4, .ref (a 72)), (3, .ref (a 71)), (2, .ref (a 52)), (1, .ref (a 0)), (0, .ref b)]) hx hb dL_law_888 hl (by decide) rfl (fun ls hl => ?_)
  refine lv_aload_n hx hb dL_law_890 rfl (lv_at hl 5 rfl) ?_
  refine ct_V (wr := []) hSF hl.1 hP hD hS hA hK hGV (c17_X12_thrown l hfl D cA g (a 52) (a 53) (a 54) (a 55) (a 56) (a 57) (a 58) (a 59) (a 60) (a 61) (a 62) (a 63) (a 64) (a 65) (a 66) (a 67) (a 68) (a 69) (a 70)) goV_L_125 pd_X12_thrown ⟨(Nat.le_of_ble_eq_true rfl), (Nat.le_of_ble_eq_true rfl)⟩ ⟨(Nat.le_of_ble_eq_true rfl), (Nat.le_of_ble_eq_true rfl)⟩ (va_recv hK hP (ci := 15) (q0 := 0) rfl rfl) dL_law_891 rfl (Nat.le_of_ble_eq_true rfl) [0] [] rfl (by decide) rfl (by decide) (by decide) (fun q => [((a 52), .inr (15, [.ref (a 53), .ref (a 54), .ref (a 55), .ref (a 56), .ref (a 57), .ref (a 58), .ref (a 59), .ref (a 60), .ref (a 61), .ref (a 62), .ref (a 63), .ref (a 64), .ref (a 65), .ref (a 66), .ref (a 67), .ref (a 68), .ref (a 69), .ref (a 70), .long 0, .int 1, .int 2, .int 0, .int 0, .int 0, .int 0, .int 0, .int 0]))]) (fun _ => rfl) (fun q3 H locs hP hD hS => ?_)
  refine W.eq (g2 := F0 m 894 ls [.int 1]) rfl ?_
  refine lv_iload hx hb dL_law_894 (lv_at hl 1 rfl) ?_
  refine k_icmp_eq_t (tgt := 901) hx hb dL_law_896 (by decide) (by decide) ?_
  refine lv_iload hx hb dL_law_901 (lv_at hl 1 rfl) ?_
  refine k_if_ne_t (tgt := 925) hx hb dL_law_903 (by decide) (by decide) ?_
  refine lv_goto (tgt := 1963) hx hb dL_law_925 (by decide) ?_
  exact law_tail l hL C0 (Nat.le_of_ble_eq_true rfl) (Nat.le_of_ble_eq_true rfl) hS (lv_sub hl [2, 7] rfl)
set_option maxHeartbeats 4000000 in
set_option maxRecDepth 100000 in
theorem lc_10_1 {p : Program} {e : Env} {s : State} {m : MethodId} {below : List Frame} {meth : Method} {c : Code} (l : Launch) (hfl : l.stackTraces = false) {b L : Nat} {xs : Nat → Int32} (hL : L = 6) (C0 : lw_At p s m meth c b L xs) (D : va_G) (cA : Nat → ClassId) (g : gv_T) (hK : va_K D vwCl (TYS cA) s) (hGV : GV g (fun q : Nat => s.heap.size ≤ q) s s.heap) (a : Nat → Nat) {H : Heap} {locs : List Loc} (hP : va_P D vwCl (WL cA g a) H) (hD : va_D (fun q : Nat => s.heap.size ≤ q) (WL cA g a)) (hS : va_S (fun q : Nat => s.heap.size ≤ q) s.heap H locs) {ls : Array Slot} (hl : lv_has ls 9 [(5, .int 0), (4, .ref (a 72)), (3, .ref (a 71)), (2, .ref (a 52)), (1, .ref (a 0)), (0, .ref b)]) (k0 : ¬ (xs 1) < 0) (k1 : ¬ (lg_cmp ((xs 1)).toInt64 0) < 0) (k2 : 0 < (lg_cmp ((xs 1)).toInt64 (-1))) : W p l e room_1 s m #[Value.ref b] below meth c H locs 73 8292 (lw_Z below #[Value.ref b] s) (F0 m 865 ls []) := by
  obtain ⟨hx, hb, hr, hml, hown, hts, hX, hbl, hlocks, hgv⟩ := id C0
  have hb : c.code = cL_law := hb
  have hown : s.vm.findClass RL = some m.cls := hown
  have hG : ∀ w ∈ GW, w.before #[Value.ref b] s = true := fun w hw => hts w (List.mem_filter.mp hw).1
  have hA : ∀ q : Nat, s.heap.size ≤ q → (fun q : Nat => s.heap.size ≤ q) q := fun _ h => h
  have hbA : ¬ (fun q : Nat => s.heap.size ≤ q) b := Nat.not_le.mpr hbl
  have hSF : CF p m c cL_law 9 s #[Value.ref b] RL := ⟨hx, hb, hml, hown, hG⟩
  have hP : va_P D vwCl [((a 0), .inr (9, [.ref (a 1), .ref (a 12), .ref (a 32), .ref (a 38), .ref (a 46)])), ((a 32), .inr (6, [.int 0, .ref (a 33), .ref (a 34), .ref (a 35), .ref (a 36), .ref (a 37)])), ((a 52), .inr (15, [.ref (a 53), .ref (a 54), .ref (a 55), .ref (a 56), .ref (a 57), .ref (a 58), .ref (a 59), .ref (a 60), .ref (a 61), .ref (a 62), .ref (a 63), .ref (a 64), .ref (a 65), .ref (a 66), .ref (a 67), .ref (a 68), .ref (a 69), .ref (a 70), .long 0, .int 0, .int 2, .int 0, .int 0, .int 0, .int 0, .int 0, .int 0])), ((a 55), .inr (2, [.int 0, .ref g.1, .int 0]))] H := hP.sub [0, 32, 52, 55] rfl
  have hD : va_D (fun q : Nat => s.heap.size ≤ q) [((a 0), .inr (9, [.ref (a 1), .ref (a 12), .ref (a 32), .ref (a 38), .ref (a 46)])), ((a 32), .inr (6, [.int 0, .ref (a 33), .ref (a 34), .ref (a 35), .ref (a 36), .ref (a 37)])), ((a 52), .inr (15, [.ref (a 53), .ref (a 54), .ref (a 55), .ref (a 56), .ref (a 57), .ref (a 58), .ref (a 59), .ref (a 60), .ref (a 61), .ref (a 62), .ref (a 63), .ref (a 64), .ref (a 65), .ref (a 66), .ref (a 67), .ref (a 68), .ref (a 69), .ref (a 70), .long 0, .int 0, .int 2, .int 0, .int 0, .int 0, .int 0, .int 0, .int 0])), ((a 55), .inr (2, [.int 0, .ref g.1, .int 0]))] := hD.sub [0, 32, 52, 55] (by decide) rfl
  have hl : lv_has ls 9 [(5, .int 0), (4, .ref (a 72)), (3, .ref (a 71)), (2, .ref (a 52)), (1, .ref (a 0)), (0, .ref b)] := hl
  refine lv_aload_n hx hb dL_law_865 rfl (lv_at hl 4 rfl) ?_
  refine lv_aload_n hx hb dL_law_866 rfl (lv_at hl 5 rfl) ?_
  refine lv_iload hx hb dL_law_867 (lv_at hl 0 rfl) ?_
  refine lv_iconst (v := 1) hx hb dL_law_869 (by decide) ?_
  refine k_iadd (v := 1) hx hb dL_law_870 (by decide) ?_
  refine k_script (x := (xs 1)) hx hb hX hbl hbA hS 1 (by decide) rfl (by subst hL; unfold vp_in; decide) dL_law_871 ?_
  refine lv_aload_n hx hb dL_law_872 rfl (lv_at hl 2 rfl) ?_
  refine ct_SW (wr := [((a 52), .inr (15, [.ref (a 53), .ref (a 54), .ref (a 55), .ref (a 56), .ref (a 57), .ref (a 58), .ref (a 59), .ref (a 60), .ref (a 61), .ref (a 62), .ref (a 63), .ref (a 64), .ref (a 65), .ref (a 66), .ref (a 67), .ref (a 68), .ref (a 69), .ref (a 70), .long 0, .int 0, .int 2, .int 0, .int 0, .int 0, .int 0, .int 0, .int 0])), ((a 55), .inr (2, [.int 0, .ref g.1, .int 0]))]) hSF hl.1 hP hD hS hA hK hGV (c188_L_isRight l hfl D cA g (a 0) (a 71) (a 1) (a 12) (a 32) (a 38) (a 46) (a 33) (a 34) (a 35) (a 36) (a 37) ((xs 1)) k0) goW_L_163 pd_L_isRight.2 ⟨(Nat.le_of_ble_eq_true rfl), (Nat.le_of_ble_eq_true rfl)⟩ ⟨(Nat.le_of_ble_eq_true rfl), (Nat.le_of_ble_eq_true rfl)⟩ dL_law_873 rfl (Nat.le_of_ble_eq_true rfl) [0, 1] [2, 3] rfl (by decide) rfl (by decide) (by decide) (fun q => [((a 52), .inr (15, [.ref (a 53), .ref (a 54), .ref (a 55), .ref (a 56), .ref (a 57), .ref (a 58), .ref (a 59), .ref (a 60), .ref (a 61), .ref (a 62), .ref (a 63), .ref (a 64), .ref (a 65), .ref (a 66), .ref (a 67), .ref (a 68), .ref (a 69), .ref (a 70), .long 0, .int 0, .int 2, .int 0, .int 0, .int 0, .int 0, .int 0, .int 0])), ((a 55), .inr (2, [.int 0, .ref g.1, .int 0])), ((a 0), .inr (9, [.ref (a 1), .ref (a 12), .ref (a 32), .ref (a 38), .ref (a 46)])), ((a 32), .inr (6, [.int 0, .ref (a 33), .ref (a 34), .ref (a 35), .ref (a 36), .ref (a 37)]))]) (fun _ => rfl) (fun q1 H locs hP hD hS => ?_)
  refine W.eq (g2 := F0 m 876 ls [.int 1]) rfl ?_
  refine lv_istore (lv' := [(6, .int 1), (5, .int 0), (4, .ref (a 72)), (3, .ref (a 71)), (2, .ref (a 52)), (1, .ref (a 0)), (0, .ref b)]) hx hb dL_law_876 hl (by decide) rfl (fun ls hl => ?_)
  refine lv_aload_n hx hb dL_law_878 rfl (lv_at hl 4 rfl) ?_
  refine lv_aload_n hx hb dL_law_879 rfl (lv_at hl 6 rfl) ?_
  refine lv_iload hx hb dL_law_880 (lv_at hl 1 rfl) ?_
  refine lv_iconst (v := 1) hx hb dL_law_882 (by decide) ?_
  refine k_iadd (v := 1) hx hb dL_law_883 (by decide) ?_
  refine k_script (x := (xs 1)) hx hb hX hbl hbA hS 1 (by decide) rfl (by subst hL; unfold vp_in; decide) dL_law_884 ?_
  refine ct_V (wr := []) hSF hl.1 hP hD hS hA hK hGV (c190_X12_isRight l hfl D cA g (a 52) (a 53) (a 54) (a 55) (a 56) (a 57) (a 58) (a 59) (a 60) (a 61) (a 62) (a 63) (a 64) (a 65) (a 66) (a 67) (a 68) (a 69) (a 70) ((xs 1)) k1 k2) goV_L_165 pd_X12_isRight ⟨(Nat.le_of_ble_eq_true rfl), (Nat.le_of_ble_eq_true rfl)⟩ ⟨(Nat.le_of_ble_eq_true rfl), (Nat.le_of_ble_eq_true rfl)⟩ (va_recv hK hP (ci := 15) (q0 := 0) rfl rfl) dL_law_885 rfl (Nat.le_of_ble_eq_true rfl) [0, 1] [] rfl (by decide) rfl (by decide) (by decide) (fun q => [((a 52), .inr (15, [.ref (a 53), .ref (a 54), .ref (a 55), .ref (a 56), .ref (a 57), .ref (a 58), .ref (a 59), .ref (a 60), .ref (a 61), .ref (a 62), .ref (a 63), .ref (a 64), .ref (a 65), .ref (a 66), .ref (a 67), .ref (a 68), .ref (a 69), .ref (a 70), .long 0, .int 1, .int 2, .int 0, .int 0, .int 0, .int 0, .int 0, .int 0])), ((a 55), .inr (2, [.int 0, .ref g.1, .int 0]))]) (fun _ => rfl) (fun q2 H locs hP hD hS => ?_)
  refine W.eq (g2 := F0 m 888 ls [.int 0]) rfl ?_
  refine lv_istore (lv' := [(7, .int 0), (6, .int 1), (5, .int 0), (4, .ref (a 72)), (3, .ref (a 71)), (2, .ref (a 52)), (1, .ref (a 0)), (0, .ref b)]) hx hb dL_law_888 hl (by decide) rfl (fun ls hl => ?_)
  refine lv_aload_n hx hb dL_law_890 rfl (lv_at hl 5 rfl) ?_
  refine ct_V (wr := []) hSF hl.1 hP hD hS hA hK hGV (c17_X12_thrown l hfl D cA g (a 52) (a 53) (a 54) (a 55) (a 56) (a 57) (a 58) (a 59) (a 60) (a 61) (a 62) (a 63) (a 64) (a 65) (a 66) (a 67) (a 68) (a 69) (a 70)) goV_L_125 pd_X12_thrown ⟨(Nat.le_of_ble_eq_true rfl), (Nat.le_of_ble_eq_true rfl)⟩ ⟨(Nat.le_of_ble_eq_true rfl), (Nat.le_of_ble_eq_true rfl)⟩ (va_recv hK hP (ci := 15) (q0 := 0) rfl rfl) dL_law_891 rfl (Nat.le_of_ble_eq_true rfl) [0] [] rfl (by decide) rfl (by decide) (by decide) (fun q => [((a 52), .inr (15, [.ref (a 53), .ref (a 54), .ref (a 55), .ref (a 56), .ref (a 57), .ref (a 58), .ref (a 59), .ref (a 60), .ref (a 61), .ref (a 62), .ref (a 63), .ref (a 64), .ref (a 65), .ref (a 66), .ref (a 67), .ref (a 68), .ref (a 69), .ref (a 70), .long 0, .int 1, .int 2, .int 0, .int 0, .int 0, .int 0, .int 0, .int 0]))]) (fun _ => rfl) (fun q3 H locs hP hD hS => ?_)
  refine W.eq (g2 := F0 m 894 ls [.int 1]) rfl ?_
  refine lv_iload hx hb dL_law_894 (lv_at hl 1 rfl) ?_
  refine k_icmp_eq_t (tgt := 901) hx hb dL_law_896 (by decide) (by decide) ?_
  refine lv_iload hx hb dL_law_901 (lv_at hl 1 rfl) ?_
  refine k_if_ne_t (tgt := 925) hx hb dL_law_903 (by decide) (by decide) ?_
  refine lv_goto (tgt := 1963) hx hb dL_law_925 (by decide) ?_
  exact law_tail l hL C0 (Nat.le_of_ble_eq_true rfl) (Nat.le_of_ble_eq_true rfl) hS (lv_sub hl [2, 7] rfl)
set_option maxHeartbeats 4000000 in
set_option maxRecDepth 100000 in
theorem lc_11_0 {p : Program} {e : Env} {s : State} {m : MethodId} {below : List Frame} {meth : Method} {c : Code} (l : Launch) (hfl : l.stackTraces = false) {b L : Nat} {xs : Nat → Int32} (hL : L = 6) (C0 : lw_At p s m meth c b L xs) (D : va_G) (cA : Nat → ClassId) (g : gv_T) (hK : va_K D vwCl (TYS cA) s) (hGV : GV g (fun q : Nat => s.heap.size ≤ q) s s.heap) (a : Nat → Nat) {H : Heap} {locs : List Loc} (hP : va_P D vwCl (WL cA g a) H) (hD : va_D (fun q : Nat => s.heap.size ≤ q) (WL cA g a)) (hS : va_S (fun q : Nat => s.heap.size ≤ q) s.heap H locs) {ls : Array Slot} (hl : lv_has ls 9 [(5, .int 0), (4, .ref (a 72)), (3, .ref (a 71)), (2, .ref (a 52)), (1, .ref (a 0)), (0, .ref b)]) (k0 : (xs 1) < 0) (k1 : (lg_cmp ((xs 1)).toInt64 0) < 0) : W p l e room_1 s m #[Value.ref b] below meth c H locs 73 8292 (lw_Z below #[Value.ref b] s) (F0 m 928 ls []) := by
  obtain ⟨hx, hb, hr, hml, hown, hts, hX, hbl, hlocks, hgv⟩ := id C0
  have hb : c.code = cL_law := hb
  have hown : s.vm.findClass RL = some m.cls := hown
  have hG : ∀ w ∈ GW, w.before #[Value.ref b] s = true := fun w hw => hts w (List.mem_filter.mp hw).1
  have hA : ∀ q : Nat, s.heap.size ≤ q → (fun q : Nat => s.heap.size ≤ q) q := fun _ h => h
  have hbA : ¬ (fun q : Nat => s.heap.size ≤ q) b := Nat.not_le.mpr hbl
  have hSF : CF p m c cL_law 9 s #[Value.ref b] RL := ⟨hx, hb, hml, hown, hG⟩
  have hP : va_P D vwCl [((a 0), .inr (9, [.ref (a 1), .ref (a 12), .ref (a 32), .ref (a 38), .ref (a 46)])), ((a 52), .inr (15, [.ref (a 53), .ref (a 54), .ref (a 55), .ref (a 56), .ref (a 57), .ref (a 58), .ref (a 59), .ref (a 60), .ref (a 61), .ref (a 62), .ref (a 63), .ref (a 64), .ref (a 65), .ref (a 66), .ref (a 67), .ref (a 68), .ref (a 69), .ref (a 70), .long 0, .int 0, .int 2, .int 0, .int 0, .int 0, .int 0, .int 0, .int 0])), ((a 55), .inr (2, [.int 0, .ref g.1, .int 0]))] H := hP.sub [0, 52, 55] rfl
  have hD : va_D (fun q : Nat => s.heap.size ≤ q) [((a 0), .inr (9, [.ref (a 1), .ref (a 12), .ref (a 32), .ref (a 38), .ref (a 46)])), ((a 52), .inr (15, [.ref (a 53), .ref (a 54), .ref (a 55), .ref (a 56), .ref (a 57), .ref (a 58), .ref (a 59), .ref (a 60), .ref (a 61), .ref (a 62), .ref (a 63), .ref (a 64), .ref (a 65), .ref (a 66), .ref (a 67), .ref (a 68), .ref (a 69), .ref (a 70), .long 0, .int 0, .int 2, .int 0, .int 0, .int 0, .int 0, .int 0, .int 0])), ((a 55), .inr (2, [.int 0, .ref g.1, .int 0]))] := hD.sub [0, 52, 55] (by decide) rfl
  have hl : lv_has ls 9 [(5, .int 0), (4, .ref (a 72)), (3, .ref (a 71)), (2, .ref (a 52)), (1, .ref (a 0)), (0, .ref b)] := hl
  refine lv_aload_n hx hb dL_law_928 rfl (lv_at hl 4 rfl) ?_
  refine lv_aload_n hx hb dL_law_929 rfl (lv_at hl 5 rfl) ?_
  refine lv_iload hx hb dL_law_930 (lv_at hl 0 rfl) ?_
  refine lv_iconst (v := 1) hx hb dL_law_932 (by decide) ?_
  refine k_iadd (v := 1) hx hb dL_law_933 (by decide) ?_
  refine k_script (x := (xs 1)) hx hb hX hbl hbA hS 1 (by decide) rfl (by subst hL; unfold vp_in; decide) dL_law_934 ?_
  refine lv_aload_n hx hb dL_law_935 rfl (lv_at hl 2 rfl) ?_
  refine ct_SW (wr := [((a 52), .inr (15, [.ref (a 53), .ref (a 54), .ref (a 55), .ref (a 56), .ref (a 57), .ref (a 58), .ref (a 59), .ref (a 60), .ref (a 61), .ref (a 62), .ref (a 63), .ref (a 64), .ref (a 65), .ref (a 66), .ref (a 67), .ref (a 68), .ref (a 69), .ref (a 70), .long 0, .int 0, .int 2, .int 0, .int 0, .int 0, .int 0, .int 0, .int 0])), ((a 55), .inr (2, [.int 0, .ref g.1, .int 0]))]) hSF hl.1 hP hD hS hA hK hGV (c192_L_misread l hfl D cA g (a 0) (a 71) (a 1) (a 12) (a 32) (a 38) (a 46) ((xs 1)) k0) goW_L_166 pd_L_misread.2 ⟨(Nat.le_of_ble_eq_true rfl), (Nat.le_of_ble_eq_true rfl)⟩ ⟨(Nat.le_of_ble_eq_true rfl), (Nat.le_of_ble_eq_true rfl)⟩ dL_law_936 rfl (Nat.le_of_ble_eq_true rfl) [0] [1, 2] rfl (by decide) rfl (by decide) (by decide) (fun q => [((a 52), .inr (15, [.ref (a 53), .ref (a 54), .ref (a 55), .ref (a 56), .ref (a 57), .ref (a 58), .ref (a 59), .ref (a 60), .ref (a 61), .ref (a 62), .ref (a 63), .ref (a 64), .ref (a 65), .ref (a 66), .ref (a 67), .ref (a 68), .ref (a 69), .ref (a 70), .long 0, .int 0, .int 2, .int 0, .int 0, .int 0, .int 0, .int 0, .int 0])), ((a 55), .inr (2, [.int 0, .ref g.1, .int 0])), ((a 0), .inr (9, [.ref (a 1), .ref (a 12), .ref (a 32), .ref (a 38), .ref (a 46)]))]) (fun _ => rfl) (fun q1 H locs hP hD hS => ?_)
  refine W.eq (g2 := F0 m 939 ls [.int 1]) rfl ?_
  refine lv_istore (lv' := [(6, .int 1), (5, .int 0), (4, .ref (a 72)), (3, .ref (a 71)), (2, .ref (a 52)), (1, .ref (a 0)), (0, .ref b)]) hx hb dL_law_939 hl (by decide) rfl (fun ls hl => ?_)
  refine lv_aload_n hx hb dL_law_941 rfl (lv_at hl 4 rfl) ?_
  refine lv_aload_n hx hb dL_law_942 rfl (lv_at hl 6 rfl) ?_
  refine lv_iload hx hb dL_law_943 (lv_at hl 1 rfl) ?_
  refine lv_iconst (v := 1) hx hb dL_law_945 (by decide) ?_
  refine k_iadd (v := 1) hx hb dL_law_946 (by decide) ?_
  refine k_script (x := (xs 1)) hx hb hX hbl hbA hS 1 (by decide) rfl (by subst hL; unfold vp_in; decide) dL_law_947 ?_
  refine ct_V (wr := []) hSF hl.1 hP hD hS hA hK hGV (c193_X12_misread l hfl D cA g (a 52) (a 53) (a 54) (a 55) (a 56) (a 57) (a 58) (a 59) (a 60) (a 61) (a 62) (a 63) (a 64) (a 65) (a 66) (a 67) (a 68) (a 69) (a 70) ((xs 1)) k1) goV_L_168 pd_X12_misread ⟨(Nat.le_of_ble_eq_true rfl), (Nat.le_of_ble_eq_true rfl)⟩ ⟨(Nat.le_of_ble_eq_true rfl), (Nat.le_of_ble_eq_true rfl)⟩ (va_recv hK hP (ci := 15) (q0 := 0) rfl rfl) dL_law_948 rfl (Nat.le_of_ble_eq_true rfl) [0, 1] [] rfl (by decide) rfl (by decide) (by decide) (fun q => [((a 52), .inr (15, [.ref (a 53), .ref (a 54), .ref (a 55), .ref (a 56), .ref (a 57), .ref (a 58), .ref (a 59), .ref (a 60), .ref (a 61), .ref (a 62), .ref (a 63), .ref (a 64), .ref (a 65), .ref (a 66), .ref (a 67), .ref (a 68), .ref (a 69), .ref (a 70), .long 0, .int 1, .int 2, .int 0, .int 0, .int 0, .int 0, .int 0, .int 0])), ((a 55), .inr (2, [.int 0, .ref g.1, .int 0]))]) (fun _ => rfl) (fun q2 H locs hP hD hS => ?_)
  refine W.eq (g2 := F0 m 951 ls [.int 0]) rfl ?_
  refine lv_istore (lv' := [(7, .int 0), (6, .int 1), (5, .int 0), (4, .ref (a 72)), (3, .ref (a 71)), (2, .ref (a 52)), (1, .ref (a 0)), (0, .ref b)]) hx hb dL_law_951 hl (by decide) rfl (fun ls hl => ?_)
  refine lv_aload_n hx hb dL_law_953 rfl (lv_at hl 5 rfl) ?_
  refine ct_V (wr := []) hSF hl.1 hP hD hS hA hK hGV (c17_X12_thrown l hfl D cA g (a 52) (a 53) (a 54) (a 55) (a 56) (a 57) (a 58) (a 59) (a 60) (a 61) (a 62) (a 63) (a 64) (a 65) (a 66) (a 67) (a 68) (a 69) (a 70)) goV_L_125 pd_X12_thrown ⟨(Nat.le_of_ble_eq_true rfl), (Nat.le_of_ble_eq_true rfl)⟩ ⟨(Nat.le_of_ble_eq_true rfl), (Nat.le_of_ble_eq_true rfl)⟩ (va_recv hK hP (ci := 15) (q0 := 0) rfl rfl) dL_law_954 rfl (Nat.le_of_ble_eq_true rfl) [0] [] rfl (by decide) rfl (by decide) (by decide) (fun q => [((a 52), .inr (15, [.ref (a 53), .ref (a 54), .ref (a 55), .ref (a 56), .ref (a 57), .ref (a 58), .ref (a 59), .ref (a 60), .ref (a 61), .ref (a 62), .ref (a 63), .ref (a 64), .ref (a 65), .ref (a 66), .ref (a 67), .ref (a 68), .ref (a 69), .ref (a 70), .long 0, .int 1, .int 2, .int 0, .int 0, .int 0, .int 0, .int 0, .int 0]))]) (fun _ => rfl) (fun q3 H locs hP hD hS => ?_)
  refine W.eq (g2 := F0 m 957 ls [.int 1]) rfl ?_
  refine lv_iload hx hb dL_law_957 (lv_at hl 1 rfl) ?_
  refine k_icmp_eq_t (tgt := 964) hx hb dL_law_959 (by decide) (by decide) ?_
  refine lv_iload hx hb dL_law_964 (lv_at hl 1 rfl) ?_
  refine k_if_ne_t (tgt := 981) hx hb dL_law_966 (by decide) (by decide) ?_
  refine lv_goto (tgt := 1963) hx hb dL_law_981 (by decide) ?_
  exact law_tail l hL C0 (Nat.le_of_ble_eq_true rfl) (Nat.le_of_ble_eq_true rfl) hS (lv_sub hl [2, 7] rfl)
set_option maxHeartbeats 4000000 in
set_option maxRecDepth 100000 in
theorem lc_11_1 {p : Program} {e : Env} {s : State} {m : MethodId} {below : List Frame} {meth : Method} {c : Code} (l : Launch) (hfl : l.stackTraces = false) {b L : Nat} {xs : Nat → Int32} (hL : L = 6) (C0 : lw_At p s m meth c b L xs) (D : va_G) (cA : Nat → ClassId) (g : gv_T) (hK : va_K D vwCl (TYS cA) s) (hGV : GV g (fun q : Nat => s.heap.size ≤ q) s s.heap) (a : Nat → Nat) {H : Heap} {locs : List Loc} (hP : va_P D vwCl (WL cA g a) H) (hD : va_D (fun q : Nat => s.heap.size ≤ q) (WL cA g a)) (hS : va_S (fun q : Nat => s.heap.size ≤ q) s.heap H locs) {ls : Array Slot} (hl : lv_has ls 9 [(5, .int 0), (4, .ref (a 72)), (3, .ref (a 71)), (2, .ref (a 52)), (1, .ref (a 0)), (0, .ref b)]) (k0 : ¬ (xs 1) < 0) (k1 : ¬ (lg_cmp ((xs 1)).toInt64 0) < 0) (k2 : 0 < (lg_cmp ((xs 1)).toInt64 (-1))) : W p l e room_1 s m #[Value.ref b] below meth c H locs 73 8292 (lw_Z below #[Value.ref b] s) (F0 m 928 ls []) := by
  obtain ⟨hx, hb, hr, hml, hown, hts, hX, hbl, hlocks, hgv⟩ := id C0
  have hb : c.code = cL_law := hb
  have hown : s.vm.findClass RL = some m.cls := hown
  have hG : ∀ w ∈ GW, w.before #[Value.ref b] s = true := fun w hw => hts w (List.mem_filter.mp hw).1
  have hA : ∀ q : Nat, s.heap.size ≤ q → (fun q : Nat => s.heap.size ≤ q) q := fun _ h => h
  have hbA : ¬ (fun q : Nat => s.heap.size ≤ q) b := Nat.not_le.mpr hbl
  have hSF : CF p m c cL_law 9 s #[Value.ref b] RL := ⟨hx, hb, hml, hown, hG⟩
  have hP : va_P D vwCl [((a 0), .inr (9, [.ref (a 1), .ref (a 12), .ref (a 32), .ref (a 38), .ref (a 46)])), ((a 32), .inr (6, [.int 0, .ref (a 33), .ref (a 34), .ref (a 35), .ref (a 36), .ref (a 37)])), ((a 52), .inr (15, [.ref (a 53), .ref (a 54), .ref (a 55), .ref (a 56), .ref (a 57), .ref (a 58), .ref (a 59), .ref (a 60), .ref (a 61), .ref (a 62), .ref (a 63), .ref (a 64), .ref (a 65), .ref (a 66), .ref (a 67), .ref (a 68), .ref (a 69), .ref (a 70), .long 0, .int 0, .int 2, .int 0, .int 0, .int 0, .int 0, .int 0, .int 0])), ((a 55), .inr (2, [.int 0, .ref g.1, .int 0]))] H := hP.sub [0, 32, 52, 55] rfl
  have hD : va_D (fun q : Nat => s.heap.size ≤ q) [((a 0), .inr (9, [.ref (a 1), .ref (a 12), .ref (a 32), .ref (a 38), .ref (a 46)])), ((a 32), .inr (6, [.int 0, .ref (a 33), .ref (a 34), .ref (a 35), .ref (a 36), .ref (a 37)])), ((a 52), .inr (15, [.ref (a 53), .ref (a 54), .ref (a 55), .ref (a 56), .ref (a 57), .ref (a 58), .ref (a 59), .ref (a 60), .ref (a 61), .ref (a 62), .ref (a 63), .ref (a 64), .ref (a 65), .ref (a 66), .ref (a 67), .ref (a 68), .ref (a 69), .ref (a 70), .long 0, .int 0, .int 2, .int 0, .int 0, .int 0, .int 0, .int 0, .int 0])), ((a 55), .inr (2, [.int 0, .ref g.1, .int 0]))] := hD.sub [0, 32, 52, 55] (by decide) rfl
  have hl : lv_has ls 9 [(5, .int 0), (4, .ref (a 72)), (3, .ref (a 71)), (2, .ref (a 52)), (1, .ref (a 0)), (0, .ref b)] := hl
  refine lv_aload_n hx hb dL_law_928 rfl (lv_at hl 4 rfl) ?_
  refine lv_aload_n hx hb dL_law_929 rfl (lv_at hl 5 rfl) ?_
  refine lv_iload hx hb dL_law_930 (lv_at hl 0 rfl) ?_
  refine lv_iconst (v := 1) hx hb dL_law_932 (by decide) ?_
  refine k_iadd (v := 1) hx hb dL_law_933 (by decide) ?_
  refine k_script (x := (xs 1)) hx hb hX hbl hbA hS 1 (by decide) rfl (by subst hL; unfold vp_in; decide) dL_law_934 ?_
  refine lv_aload_n hx hb dL_law_935 rfl (lv_at hl 2 rfl) ?_
  refine ct_SW (wr := [((a 52), .inr (15, [.ref (a 53), .ref (a 54), .ref (a 55), .ref (a 56), .ref (a 57), .ref (a 58), .ref (a 59), .ref (a 60), .ref (a 61), .ref (a 62), .ref (a 63), .ref (a 64), .ref (a 65), .ref (a 66), .ref (a 67), .ref (a 68), .ref (a 69), .ref (a 70), .long 0, .int 0, .int 2, .int 0, .int 0, .int 0, .int 0, .int 0, .int 0])), ((a 55), .inr (2, [.int 0, .ref g.1, .int 0]))]) hSF hl.1 hP hD hS hA hK hGV (c195_L_misread l hfl D cA g (a 0) (a 71) (a 1) (a 12) (a 32) (a 38) (a 46) (a 33) (a 34) (a 35) (a 36) (a 37) ((xs 1)) k0) goW_L_166 pd_L_misread.2 ⟨(Nat.le_of_ble_eq_true rfl), (Nat.le_of_ble_eq_true rfl)⟩ ⟨(Nat.le_of_ble_eq_true rfl), (Nat.le_of_ble_eq_true rfl)⟩ dL_law_936 rfl (Nat.le_of_ble_eq_true rfl) [0, 1] [2, 3] rfl (by decide) rfl (by decide) (by decide) (fun q => [((a 52), .inr (15, [.ref (a 53), .ref (a 54), .ref (a 55), .ref (a 56), .ref (a 57), .ref (a 58), .ref (a 59), .ref (a 60), .ref (a 61), .ref (a 62), .ref (a 63), .ref (a 64), .ref (a 65), .ref (a 66), .ref (a 67), .ref (a 68), .ref (a 69), .ref (a 70), .long 0, .int 0, .int 2, .int 0, .int 0, .int 0, .int 0, .int 0, .int 0])), ((a 55), .inr (2, [.int 0, .ref g.1, .int 0])), ((a 0), .inr (9, [.ref (a 1), .ref (a 12), .ref (a 32), .ref (a 38), .ref (a 46)])), ((a 32), .inr (6, [.int 0, .ref (a 33), .ref (a 34), .ref (a 35), .ref (a 36), .ref (a 37)]))]) (fun _ => rfl) (fun q1 H locs hP hD hS => ?_)
  refine W.eq (g2 := F0 m 939 ls [.int 1]) rfl ?_
  refine lv_istore (lv' := [(6, .int 1), (5, .int 0), (4, .ref (a 72)), (3, .ref (a 71)), (2, .ref (a 52)), (1, .ref (a 0)), (0, .ref b)]) hx hb dL_law_939 hl (by decide) rfl (fun ls hl => ?_)
  refine lv_aload_n hx hb dL_law_941 rfl (lv_at hl 4 rfl) ?_
  refine lv_aload_n hx hb dL_law_942 rfl (lv_at hl 6 rfl) ?_
  refine lv_iload hx hb dL_law_943 (lv_at hl 1 rfl) ?_
  refine lv_iconst (v := 1) hx hb dL_law_945 (by decide) ?_
  refine k_iadd (v := 1) hx hb dL_law_946 (by decide) ?_
  refine k_script (x := (xs 1)) hx hb hX hbl hbA hS 1 (by decide) rfl (by subst hL; unfold vp_in; decide) dL_law_947 ?_
  refine ct_V (wr := []) hSF hl.1 hP hD hS hA hK hGV (c196_X12_misread l hfl D cA g (a 52) (a 53) (a 54) (a 55) (a 56) (a 57) (a 58) (a 59) (a 60) (a 61) (a 62) (a 63) (a 64) (a 65) (a 66) (a 67) (a 68) (a 69) (a 70) ((xs 1)) k1 k2) goV_L_168 pd_X12_misread ⟨(Nat.le_of_ble_eq_true rfl), (Nat.le_of_ble_eq_true rfl)⟩ ⟨(Nat.le_of_ble_eq_true rfl), (Nat.le_of_ble_eq_true rfl)⟩ (va_recv hK hP (ci := 15) (q0 := 0) rfl rfl) dL_law_948 rfl (Nat.le_of_ble_eq_true rfl) [0, 1] [] rfl (by decide) rfl (by decide) (by decide) (fun q => [((a 52), .inr (15, [.ref (a 53), .ref (a 54), .ref (a 55), .ref (a 56), .ref (a 57), .ref (a 58), .ref (a 59), .ref (a 60), .ref (a 61), .ref (a 62), .ref (a 63), .ref (a 64), .ref (a 65), .ref (a 66), .ref (a 67), .ref (a 68), .ref (a 69), .ref (a 70), .long 0, .int 1, .int 2, .int 0, .int 0, .int 0, .int 0, .int 0, .int 0])), ((a 55), .inr (2, [.int 0, .ref g.1, .int 0]))]) (fun _ => rfl) (fun q2 H locs hP hD hS => ?_)
  refine W.eq (g2 := F0 m 951 ls [.int 0]) rfl ?_
  refine lv_istore (lv' := [(7, .int 0), (6, .int 1), (5, .int 0), (4, .ref (a 72)), (3, .ref (a 71)), (2, .ref (a 52)), (1, .ref (a 0)), (0, .ref b)]) hx hb dL_law_951 hl (by decide) rfl (fun ls hl => ?_)
  refine lv_aload_n hx hb dL_law_953 rfl (lv_at hl 5 rfl) ?_
  refine ct_V (wr := []) hSF hl.1 hP hD hS hA hK hGV (c17_X12_thrown l hfl D cA g (a 52) (a 53) (a 54) (a 55) (a 56) (a 57) (a 58) (a 59) (a 60) (a 61) (a 62) (a 63) (a 64) (a 65) (a 66) (a 67) (a 68) (a 69) (a 70)) goV_L_125 pd_X12_thrown ⟨(Nat.le_of_ble_eq_true rfl), (Nat.le_of_ble_eq_true rfl)⟩ ⟨(Nat.le_of_ble_eq_true rfl), (Nat.le_of_ble_eq_true rfl)⟩ (va_recv hK hP (ci := 15) (q0 := 0) rfl rfl) dL_law_954 rfl (Nat.le_of_ble_eq_true rfl) [0] [] rfl (by decide) rfl (by decide) (by decide) (fun q => [((a 52), .inr (15, [.ref (a 53), .ref (a 54), .ref (a 55), .ref (a 56), .ref (a 57), .ref (a 58), .ref (a 59), .ref (a 60), .ref (a 61), .ref (a 62), .ref (a 63), .ref (a 64), .ref (a 65), .ref (a 66), .ref (a 67), .ref (a 68), .ref (a 69), .ref (a 70), .long 0, .int 1, .int 2, .int 0, .int 0, .int 0, .int 0, .int 0, .int 0]))]) (fun _ => rfl) (fun q3 H locs hP hD hS => ?_)
  refine W.eq (g2 := F0 m 957 ls [.int 1]) rfl ?_
  refine lv_iload hx hb dL_law_957 (lv_at hl 1 rfl) ?_
  refine k_icmp_eq_t (tgt := 964) hx hb dL_law_959 (by decide) (by decide) ?_
  refine lv_iload hx hb dL_law_964 (lv_at hl 1 rfl) ?_
  refine k_if_ne_t (tgt := 981) hx hb dL_law_966 (by decide) (by decide) ?_
  refine lv_goto (tgt := 1963) hx hb dL_law_981 (by decide) ?_
  exact law_tail l hL C0 (Nat.le_of_ble_eq_true rfl) (Nat.le_of_ble_eq_true rfl) hS (lv_sub hl [2, 7] rfl)
set_option maxHeartbeats 4000000 in
set_option maxRecDepth 100000 in
theorem lc_12_0 {p : Program} {e : Env} {s : State} {m : MethodId} {below : List Frame} {meth : Method} {c : Code} (l : Launch) (hfl : l.stackTraces = false) {b L : Nat} {xs : Nat → Int32} (hL : L = 6) (C0 : lw_At p s m meth c b L xs) (D : va_G) (cA : Nat → ClassId) (g : gv_T) (hK : va_K D vwCl (TYS cA) s) (hGV : GV g (fun q : Nat => s.heap.size ≤ q) s s.heap) (a : Nat → Nat) {H : Heap} {locs : List Loc} (hP : va_P D vwCl (WL cA g a) H) (hD : va_D (fun q : Nat => s.heap.size ≤ q) (WL cA g a)) (hS : va_S (fun q : Nat => s.heap.size ≤ q) s.heap H locs) {ls : Array Slot} (hl : lv_has ls 9 [(5, .int 0), (4, .ref (a 72)), (3, .ref (a 71)), (2, .ref (a 52)), (1, .ref (a 0)), (0, .ref b)]) : W p l e room_1 s m #[Value.ref b] below meth c H locs 73 8292 (lw_Z below #[Value.ref b] s) (F0 m 984 ls []) := by
  obtain ⟨hx, hb, hr, hml, hown, hts, hX, hbl, hlocks, hgv⟩ := id C0
  have hb : c.code = cL_law := hb
  have hown : s.vm.findClass RL = some m.cls := hown
  have hG : ∀ w ∈ GW, w.before #[Value.ref b] s = true := fun w hw => hts w (List.mem_filter.mp hw).1
  have hA : ∀ q : Nat, s.heap.size ≤ q → (fun q : Nat => s.heap.size ≤ q) q := fun _ h => h
  have hbA : ¬ (fun q : Nat => s.heap.size ≤ q) b := Nat.not_le.mpr hbl
  have hSF : CF p m c cL_law 9 s #[Value.ref b] RL := ⟨hx, hb, hml, hown, hG⟩
  have hP : va_P D vwCl [((a 0), .inr (9, [.ref (a 1), .ref (a 12), .ref (a 32), .ref (a 38), .ref (a 46)])), ((a 32), .inr (6, [.int 0, .ref (a 33), .ref (a 34), .ref (a 35), .ref (a 36), .ref (a 37)])), ((a 52), .inr (15, [.ref (a 53), .ref (a 54), .ref (a 55), .ref (a 56), .ref (a 57), .ref (a 58), .ref (a 59), .ref (a 60), .ref (a 61), .ref (a 62), .ref (a 63), .ref (a 64), .ref (a 65), .ref (a 66), .ref (a 67), .ref (a 68), .ref (a 69), .ref (a 70), .long 0, .int 0, .int 2, .int 0, .int 0, .int 0, .int 0, .int 0, .int 0])), ((a 55), .inr (2, [.int 0, .ref g.1, .int 0]))] H := hP.sub [0, 32, 52, 55] rfl
  have hD : va_D (fun q : Nat => s.heap.size ≤ q) [((a 0), .inr (9, [.ref (a 1), .ref (a 12), .ref (a 32), .ref (a 38), .ref (a 46)])), ((a 32), .inr (6, [.int 0, .ref (a 33), .ref (a 34), .ref (a 35), .ref (a 36), .ref (a 37)])), ((a 52), .inr (15, [.ref (a 53), .ref (a 54), .ref (a 55), .ref (a 56), .ref (a 57), .ref (a 58), .ref (a 59), .ref (a 60), .ref (a 61), .ref (a 62), .ref (a 63), .ref (a 64), .ref (a 65), .ref (a 66), .ref (a 67), .ref (a 68), .ref (a 69), .ref (a 70), .long 0, .int 0, .int 2, .int 0, .int 0, .int 0, .int 0, .int 0, .int 0])), ((a 55), .inr (2, [.int 0, .ref g.1, .int 0]))] := hD.sub [0, 32, 52, 55] (by decide) rfl
  have hl : lv_has ls 9 [(5, .int 0), (4, .ref (a 72)), (3, .ref (a 71)), (2, .ref (a 52)), (1, .ref (a 0)), (0, .ref b)] := hl
  refine lv_aload_n hx hb dL_law_984 rfl (lv_at hl 4 rfl) ?_
  refine ct_V (wr := [((a 52), .inr (15, [.ref (a 53), .ref (a 54), .ref (a 55), .ref (a 56), .ref (a 57), .ref (a 58), .ref (a 59), .ref (a 60), .ref (a 61), .ref (a 62), .ref (a 63), .ref (a 64), .ref (a 65), .ref (a 66), .ref (a 67), .ref (a 68), .ref (a 69), .ref (a 70), .long 0, .int 0, .int 2, .int 0, .int 0, .int 0, .int 0, .int 0, .int 0])), ((a 55), .inr (2, [.int 0, .ref g.1, .int 0]))]) hSF hl.1 hP hD hS hA hK hGV (c197_X6_clashes l hfl D cA g (a 0) (a 1) (a 12) (a 32) (a 38) (a 46) (a 33) (a 34) (a 35) (a 36) (a 37)) goV_L_169 pd_X6_clashes ⟨(Nat.le_of_ble_eq_true rfl), (Nat.le_of_ble_eq_true rfl)⟩ ⟨(Nat.le_of_ble_eq_true rfl), (Nat.le_of_ble_eq_true rfl)⟩ (va_recv hK hP (ci := 9) (q0 := 0) rfl rfl) dL_law_985 rfl (Nat.le_of_ble_eq_true rfl) [0, 1] [2, 3] rfl (by decide) rfl (by decide) (by decide) (fun q => [((a 52), .inr (15, [.ref (a 53), .ref (a 54), .ref (a 55), .ref (a 56), .ref (a 57), .ref (a 58), .ref (a 59), .ref (a 60), .ref (a 61), .ref (a 62), .ref (a 63), .ref (a 64), .ref (a 65), .ref (a 66), .ref (a 67), .ref (a 68), .ref (a 69), .ref (a 70), .long 0, .int 0, .int 2, .int 0, .int 0, .int 0, .int 0, .int 0, .int 0])), ((a 55), .inr (2, [.int 0, .ref g.1, .int 0])), ((a 0), .inr (9, [.ref (a 1), .ref (a 12), .ref (a 32), .ref (a 38), .ref (a 46)])), ((a 32), .inr (6, [.int 0, .ref (a 33), .ref (a 34), .ref (a 35), .ref (a 36), .ref (a 37)]))]) (fun _ => rfl) (fun q1 H locs hP hD hS => ?_)
  refine W.eq (g2 := F0 m 988 ls [.int 0]) rfl ?_
  refine lv_aload_n hx hb dL_law_988 rfl (lv_at hl 3 rfl) ?_
  refine ct_V (wr := []) hSF hl.1 hP hD hS hA hK hGV (c198_X12_clashes l hfl D cA g (a 52) (a 53) (a 54) (a 55) (a 56) (a 57) (a 58) (a 59) (a 60) (a 61) (a 62) (a 63) (a 64) (a 65) (a 66) (a 67) (a 68) (a 69) (a 70)) goV_L_172 pd_X12_clashes ⟨(Nat.le_of_ble_eq_true rfl), (Nat.le_of_ble_eq_true rfl)⟩ ⟨(Nat.le_of_ble_eq_true rfl), (Nat.le_of_ble_eq_true rfl)⟩ (va_recv hK hP (ci := 15) (q0 := 0) rfl rfl) dL_law_989 rfl (Nat.le_of_ble_eq_true rfl) [0, 1] [] rfl (by decide) rfl (by decide) (by decide) (fun q => [((a 52), .inr (15, [.ref (a 53), .ref (a 54), .ref (a 55), .ref (a 56), .ref (a 57), .ref (a 58), .ref (a 59), .ref (a 60), .ref (a 61), .ref (a 62), .ref (a 63), .ref (a 64), .ref (a 65), .ref (a 66), .ref (a 67), .ref (a 68), .ref (a 69), .ref (a 70), .long 0, .int 0, .int 2, .int 0, .int 0, .int 0, .int 0, .int 0, .int 0])), ((a 55), .inr (2, [.int 0, .ref g.1, .int 0]))]) (fun _ => rfl) (fun q2 H locs hP hD hS => ?_)
  refine W.eq (g2 := F0 m 992 ls [.int 0, .int 0]) rfl ?_
  refine k_icmp_eq_t (tgt := 1963) hx hb dL_law_992 (by decide) (by decide) ?_
  exact law_tail l hL C0 (Nat.le_of_ble_eq_true rfl) (Nat.le_of_ble_eq_true rfl) hS (lv_sub hl [0, 5] rfl)
set_option maxHeartbeats 4000000 in
set_option maxRecDepth 100000 in
theorem lc_13_0 {p : Program} {e : Env} {s : State} {m : MethodId} {below : List Frame} {meth : Method} {c : Code} (l : Launch) (hfl : l.stackTraces = false) {b L : Nat} {xs : Nat → Int32} (hL : L = 6) (C0 : lw_At p s m meth c b L xs) (D : va_G) (cA : Nat → ClassId) (g : gv_T) (hK : va_K D vwCl (TYS cA) s) (hGV : GV g (fun q : Nat => s.heap.size ≤ q) s s.heap) (a : Nat → Nat) {H : Heap} {locs : List Loc} (hP : va_P D vwCl (WL cA g a) H) (hD : va_D (fun q : Nat => s.heap.size ≤ q) (WL cA g a)) (hS : va_S (fun q : Nat => s.heap.size ≤ q) s.heap H locs) {ls : Array Slot} (hl : lv_has ls 9 [(5, .int 0), (4, .ref (a 72)), (3, .ref (a 71)), (2, .ref (a 52)), (1, .ref (a 0)), (0, .ref b)]) (k0 : (xs 1) < 0) (k1 : (lg_cmp ((xs 1)).toInt64 0) < 0) : W p l e room_1 s m #[Value.ref b] below meth c H locs 73 8292 (lw_Z below #[Value.ref b] s) (F0 m 997 ls []) := by
  obtain ⟨hx, hb, hr, hml, hown, hts, hX, hbl, hlocks, hgv⟩ := id C0
  have hb : c.code = cL_law := hb
  have hown : s.vm.findClass RL = some m.cls := hown
  have hG : ∀ w ∈ GW, w.before #[Value.ref b] s = true := fun w hw => hts w (List.mem_filter.mp hw).1
  have hA : ∀ q : Nat, s.heap.size ≤ q → (fun q : Nat => s.heap.size ≤ q) q := fun _ h => h
  have hbA : ¬ (fun q : Nat => s.heap.size ≤ q) b := Nat.not_le.mpr hbl
  have hSF : CF p m c cL_law 9 s #[Value.ref b] RL := ⟨hx, hb, hml, hown, hG⟩
  have hP : va_P D vwCl [((a 0), .inr (9, [.ref (a 1), .ref (a 12), .ref (a 32), .ref (a 38), .ref (a 46)])), ((a 52), .inr (15, [.ref (a 53), .ref (a 54), .ref (a 55), .ref (a 56), .ref (a 57), .ref (a 58), .ref (a 59), .ref (a 60), .ref (a 61), .ref (a 62), .ref (a 63), .ref (a 64), .ref (a 65), .ref (a 66), .ref (a 67), .ref (a 68), .ref (a 69), .ref (a 70), .long 0, .int 0, .int 2, .int 0, .int 0, .int 0, .int 0, .int 0, .int 0])), ((a 54), .inr (2, [.int 0, .ref g.1, .int 0]))] H := hP.sub [0, 52, 54] rfl
  have hD : va_D (fun q : Nat => s.heap.size ≤ q) [((a 0), .inr (9, [.ref (a 1), .ref (a 12), .ref (a 32), .ref (a 38), .ref (a 46)])), ((a 52), .inr (15, [.ref (a 53), .ref (a 54), .ref (a 55), .ref (a 56), .ref (a 57), .ref (a 58), .ref (a 59), .ref (a 60), .ref (a 61), .ref (a 62), .ref (a 63), .ref (a 64), .ref (a 65), .ref (a 66), .ref (a 67), .ref (a 68), .ref (a 69), .ref (a 70), .long 0, .int 0, .int 2, .int 0, .int 0, .int 0, .int 0, .int 0, .int 0])), ((a 54), .inr (2, [.int 0, .ref g.1, .int 0]))] := hD.sub [0, 52, 54] (by decide) rfl
  have hl : lv_has ls 9 [(5, .int 0), (4, .ref (a 72)), (3, .ref (a 71)), (2, .ref (a 52)), (1, .ref (a 0)), (0, .ref b)] := hl
  refine lv_aload_n hx hb dL_law_997 rfl (lv_at hl 4 rfl) ?_
  refine lv_aload_n hx hb dL_law_998 rfl (lv_at hl 5 rfl) ?_
  refine lv_iload hx hb dL_law_999 (lv_at hl 0 rfl) ?_
  refine lv_iconst (v := 1) hx hb dL_law_1001 (by decide) ?_
  refine k_iadd (v := 1) hx hb dL_law_1002 (by decide) ?_
  refine k_script (x := (xs 1)) hx hb hX hbl hbA hS 1 (by decide) rfl (by subst hL; unfold vp_in; decide) dL_law_1003 ?_
  refine lv_aload_n hx hb dL_law_1004 rfl (lv_at hl 5 rfl) ?_
  refine lv_iload hx hb dL_law_1005 (lv_at hl 0 rfl) ?_
  refine lv_iconst (v := 2) hx hb dL_law_1007 (by decide) ?_
  refine k_iadd (v := 2) hx hb dL_law_1008 (by decide) ?_
  refine k_script (x := (xs 2)) hx hb hX hbl hbA hS 2 (by decide) rfl (by subst hL; unfold vp_in; decide) dL_law_1009 ?_
  refine lv_aload_n hx hb dL_law_1010 rfl (lv_at hl 2 rfl) ?_
  refine ct_SW (wr := [((a 52), .inr (15, [.ref (a 53), .ref (a 54), .ref (a 55), .ref (a 56), .ref (a 57), .ref (a 58), .ref (a 59), .ref (a 60), .ref (a 61), .ref (a 62), .ref (a 63), .ref (a 64), .ref (a 65), .ref (a 66), .ref (a 67), .ref (a 68), .ref (a 69), .ref (a 70), .long 0, .int 0, .int 2, .int 0, .int 0, .int 0, .int 0, .int 0, .int 0])), ((a 54), .inr (2, [.int 0, .ref g.1, .int 0]))]) hSF hl.1 hP hD hS hA hK hGV (c200_L_cutAt l hfl D cA g (a 0) (a 71) (a 1) (a 12) (a 32) (a 38) (a 46) ((xs 1)) ((xs 2)) k0) goW_L_173 pd_L_cutAt.2 ⟨(Nat.le_of_ble_eq_true rfl), (Nat.le_of_ble_eq_true rfl)⟩ ⟨(Nat.le_of_ble_eq_true rfl), (Nat.le_of_ble_eq_true rfl)⟩ dL_law_1011 rfl (Nat.le_of_ble_eq_true rfl) [0] [1, 2] rfl (by decide) rfl (by decide) (by decide) (fun q => [((a 52), .inr (15, [.ref (a 53), .ref (a 54), .ref (a 55), .ref (a 56), .ref (a 57), .ref (a 58), .ref (a 59), .ref (a 60), .ref (a 61), .ref (a 62), .ref (a 63), .ref (a 64), .ref (a 65), .ref (a 66), .ref (a 67), .ref (a 68), .ref (a 69), .ref (a 70), .long 0, .int 0, .int 2, .int 0, .int 0, .int 0, .int 0, .int 0, .int 0])), ((a 54), .inr (2, [.int 0, .ref g.1, .int 0])), ((a 0), .inr (9, [.ref (a 1), .ref (a 12), .ref (a 32), .ref (a 38), .ref (a 46)]))]) (fun _ => rfl) (fun q1 H locs hP hD hS => ?_)
  refine W.eq (g2 := F0 m 1014 ls [.int 1]) rfl ?_
  refine lv_istore (lv' := [(6, .int 1), (5, .int 0), (4, .ref (a 72)), (3, .ref (a 71)), (2, .ref (a 52)), (1, .ref (a 0)), (0, .ref b)]) hx hb dL_law_1014 hl (by decide) rfl (fun ls hl => ?_)
  refine lv_aload_n hx hb dL_law_1016 rfl (lv_at hl 4 rfl) ?_
  refine lv_aload_n hx hb dL_law_1017 rfl (lv_at hl 6 rfl) ?_
  refine lv_iload hx hb dL_law_1018 (lv_at hl 1 rfl) ?_
  refine lv_iconst (v := 1) hx hb dL_law_1020 (by decide) ?_
  refine k_iadd (v := 1) hx hb dL_law_1021 (by decide) ?_
  refine k_script (x := (xs 1)) hx hb hX hbl hbA hS 1 (by decide) rfl (by subst hL; unfold vp_in; decide) dL_law_1022 ?_
  refine lv_aload_n hx hb dL_law_1023 rfl (lv_at hl 6 rfl) ?_
  refine lv_iload hx hb dL_law_1024 (lv_at hl 1 rfl) ?_
  refine lv_iconst (v := 2) hx hb dL_law_1026 (by decide) ?_
  refine k_iadd (v := 2) hx hb dL_law_1027 (by decide) ?_
  refine k_script (x := (xs 2)) hx hb hX hbl hbA hS 2 (by decide) rfl (by subst hL; unfold vp_in; decide) dL_law_1028 ?_
  refine ct_V (wr := []) hSF hl.1 hP hD hS hA hK hGV (c201_X12_cutAt l hfl D cA g (a 52) (a 53) (a 54) (a 55) (a 56) (a 57) (a 58) (a 59) (a 60) (a 61) (a 62) (a 63) (a 64) (a 65) (a 66) (a 67) (a 68) (a 69) (a 70) ((xs 1)) ((xs 2)) k1) goV_L_176 pd_X12_cutAt ⟨(Nat.le_of_ble_eq_true rfl), (Nat.le_of_ble_eq_true rfl)⟩ ⟨(Nat.le_of_ble_eq_true rfl), (Nat.le_of_ble_eq_true rfl)⟩ (va_recv hK hP (ci := 15) (q0 := 0) rfl rfl) dL_law_1029 rfl (Nat.le_of_ble_eq_true rfl) [0, 1] [] rfl (by decide) rfl (by decide) (by decide) (fun q => [((a 52), .inr (15, [.ref (a 53), .ref (a 54), .ref (a 55), .ref (a 56), .ref (a 57), .ref (a 58), .ref (a 59), .ref (a 60), .ref (a 61), .ref (a 62), .ref (a 63), .ref (a 64), .ref (a 65), .ref (a 66), .ref (a 67), .ref (a 68), .ref (a 69), .ref (a 70), .long 0, .int 1, .int 2, .int 0, .int 0, .int 0, .int 0, .int 0, .int 0])), ((a 54), .inr (2, [.int 0, .ref g.1, .int 0]))]) (fun _ => rfl) (fun q2 H locs hP hD hS => ?_)
  refine W.eq (g2 := F0 m 1032 ls [.int 0]) rfl ?_
  refine lv_istore (lv' := [(7, .int 0), (6, .int 1), (5, .int 0), (4, .ref (a 72)), (3, .ref (a 71)), (2, .ref (a 52)), (1, .ref (a 0)), (0, .ref b)]) hx hb dL_law_1032 hl (by decide) rfl (fun ls hl => ?_)
  refine lv_aload_n hx hb dL_law_1034 rfl (lv_at hl 5 rfl) ?_
  refine ct_V (wr := []) hSF hl.1 hP hD hS hA hK hGV (c17_X12_thrown l hfl D cA g (a 52) (a 53) (a 54) (a 55) (a 56) (a 57) (a 58) (a 59) (a 60) (a 61) (a 62) (a 63) (a 64) (a 65) (a 66) (a 67) (a 68) (a 69) (a 70)) goV_L_125 pd_X12_thrown ⟨(Nat.le_of_ble_eq_true rfl), (Nat.le_of_ble_eq_true rfl)⟩ ⟨(Nat.le_of_ble_eq_true rfl), (Nat.le_of_ble_eq_true rfl)⟩ (va_recv hK hP (ci := 15) (q0 := 0) rfl rfl) dL_law_1035 rfl (Nat.le_of_ble_eq_true rfl) [0] [] rfl (by decide) rfl (by decide) (by decide) (fun q => [((a 52), .inr (15, [.ref (a 53), .ref (a 54), .ref (a 55), .ref (a 56), .ref (a 57), .ref (a 58), .ref (a 59), .ref (a 60), .ref (a 61), .ref (a 62), .ref (a 63), .ref (a 64), .ref (a 65), .ref (a 66), .ref (a 67), .ref (a 68), .ref (a 69), .ref (a 70), .long 0, .int 1, .int 2, .int 0, .int 0, .int 0, .int 0, .int 0, .int 0]))]) (fun _ => rfl) (fun q3 H locs hP hD hS => ?_)
  refine W.eq (g2 := F0 m 1038 ls [.int 1]) rfl ?_
  refine lv_iload hx hb dL_law_1038 (lv_at hl 1 rfl) ?_
  refine k_icmp_eq_t (tgt := 1045) hx hb dL_law_1040 (by decide) (by decide) ?_
  refine lv_iload hx hb dL_law_1045 (lv_at hl 1 rfl) ?_
  refine k_if_ne_t (tgt := 1062) hx hb dL_law_1047 (by decide) (by decide) ?_
  refine lv_goto (tgt := 1963) hx hb dL_law_1062 (by decide) ?_
  exact law_tail l hL C0 (Nat.le_of_ble_eq_true rfl) (Nat.le_of_ble_eq_true rfl) hS (lv_sub hl [2, 7] rfl)
set_option maxHeartbeats 4000000 in
set_option maxRecDepth 100000 in
theorem lc_13_1 {p : Program} {e : Env} {s : State} {m : MethodId} {below : List Frame} {meth : Method} {c : Code} (l : Launch) (hfl : l.stackTraces = false) {b L : Nat} {xs : Nat → Int32} (hL : L = 6) (C0 : lw_At p s m meth c b L xs) (D : va_G) (cA : Nat → ClassId) (g : gv_T) (hK : va_K D vwCl (TYS cA) s) (hGV : GV g (fun q : Nat => s.heap.size ≤ q) s s.heap) (a : Nat → Nat) {H : Heap} {locs : List Loc} (hP : va_P D vwCl (WL cA g a) H) (hD : va_D (fun q : Nat => s.heap.size ≤ q) (WL cA g a)) (hS : va_S (fun q : Nat => s.heap.size ≤ q) s.heap H locs) {ls : Array Slot} (hl : lv_has ls 9 [(5, .int 0), (4, .ref (a 72)), (3, .ref (a 71)), (2, .ref (a 52)), (1, .ref (a 0)), (0, .ref b)]) (k0 : ¬ (xs 1) < 0) (k1 : ¬ (lg_cmp ((xs 1)).toInt64 0) < 0) (k2 : 0 < (lg_cmp ((xs 1)).toInt64 (-1))) : W p l e room_1 s m #[Value.ref b] below meth c H locs 73 8292 (lw_Z below #[Value.ref b] s) (F0 m 997 ls []) := by
  obtain ⟨hx, hb, hr, hml, hown, hts, hX, hbl, hlocks, hgv⟩ := id C0
  have hb : c.code = cL_law := hb
  have hown : s.vm.findClass RL = some m.cls := hown
  have hG : ∀ w ∈ GW, w.before #[Value.ref b] s = true := fun w hw => hts w (List.mem_filter.mp hw).1
  have hA : ∀ q : Nat, s.heap.size ≤ q → (fun q : Nat => s.heap.size ≤ q) q := fun _ h => h
  have hbA : ¬ (fun q : Nat => s.heap.size ≤ q) b := Nat.not_le.mpr hbl
  have hSF : CF p m c cL_law 9 s #[Value.ref b] RL := ⟨hx, hb, hml, hown, hG⟩
  have hP : va_P D vwCl [((a 0), .inr (9, [.ref (a 1), .ref (a 12), .ref (a 32), .ref (a 38), .ref (a 46)])), ((a 1), .inr (5, [.int 0, .int 0, .ref (a 2), .ref (a 3), .ref (a 4), .ref (a 5), .ref (a 6), .ref (a 7), .ref (a 8), .ref (a 9), .ref (a 10), .ref (a 11)])), ((a 52), .inr (15, [.ref (a 53), .ref (a 54), .ref (a 55), .ref (a 56), .ref (a 57), .ref (a 58), .ref (a 59), .ref (a 60), .ref (a 61), .ref (a 62), .ref (a 63), .ref (a 64), .ref (a 65), .ref (a 66), .ref (a 67), .ref (a 68), .ref (a 69), .ref (a 70), .long 0, .int 0, .int 2, .int 0, .int 0, .int 0, .int 0, .int 0, .int 0])), ((a 54), .inr (2, [.int 0, .ref g.1, .int 0]))] H := hP.sub [0, 1, 52, 54] rfl
  have hD : va_D (fun q : Nat => s.heap.size ≤ q) [((a 0), .inr (9, [.ref (a 1), .ref (a 12), .ref (a 32), .ref (a 38), .ref (a 46)])), ((a 1), .inr (5, [.int 0, .int 0, .ref (a 2), .ref (a 3), .ref (a 4), .ref (a 5), .ref (a 6), .ref (a 7), .ref (a 8), .ref (a 9), .ref (a 10), .ref (a 11)])), ((a 52), .inr (15, [.ref (a 53), .ref (a 54), .ref (a 55), .ref (a 56), .ref (a 57), .ref (a 58), .ref (a 59), .ref (a 60), .ref (a 61), .ref (a 62), .ref (a 63), .ref (a 64), .ref (a 65), .ref (a 66), .ref (a 67), .ref (a 68), .ref (a 69), .ref (a 70), .long 0, .int 0, .int 2, .int 0, .int 0, .int 0, .int 0, .int 0, .int 0])), ((a 54), .inr (2, [.int 0, .ref g.1, .int 0]))] := hD.sub [0, 1, 52, 54] (by decide) rfl
  have hl : lv_has ls 9 [(5, .int 0), (4, .ref (a 72)), (3, .ref (a 71)), (2, .ref (a 52)), (1, .ref (a 0)), (0, .ref b)] := hl
  refine lv_aload_n hx hb dL_law_997 rfl (lv_at hl 4 rfl) ?_
  refine lv_aload_n hx hb dL_law_998 rfl (lv_at hl 5 rfl) ?_
  refine lv_iload hx hb dL_law_999 (lv_at hl 0 rfl) ?_
  refine lv_iconst (v := 1) hx hb dL_law_1001 (by decide) ?_
  refine k_iadd (v := 1) hx hb dL_law_1002 (by decide) ?_
  refine k_script (x := (xs 1)) hx hb hX hbl hbA hS 1 (by decide) rfl (by subst hL; unfold vp_in; decide) dL_law_1003 ?_
  refine lv_aload_n hx hb dL_law_1004 rfl (lv_at hl 5 rfl) ?_
  refine lv_iload hx hb dL_law_1005 (lv_at hl 0 rfl) ?_
  refine lv_iconst (v := 2) hx hb dL_law_1007 (by decide) ?_
  refine k_iadd (v := 2) hx hb dL_law_1008 (by decide) ?_
  refine k_script (x := (xs 2)) hx hb hX hbl hbA hS 2 (by decide) rfl (by subst hL; unfold vp_in; decide) dL_law_1009 ?_
  refine lv_aload_n hx hb dL_law_1010 rfl (lv_at hl 2 rfl) ?_
  refine ct_SW (wr := [((a 52), .inr (15, [.ref (a 53), .ref (a 54), .ref (a 55), .ref (a 56), .ref (a 57), .ref (a 58), .ref (a 59), .ref (a 60), .ref (a 61), .ref (a 62), .ref (a 63), .ref (a 64), .ref (a 65), .ref (a 66), .ref (a 67), .ref (a 68), .ref (a 69), .ref (a 70), .long 0, .int 0, .int 2, .int 0, .int 0, .int 0, .int 0, .int 0, .int 0])), ((a 54), .inr (2, [.int 0, .ref g.1, .int 0]))]) hSF hl.1 hP hD hS hA hK hGV (c203_L_cutAt l hfl D cA g (a 0) (a 71) (a 1) (a 12) (a 32) (a 38) (a 46) (a 2) (a 3) (a 4) (a 5) (a 6) (a 7) (a 8) (a 9) (a 10) (a 11) ((xs 1)) ((xs 2)) k0) goW_L_173 pd_L_cutAt.2 ⟨(Nat.le_of_ble_eq_true rfl), (Nat.le_of_ble_eq_true rfl)⟩ ⟨(Nat.le_of_ble_eq_true rfl), (Nat.le_of_ble_eq_true rfl)⟩ dL_law_1011 rfl (Nat.le_of_ble_eq_true rfl) [0, 1] [2, 3] rfl (by decide) rfl (by decide) (by decide) (fun q => [((a 52), .inr (15, [.ref (a 53), .ref (a 54), .ref (a 55), .ref (a 56), .ref (a 57), .ref (a 58), .ref (a 59), .ref (a 60), .ref (a 61), .ref (a 62), .ref (a 63), .ref (a 64), .ref (a 65), .ref (a 66), .ref (a 67), .ref (a 68), .ref (a 69), .ref (a 70), .long 0, .int 0, .int 2, .int 0, .int 0, .int 0, .int 0, .int 0, .int 0])), ((a 54), .inr (2, [.int 0, .ref g.1, .int 0])), ((a 0), .inr (9, [.ref (a 1), .ref (a 12), .ref (a 32), .ref (a 38), .ref (a 46)])), ((a 1), .inr (5, [.int 0, .int 0, .ref (a 2), .ref (a 3), .ref (a 4), .ref (a 5), .ref (a 6), .ref (a 7), .ref (a 8), .ref (a 9), .ref (a 10), .ref (a 11)]))]) (fun _ => rfl) (fun q1 H locs hP hD hS => ?_)
  refine W.eq (g2 := F0 m 1014 ls [.int 1]) rfl ?_
  refine lv_istore (lv' := [(6, .int 1), (5, .int 0), (4, .ref (a 72)), (3, .ref (a 71)), (2, .ref (a 52)), (1, .ref (a 0)), (0, .ref b)]) hx hb dL_law_1014 hl (by decide) rfl (fun ls hl => ?_)
  refine lv_aload_n hx hb dL_law_1016 rfl (lv_at hl 4 rfl) ?_
  refine lv_aload_n hx hb dL_law_1017 rfl (lv_at hl 6 rfl) ?_
  refine lv_iload hx hb dL_law_1018 (lv_at hl 1 rfl) ?_
  refine lv_iconst (v := 1) hx hb dL_law_1020 (by decide) ?_
  refine k_iadd (v := 1) hx hb dL_law_1021 (by decide) ?_
  refine k_script (x := (xs 1)) hx hb hX hbl hbA hS 1 (by decide) rfl (by subst hL; unfold vp_in; decide) dL_law_1022 ?_
  refine lv_aload_n hx hb dL_law_1023 rfl (lv_at hl 6 rfl) ?_
  refine lv_iload hx hb dL_law_1024 (lv_at hl 1 rfl) ?_
  refine lv_iconst (v := 2) hx hb dL_law_1026 (by decide) ?_
  refine k_iadd (v := 2) hx hb dL_law_1027 (by decide) ?_
  refine k_script (x := (xs 2)) hx hb hX hbl hbA hS 2 (by decide) rfl (by subst hL; unfold vp_in; decide) dL_law_1028 ?_
  refine ct_V (wr := []) hSF hl.1 hP hD hS hA hK hGV (c204_X12_cutAt l hfl D cA g (a 52) (a 53) (a 54) (a 55) (a 56) (a 57) (a 58) (a 59) (a 60) (a 61) (a 62) (a 63) (a 64) (a 65) (a 66) (a 67) (a 68) (a 69) (a 70) ((xs 1)) ((xs 2)) k1 k2) goV_L_176 pd_X12_cutAt ⟨(Nat.le_of_ble_eq_true rfl), (Nat.le_of_ble_eq_true rfl)⟩ ⟨(Nat.le_of_ble_eq_true rfl), (Nat.le_of_ble_eq_true rfl)⟩ (va_recv hK hP (ci := 15) (q0 := 0) rfl rfl) dL_law_1029 rfl (Nat.le_of_ble_eq_true rfl) [0, 1] [] rfl (by decide) rfl (by decide) (by decide) (fun q => [((a 52), .inr (15, [.ref (a 53), .ref (a 54), .ref (a 55), .ref (a 56), .ref (a 57), .ref (a 58), .ref (a 59), .ref (a 60), .ref (a 61), .ref (a 62), .ref (a 63), .ref (a 64), .ref (a 65), .ref (a 66), .ref (a 67), .ref (a 68), .ref (a 69), .ref (a 70), .long 0, .int 1, .int 2, .int 0, .int 0, .int 0, .int 0, .int 0, .int 0])), ((a 54), .inr (2, [.int 0, .ref g.1, .int 0]))]) (fun _ => rfl) (fun q2 H locs hP hD hS => ?_)
  refine W.eq (g2 := F0 m 1032 ls [.int 0]) rfl ?_
  refine lv_istore (lv' := [(7, .int 0), (6, .int 1), (5, .int 0), (4, .ref (a 72)), (3, .ref (a 71)), (2, .ref (a 52)), (1, .ref (a 0)), (0, .ref b)]) hx hb dL_law_1032 hl (by decide) rfl (fun ls hl => ?_)
  refine lv_aload_n hx hb dL_law_1034 rfl (lv_at hl 5 rfl) ?_
  refine ct_V (wr := []) hSF hl.1 hP hD hS hA hK hGV (c17_X12_thrown l hfl D cA g (a 52) (a 53) (a 54) (a 55) (a 56) (a 57) (a 58) (a 59) (a 60) (a 61) (a 62) (a 63) (a 64) (a 65) (a 66) (a 67) (a 68) (a 69) (a 70)) goV_L_125 pd_X12_thrown ⟨(Nat.le_of_ble_eq_true rfl), (Nat.le_of_ble_eq_true rfl)⟩ ⟨(Nat.le_of_ble_eq_true rfl), (Nat.le_of_ble_eq_true rfl)⟩ (va_recv hK hP (ci := 15) (q0 := 0) rfl rfl) dL_law_1035 rfl (Nat.le_of_ble_eq_true rfl) [0] [] rfl (by decide) rfl (by decide) (by decide) (fun q => [((a 52), .inr (15, [.ref (a 53), .ref (a 54), .ref (a 55), .ref (a 56), .ref (a 57), .ref (a 58), .ref (a 59), .ref (a 60), .ref (a 61), .ref (a 62), .ref (a 63), .ref (a 64), .ref (a 65), .ref (a 66), .ref (a 67), .ref (a 68), .ref (a 69), .ref (a 70), .long 0, .int 1, .int 2, .int 0, .int 0, .int 0, .int 0, .int 0, .int 0]))]) (fun _ => rfl) (fun q3 H locs hP hD hS => ?_)
  refine W.eq (g2 := F0 m 1038 ls [.int 1]) rfl ?_
  refine lv_iload hx hb dL_law_1038 (lv_at hl 1 rfl) ?_
  refine k_icmp_eq_t (tgt := 1045) hx hb dL_law_1040 (by decide) (by decide) ?_
  refine lv_iload hx hb dL_law_1045 (lv_at hl 1 rfl) ?_
  refine k_if_ne_t (tgt := 1062) hx hb dL_law_1047 (by decide) (by decide) ?_
  refine lv_goto (tgt := 1963) hx hb dL_law_1062 (by decide) ?_
  exact law_tail l hL C0 (Nat.le_of_ble_eq_true rfl) (Nat.le_of_ble_eq_true rfl) hS (lv_sub hl [2, 7] rfl)
set_option maxHeartbeats 4000000 in
set_option maxRecDepth 100000 in
theorem lc_14_0 {p : Program} {e : Env} {s : State} {m : MethodId} {below : List Frame} {meth : Method} {c : Code} (l : Launch) (hfl : l.stackTraces = false) {b L : Nat} {xs : Nat → Int32} (hL : L = 6) (C0 : lw_At p s m meth c b L xs) (D : va_G) (cA : Nat → ClassId) (g : gv_T) (hK : va_K D vwCl (TYS cA) s) (hGV : GV g (fun q : Nat => s.heap.size ≤ q) s s.heap) (a : Nat → Nat) {H : Heap} {locs : List Loc} (hP : va_P D vwCl (WL cA g a) H) (hD : va_D (fun q : Nat => s.heap.size ≤ q) (WL cA g a)) (hS : va_S (fun q : Nat => s.heap.size ≤ q) s.heap H locs) {ls : Array Slot} (hl : lv_has ls 9 [(5, .int 0), (4, .ref (a 72)), (3, .ref (a 71)), (2, .ref (a 52)), (1, .ref (a 0)), (0, .ref b)]) (k0 : (xs 1) < 0) (k1 : (lg_cmp ((xs 1)).toInt64 0) < 0) : W p l e room_1 s m #[Value.ref b] below meth c H locs 73 8292 (lw_Z below #[Value.ref b] s) (F0 m 1065 ls []) := by
  obtain ⟨hx, hb, hr, hml, hown, hts, hX, hbl, hlocks, hgv⟩ := id C0
  have hb : c.code = cL_law := hb
  have hown : s.vm.findClass RL = some m.cls := hown
  have hG : ∀ w ∈ GW, w.before #[Value.ref b] s = true := fun w hw => hts w (List.mem_filter.mp hw).1
  have hA : ∀ q : Nat, s.heap.size ≤ q → (fun q : Nat => s.heap.size ≤ q) q := fun _ h => h
  have hbA : ¬ (fun q : Nat => s.heap.size ≤ q) b := Nat.not_le.mpr hbl
  have hSF : CF p m c cL_law 9 s #[Value.ref b] RL := ⟨hx, hb, hml, hown, hG⟩
  have hP : va_P D vwCl [((a 0), .inr (9, [.ref (a 1), .ref (a 12), .ref (a 32), .ref (a 38), .ref (a 46)])), ((a 52), .inr (15, [.ref (a 53), .ref (a 54), .ref (a 55), .ref (a 56), .ref (a 57), .ref (a 58), .ref (a 59), .ref (a 60), .ref (a 61), .ref (a 62), .ref (a 63), .ref (a 64), .ref (a 65), .ref (a 66), .ref (a 67), .ref (a 68), .ref (a 69), .ref (a 70), .long 0, .int 0, .int 2, .int 0, .int 0, .int 0, .int 0, .int 0, .int 0])), ((a 54), .inr (2, [.int 0, .ref g.1, .int 0]))] H := hP.sub [0, 52, 54] rfl
  have hD : va_D (fun q : Nat => s.heap.size ≤ q) [((a 0), .inr (9, [.ref (a 1), .ref (a 12), .ref (a 32), .ref (a 38), .ref (a 46)])), ((a 52), .inr (15, [.ref (a 53), .ref (a 54), .ref (a 55), .ref (a 56), .ref (a 57), .ref (a 58), .ref (a 59), .ref (a 60), .ref (a 61), .ref (a 62), .ref (a 63), .ref (a 64), .ref (a 65), .ref (a 66), .ref (a 67), .ref (a 68), .ref (a 69), .ref (a 70), .long 0, .int 0, .int 2, .int 0, .int 0, .int 0, .int 0, .int 0, .int 0])), ((a 54), .inr (2, [.int 0, .ref g.1, .int 0]))] := hD.sub [0, 52, 54] (by decide) rfl
  have hl : lv_has ls 9 [(5, .int 0), (4, .ref (a 72)), (3, .ref (a 71)), (2, .ref (a 52)), (1, .ref (a 0)), (0, .ref b)] := hl
  refine lv_aload_n hx hb dL_law_1065 rfl (lv_at hl 4 rfl) ?_
  refine lv_aload_n hx hb dL_law_1066 rfl (lv_at hl 5 rfl) ?_
  refine lv_iload hx hb dL_law_1067 (lv_at hl 0 rfl) ?_
  refine lv_iconst (v := 1) hx hb dL_law_1069 (by decide) ?_
  refine k_iadd (v := 1) hx hb dL_law_1070 (by decide) ?_
  refine k_script (x := (xs 1)) hx hb hX hbl hbA hS 1 (by decide) rfl (by subst hL; unfold vp_in; decide) dL_law_1071 ?_
  refine lv_aload_n hx hb dL_law_1072 rfl (lv_at hl 5 rfl) ?_
  refine lv_iload hx hb dL_law_1073 (lv_at hl 0 rfl) ?_
  refine lv_iconst (v := 2) hx hb dL_law_1075 (by decide) ?_
  refine k_iadd (v := 2) hx hb dL_law_1076 (by decide) ?_
  refine k_script (x := (xs 2)) hx hb hX hbl hbA hS 2 (by decide) rfl (by subst hL; unfold vp_in; decide) dL_law_1077 ?_
  refine lv_aload_n hx hb dL_law_1078 rfl (lv_at hl 2 rfl) ?_
  refine ct_SW (wr := [((a 52), .inr (15, [.ref (a 53), .ref (a 54), .ref (a 55), .ref (a 56), .ref (a 57), .ref (a 58), .ref (a 59), .ref (a 60), .ref (a 61), .ref (a 62), .ref (a 63), .ref (a 64), .ref (a 65), .ref (a 66), .ref (a 67), .ref (a 68), .ref (a 69), .ref (a 70), .long 0, .int 0, .int 2, .int 0, .int 0, .int 0, .int 0, .int 0, .int 0])), ((a 54), .inr (2, [.int 0, .ref g.1, .int 0]))]) hSF hl.1 hP hD hS hA hK hGV (c206_L_dry l hfl D cA g (a 0) (a 71) (a 1) (a 12) (a 32) (a 38) (a 46) ((xs 1)) ((xs 2)) k0) goW_L_177 pd_L_dry.2 ⟨(Nat.le_of_ble_eq_true rfl), (Nat.le_of_ble_eq_true rfl)⟩ ⟨(Nat.le_of_ble_eq_true rfl), (Nat.le_of_ble_eq_true rfl)⟩ dL_law_1079 rfl (Nat.le_of_ble_eq_true rfl) [0] [1, 2] rfl (by decide) rfl (by decide) (by decide) (fun q => [((a 52), .inr (15, [.ref (a 53), .ref (a 54), .ref (a 55), .ref (a 56), .ref (a 57), .ref (a 58), .ref (a 59), .ref (a 60), .ref (a 61), .ref (a 62), .ref (a 63), .ref (a 64), .ref (a 65), .ref (a 66), .ref (a 67), .ref (a 68), .ref (a 69), .ref (a 70), .long 0, .int 0, .int 2, .int 0, .int 0, .int 0, .int 0, .int 0, .int 0])), ((a 54), .inr (2, [.int 0, .ref g.1, .int 0])), ((a 0), .inr (9, [.ref (a 1), .ref (a 12), .ref (a 32), .ref (a 38), .ref (a 46)]))]) (fun _ => rfl) (fun q1 H locs hP hD hS => ?_)
  refine W.eq (g2 := F0 m 1082 ls [.int 1]) rfl ?_
  refine lv_istore (lv' := [(6, .int 1), (5, .int 0), (4, .ref (a 72)), (3, .ref (a 71)), (2, .ref (a 52)), (1, .ref (a 0)), (0, .ref b)]) hx hb dL_law_1082 hl (by decide) rfl (fun ls hl => ?_)
  refine lv_aload_n hx hb dL_law_1084 rfl (lv_at hl 4 rfl) ?_
  refine lv_aload_n hx hb dL_law_1085 rfl (lv_at hl 6 rfl) ?_
  refine lv_iload hx hb dL_law_1086 (lv_at hl 1 rfl) ?_
  refine lv_iconst (v := 1) hx hb dL_law_1088 (by decide) ?_
  refine k_iadd (v := 1) hx hb dL_law_1089 (by decide) ?_
  refine k_script (x := (xs 1)) hx hb hX hbl hbA hS 1 (by decide) rfl (by subst hL; unfold vp_in; decide) dL_law_1090 ?_
  refine lv_aload_n hx hb dL_law_1091 rfl (lv_at hl 6 rfl) ?_
  refine lv_iload hx hb dL_law_1092 (lv_at hl 1 rfl) ?_
  refine lv_iconst (v := 2) hx hb dL_law_1094 (by decide) ?_
  refine k_iadd (v := 2) hx hb dL_law_1095 (by decide) ?_
  refine k_script (x := (xs 2)) hx hb hX hbl hbA hS 2 (by decide) rfl (by subst hL; unfold vp_in; decide) dL_law_1096 ?_
  refine ct_V (wr := []) hSF hl.1 hP hD hS hA hK hGV (c207_X12_dry l hfl D cA g (a 52) (a 53) (a 54) (a 55) (a 56) (a 57) (a 58) (a 59) (a 60) (a 61) (a 62) (a 63) (a 64) (a 65) (a 66) (a 67) (a 68) (a 69) (a 70) ((xs 1)) ((xs 2)) k1) goV_L_179 pd_X12_dry ⟨(Nat.le_of_ble_eq_true rfl), (Nat.le_of_ble_eq_true rfl)⟩ ⟨(Nat.le_of_ble_eq_true rfl), (Nat.le_of_ble_eq_true rfl)⟩ (va_recv hK hP (ci := 15) (q0 := 0) rfl rfl) dL_law_1097 rfl (Nat.le_of_ble_eq_true rfl) [0, 1] [] rfl (by decide) rfl (by decide) (by decide) (fun q => [((a 52), .inr (15, [.ref (a 53), .ref (a 54), .ref (a 55), .ref (a 56), .ref (a 57), .ref (a 58), .ref (a 59), .ref (a 60), .ref (a 61), .ref (a 62), .ref (a 63), .ref (a 64), .ref (a 65), .ref (a 66), .ref (a 67), .ref (a 68), .ref (a 69), .ref (a 70), .long 0, .int 1, .int 2, .int 0, .int 0, .int 0, .int 0, .int 0, .int 0])), ((a 54), .inr (2, [.int 0, .ref g.1, .int 0]))]) (fun _ => rfl) (fun q2 H locs hP hD hS => ?_)
  refine W.eq (g2 := F0 m 1100 ls [.int 0]) rfl ?_
  refine lv_istore (lv' := [(7, .int 0), (6, .int 1), (5, .int 0), (4, .ref (a 72)), (3, .ref (a 71)), (2, .ref (a 52)), (1, .ref (a 0)), (0, .ref b)]) hx hb dL_law_1100 hl (by decide) rfl (fun ls hl => ?_)
  refine lv_aload_n hx hb dL_law_1102 rfl (lv_at hl 5 rfl) ?_
  refine ct_V (wr := []) hSF hl.1 hP hD hS hA hK hGV (c17_X12_thrown l hfl D cA g (a 52) (a 53) (a 54) (a 55) (a 56) (a 57) (a 58) (a 59) (a 60) (a 61) (a 62) (a 63) (a 64) (a 65) (a 66) (a 67) (a 68) (a 69) (a 70)) goV_L_125 pd_X12_thrown ⟨(Nat.le_of_ble_eq_true rfl), (Nat.le_of_ble_eq_true rfl)⟩ ⟨(Nat.le_of_ble_eq_true rfl), (Nat.le_of_ble_eq_true rfl)⟩ (va_recv hK hP (ci := 15) (q0 := 0) rfl rfl) dL_law_1103 rfl (Nat.le_of_ble_eq_true rfl) [0] [] rfl (by decide) rfl (by decide) (by decide) (fun q => [((a 52), .inr (15, [.ref (a 53), .ref (a 54), .ref (a 55), .ref (a 56), .ref (a 57), .ref (a 58), .ref (a 59), .ref (a 60), .ref (a 61), .ref (a 62), .ref (a 63), .ref (a 64), .ref (a 65), .ref (a 66), .ref (a 67), .ref (a 68), .ref (a 69), .ref (a 70), .long 0, .int 1, .int 2, .int 0, .int 0, .int 0, .int 0, .int 0, .int 0]))]) (fun _ => rfl) (fun q3 H locs hP hD hS => ?_)
  refine W.eq (g2 := F0 m 1106 ls [.int 1]) rfl ?_
  refine lv_iload hx hb dL_law_1106 (lv_at hl 1 rfl) ?_
  refine k_icmp_eq_t (tgt := 1113) hx hb dL_law_1108 (by decide) (by decide) ?_
  refine lv_iload hx hb dL_law_1113 (lv_at hl 1 rfl) ?_
  refine k_if_ne_t (tgt := 1130) hx hb dL_law_1115 (by decide) (by decide) ?_
  refine lv_goto (tgt := 1963) hx hb dL_law_1130 (by decide) ?_
  exact law_tail l hL C0 (Nat.le_of_ble_eq_true rfl) (Nat.le_of_ble_eq_true rfl) hS (lv_sub hl [2, 7] rfl)
set_option maxHeartbeats 4000000 in
set_option maxRecDepth 100000 in
theorem lc_14_1 {p : Program} {e : Env} {s : State} {m : MethodId} {below : List Frame} {meth : Method} {c : Code} (l : Launch) (hfl : l.stackTraces = false) {b L : Nat} {xs : Nat → Int32} (hL : L = 6) (C0 : lw_At p s m meth c b L xs) (D : va_G) (cA : Nat → ClassId) (g : gv_T) (hK : va_K D vwCl (TYS cA) s) (hGV : GV g (fun q : Nat => s.heap.size ≤ q) s s.heap) (a : Nat → Nat) {H : Heap} {locs : List Loc} (hP : va_P D vwCl (WL cA g a) H) (hD : va_D (fun q : Nat => s.heap.size ≤ q) (WL cA g a)) (hS : va_S (fun q : Nat => s.heap.size ≤ q) s.heap H locs) {ls : Array Slot} (hl : lv_has ls 9 [(5, .int 0), (4, .ref (a 72)), (3, .ref (a 71)), (2, .ref (a 52)), (1, .ref (a 0)), (0, .ref b)]) (k0 : ¬ (xs 1) < 0) (k1 : ¬ (lg_cmp ((xs 1)).toInt64 0) < 0) (k2 : 0 < (lg_cmp ((xs 1)).toInt64 (-1))) : W p l e room_1 s m #[Value.ref b] below meth c H locs 73 8292 (lw_Z below #[Value.ref b] s) (F0 m 1065 ls []) := by
  obtain ⟨hx, hb, hr, hml, hown, hts, hX, hbl, hlocks, hgv⟩ := id C0
  have hb : c.code = cL_law := hb
  have hown : s.vm.findClass RL = some m.cls := hown
  have hG : ∀ w ∈ GW, w.before #[Value.ref b] s = true := fun w hw => hts w (List.mem_filter.mp hw).1
  have hA : ∀ q : Nat, s.heap.size ≤ q → (fun q : Nat => s.heap.size ≤ q) q := fun _ h => h
  have hbA : ¬ (fun q : Nat => s.heap.size ≤ q) b := Nat.not_le.mpr hbl
  have hSF : CF p m c cL_law 9 s #[Value.ref b] RL := ⟨hx, hb, hml, hown, hG⟩
  have hP : va_P D vwCl [((a 0), .inr (9, [.ref (a 1), .ref (a 12), .ref (a 32), .ref (a 38), .ref (a 46)])), ((a 1), .inr (5, [.int 0, .int 0, .ref (a 2), .ref (a 3), .ref (a 4), .ref (a 5), .ref (a 6), .ref (a 7), .ref (a 8), .ref (a 9), .ref (a 10), .ref (a 11)])), ((a 52), .inr (15, [.ref (a 53), .ref (a 54), .ref (a 55), .ref (a 56), .ref (a 57), .ref (a 58), .ref (a 59), .ref (a 60), .ref (a 61), .ref (a 62), .ref (a 63), .ref (a 64), .ref (a 65), .ref (a 66), .ref (a 67), .ref (a 68), .ref (a 69), .ref (a 70), .long 0, .int 0, .int 2, .int 0, .int 0, .int 0, .int 0, .int 0, .int 0])), ((a 54), .inr (2, [.int 0, .ref g.1, .int 0]))] H := hP.sub [0, 1, 52, 54] rfl
  have hD : va_D (fun q : Nat => s.heap.size ≤ q) [((a 0), .inr (9, [.ref (a 1), .ref (a 12), .ref (a 32), .ref (a 38), .ref (a 46)])), ((a 1), .inr (5, [.int 0, .int 0, .ref (a 2), .ref (a 3), .ref (a 4), .ref (a 5), .ref (a 6), .ref (a 7), .ref (a 8), .ref (a 9), .ref (a 10), .ref (a 11)])), ((a 52), .inr (15, [.ref (a 53), .ref (a 54), .ref (a 55), .ref (a 56), .ref (a 57), .ref (a 58), .ref (a 59), .ref (a 60), .ref (a 61), .ref (a 62), .ref (a 63), .ref (a 64), .ref (a 65), .ref (a 66), .ref (a 67), .ref (a 68), .ref (a 69), .ref (a 70), .long 0, .int 0, .int 2, .int 0, .int 0, .int 0, .int 0, .int 0, .int 0])), ((a 54), .inr (2, [.int 0, .ref g.1, .int 0]))] := hD.sub [0, 1, 52, 54] (by decide) rfl
  have hl : lv_has ls 9 [(5, .int 0), (4, .ref (a 72)), (3, .ref (a 71)), (2, .ref (a 52)), (1, .ref (a 0)), (0, .ref b)] := hl
  refine lv_aload_n hx hb dL_law_1065 rfl (lv_at hl 4 rfl) ?_
  refine lv_aload_n hx hb dL_law_1066 rfl (lv_at hl 5 rfl) ?_
  refine lv_iload hx hb dL_law_1067 (lv_at hl 0 rfl) ?_
  refine lv_iconst (v := 1) hx hb dL_law_1069 (by decide) ?_
  refine k_iadd (v := 1) hx hb dL_law_1070 (by decide) ?_
  refine k_script (x := (xs 1)) hx hb hX hbl hbA hS 1 (by decide) rfl (by subst hL; unfold vp_in; decide) dL_law_1071 ?_
  refine lv_aload_n hx hb dL_law_1072 rfl (lv_at hl 5 rfl) ?_
  refine lv_iload hx hb dL_law_1073 (lv_at hl 0 rfl) ?_
  refine lv_iconst (v := 2) hx hb dL_law_1075 (by decide) ?_
  refine k_iadd (v := 2) hx hb dL_law_1076 (by decide) ?_
  refine k_script (x := (xs 2)) hx hb hX hbl hbA hS 2 (by decide) rfl (by subst hL; unfold vp_in; decide) dL_law_1077 ?_
  refine lv_aload_n hx hb dL_law_1078 rfl (lv_at hl 2 rfl) ?_
  refine ct_SW (wr := [((a 52), .inr (15, [.ref (a 53), .ref (a 54), .ref (a 55), .ref (a 56), .ref (a 57), .ref (a 58), .ref (a 59), .ref (a 60), .ref (a 61), .ref (a 62), .ref (a 63), .ref (a 64), .ref (a 65), .ref (a 66), .ref (a 67), .ref (a 68), .ref (a 69), .ref (a 70), .long 0, .int 0, .int 2, .int 0, .int 0, .int 0, .int 0, .int 0, .int 0])), ((a 54), .inr (2, [.int 0, .ref g.1, .int 0]))]) hSF hl.1 hP hD hS hA hK hGV (c209_L_dry l hfl D cA g (a 0) (a 71) (a 1) (a 12) (a 32) (a 38) (a 46) (a 2) (a 3) (a 4) (a 5) (a 6) (a 7) (a 8) (a 9) (a 10) (a 11) ((xs 1)) ((xs 2)) k0) goW_L_177 pd_L_dry.2 ⟨(Nat.le_of_ble_eq_true rfl), (Nat.le_of_ble_eq_true rfl)⟩ ⟨(Nat.le_of_ble_eq_true rfl), (Nat.le_of_ble_eq_true rfl)⟩ dL_law_1079 rfl (Nat.le_of_ble_eq_true rfl) [0, 1] [2, 3] rfl (by decide) rfl (by decide) (by decide) (fun q => [((a 52), .inr (15, [.ref (a 53), .ref (a 54), .ref (a 55), .ref (a 56), .ref (a 57), .ref (a 58), .ref (a 59), .ref (a 60), .ref (a 61), .ref (a 62), .ref (a 63), .ref (a 64), .ref (a 65), .ref (a 66), .ref (a 67), .ref (a 68), .ref (a 69), .ref (a 70), .long 0, .int 0, .int 2, .int 0, .int 0, .int 0, .int 0, .int 0, .int 0])), ((a 54), .inr (2, [.int 0, .ref g.1, .int 0])), ((a 0), .inr (9, [.ref (a 1), .ref (a 12), .ref (a 32), .ref (a 38), .ref (a 46)])), ((a 1), .inr (5, [.int 0, .int 0, .ref (a 2), .ref (a 3), .ref (a 4), .ref (a 5), .ref (a 6), .ref (a 7), .ref (a 8), .ref (a 9), .ref (a 10), .ref (a 11)]))]) (fun _ => rfl) (fun q1 H locs hP hD hS => ?_)
  refine W.eq (g2 := F0 m 1082 ls [.int 1]) rfl ?_
  refine lv_istore (lv' := [(6, .int 1), (5, .int 0), (4, .ref (a 72)), (3, .ref (a 71)), (2, .ref (a 52)), (1, .ref (a 0)), (0, .ref b)]) hx hb dL_law_1082 hl (by decide) rfl (fun ls hl => ?_)
  refine lv_aload_n hx hb dL_law_1084 rfl (lv_at hl 4 rfl) ?_
  refine lv_aload_n hx hb dL_law_1085 rfl (lv_at hl 6 rfl) ?_
  refine lv_iload hx hb dL_law_1086 (lv_at hl 1 rfl) ?_
  refine lv_iconst (v := 1) hx hb dL_law_1088 (by decide) ?_
  refine k_iadd (v := 1) hx hb dL_law_1089 (by decide) ?_
  refine k_script (x := (xs 1)) hx hb hX hbl hbA hS 1 (by decide) rfl (by subst hL; unfold vp_in; decide) dL_law_1090 ?_
  refine lv_aload_n hx hb dL_law_1091 rfl (lv_at hl 6 rfl) ?_
  refine lv_iload hx hb dL_law_1092 (lv_at hl 1 rfl) ?_
  refine lv_iconst (v := 2) hx hb dL_law_1094 (by decide) ?_
  refine k_iadd (v := 2) hx hb dL_law_1095 (by decide) ?_
  refine k_script (x := (xs 2)) hx hb hX hbl hbA hS 2 (by decide) rfl (by subst hL; unfold vp_in; decide) dL_law_1096 ?_
  refine ct_V (wr := []) hSF hl.1 hP hD hS hA hK hGV (c210_X12_dry l hfl D cA g (a 52) (a 53) (a 54) (a 55) (a 56) (a 57) (a 58) (a 59) (a 60) (a 61) (a 62) (a 63) (a 64) (a 65) (a 66) (a 67) (a 68) (a 69) (a 70) ((xs 1)) ((xs 2)) k1 k2) goV_L_179 pd_X12_dry ⟨(Nat.le_of_ble_eq_true rfl), (Nat.le_of_ble_eq_true rfl)⟩ ⟨(Nat.le_of_ble_eq_true rfl), (Nat.le_of_ble_eq_true rfl)⟩ (va_recv hK hP (ci := 15) (q0 := 0) rfl rfl) dL_law_1097 rfl (Nat.le_of_ble_eq_true rfl) [0, 1] [] rfl (by decide) rfl (by decide) (by decide) (fun q => [((a 52), .inr (15, [.ref (a 53), .ref (a 54), .ref (a 55), .ref (a 56), .ref (a 57), .ref (a 58), .ref (a 59), .ref (a 60), .ref (a 61), .ref (a 62), .ref (a 63), .ref (a 64), .ref (a 65), .ref (a 66), .ref (a 67), .ref (a 68), .ref (a 69), .ref (a 70), .long 0, .int 1, .int 2, .int 0, .int 0, .int 0, .int 0, .int 0, .int 0])), ((a 54), .inr (2, [.int 0, .ref g.1, .int 0]))]) (fun _ => rfl) (fun q2 H locs hP hD hS => ?_)
  refine W.eq (g2 := F0 m 1100 ls [.int 0]) rfl ?_
  refine lv_istore (lv' := [(7, .int 0), (6, .int 1), (5, .int 0), (4, .ref (a 72)), (3, .ref (a 71)), (2, .ref (a 52)), (1, .ref (a 0)), (0, .ref b)]) hx hb dL_law_1100 hl (by decide) rfl (fun ls hl => ?_)
  refine lv_aload_n hx hb dL_law_1102 rfl (lv_at hl 5 rfl) ?_
  refine ct_V (wr := []) hSF hl.1 hP hD hS hA hK hGV (c17_X12_thrown l hfl D cA g (a 52) (a 53) (a 54) (a 55) (a 56) (a 57) (a 58) (a 59) (a 60) (a 61) (a 62) (a 63) (a 64) (a 65) (a 66) (a 67) (a 68) (a 69) (a 70)) goV_L_125 pd_X12_thrown ⟨(Nat.le_of_ble_eq_true rfl), (Nat.le_of_ble_eq_true rfl)⟩ ⟨(Nat.le_of_ble_eq_true rfl), (Nat.le_of_ble_eq_true rfl)⟩ (va_recv hK hP (ci := 15) (q0 := 0) rfl rfl) dL_law_1103 rfl (Nat.le_of_ble_eq_true rfl) [0] [] rfl (by decide) rfl (by decide) (by decide) (fun q => [((a 52), .inr (15, [.ref (a 53), .ref (a 54), .ref (a 55), .ref (a 56), .ref (a 57), .ref (a 58), .ref (a 59), .ref (a 60), .ref (a 61), .ref (a 62), .ref (a 63), .ref (a 64), .ref (a 65), .ref (a 66), .ref (a 67), .ref (a 68), .ref (a 69), .ref (a 70), .long 0, .int 1, .int 2, .int 0, .int 0, .int 0, .int 0, .int 0, .int 0]))]) (fun _ => rfl) (fun q3 H locs hP hD hS => ?_)
  refine W.eq (g2 := F0 m 1106 ls [.int 1]) rfl ?_
  refine lv_iload hx hb dL_law_1106 (lv_at hl 1 rfl) ?_
  refine k_icmp_eq_t (tgt := 1113) hx hb dL_law_1108 (by decide) (by decide) ?_
  refine lv_iload hx hb dL_law_1113 (lv_at hl 1 rfl) ?_
  refine k_if_ne_t (tgt := 1130) hx hb dL_law_1115 (by decide) (by decide) ?_
  refine lv_goto (tgt := 1963) hx hb dL_law_1130 (by decide) ?_
  exact law_tail l hL C0 (Nat.le_of_ble_eq_true rfl) (Nat.le_of_ble_eq_true rfl) hS (lv_sub hl [2, 7] rfl)
set_option maxHeartbeats 4000000 in
set_option maxRecDepth 100000 in
theorem lc_15_0 {p : Program} {e : Env} {s : State} {m : MethodId} {below : List Frame} {meth : Method} {c : Code} (l : Launch) (hfl : l.stackTraces = false) {b L : Nat} {xs : Nat → Int32} (hL : L = 6) (C0 : lw_At p s m meth c b L xs) (D : va_G) (cA : Nat → ClassId) (g : gv_T) (hK : va_K D vwCl (TYS cA) s) (hGV : GV g (fun q : Nat => s.heap.size ≤ q) s s.heap) (a : Nat → Nat) {H : Heap} {locs : List Loc} (hP : va_P D vwCl (WL cA g a) H) (hD : va_D (fun q : Nat => s.heap.size ≤ q) (WL cA g a)) (hS : va_S (fun q : Nat => s.heap.size ≤ q) s.heap H locs) {ls : Array Slot} (hl : lv_has ls 9 [(5, .int 0), (4, .ref (a 72)), (3, .ref (a 71)), (2, .ref (a 52)), (1, .ref (a 0)), (0, .ref b)]) (k0 : (xs 1) < 0) (k1 : (lg_cmp ((xs 1)).toInt64 0) < 0) : W p l e room_1 s m #[Value.ref b] below meth c H locs 73 8292 (lw_Z below #[Value.ref b] s) (F0 m 1133 ls []) := by
  obtain ⟨hx, hb, hr, hml, hown, hts, hX, hbl, hlocks, hgv⟩ := id C0
  have hb : c.code = cL_law := hb
  have hown : s.vm.findClass RL = some m.cls := hown
  have hG : ∀ w ∈ GW, w.before #[Value.ref b] s = true := fun w hw => hts w (List.mem_filter.mp hw).1
  have hA : ∀ q : Nat, s.heap.size ≤ q → (fun q : Nat => s.heap.size ≤ q) q := fun _ h => h
  have hbA : ¬ (fun q : Nat => s.heap.size ≤ q) b := Nat.not_le.mpr hbl
  have hSF : CF p m c cL_law 9 s #[Value.ref b] RL := ⟨hx, hb, hml, hown, hG⟩
  have hP : va_P D vwCl [((a 0), .inr (9, [.ref (a 1), .ref (a 12), .ref (a 32), .ref (a 38), .ref (a 46)])), ((a 52), .inr (15, [.ref (a 53), .ref (a 54), .ref (a 55), .ref (a 56), .ref (a 57), .ref (a 58), .ref (a 59), .ref (a 60), .ref (a 61), .ref (a 62), .ref (a 63), .ref (a 64), .ref (a 65), .ref (a 66), .ref (a 67), .ref (a 68), .ref (a 69), .ref (a 70), .long 0, .int 0, .int 2, .int 0, .int 0, .int 0, .int 0, .int 0, .int 0])), ((a 55), .inr (2, [.int 0, .ref g.1, .int 0]))] H := hP.sub [0, 52, 55] rfl
  have hD : va_D (fun q : Nat => s.heap.size ≤ q) [((a 0), .inr (9, [.ref (a 1), .ref (a 12), .ref (a 32), .ref (a 38), .ref (a 46)])), ((a 52), .inr (15, [.ref (a 53), .ref (a 54), .ref (a 55), .ref (a 56), .ref (a 57), .ref (a 58), .ref (a 59), .ref (a 60), .ref (a 61), .ref (a 62), .ref (a 63), .ref (a 64), .ref (a 65), .ref (a 66), .ref (a 67), .ref (a 68), .ref (a 69), .ref (a 70), .long 0, .int 0, .int 2, .int 0, .int 0, .int 0, .int 0, .int 0, .int 0])), ((a 55), .inr (2, [.int 0, .ref g.1, .int 0]))] := hD.sub [0, 52, 55] (by decide) rfl
  have hl : lv_has ls 9 [(5, .int 0), (4, .ref (a 72)), (3, .ref (a 71)), (2, .ref (a 52)), (1, .ref (a 0)), (0, .ref b)] := hl
  refine lv_aload_n hx hb dL_law_1133 rfl (lv_at hl 4 rfl) ?_
  refine lv_aload_n hx hb dL_law_1134 rfl (lv_at hl 5 rfl) ?_
  refine lv_iload hx hb dL_law_1135 (lv_at hl 0 rfl) ?_
  refine lv_iconst (v := 1) hx hb dL_law_1137 (by decide) ?_
  refine k_iadd (v := 1) hx hb dL_law_1138 (by decide) ?_
  refine k_script (x := (xs 1)) hx hb hX hbl hbA hS 1 (by decide) rfl (by subst hL; unfold vp_in; decide) dL_law_1139 ?_
  refine lv_aload_n hx hb dL_law_1140 rfl (lv_at hl 2 rfl) ?_
  refine ct_SW (wr := [((a 52), .inr (15, [.ref (a 53), .ref (a 54), .ref (a 55), .ref (a 56), .ref (a 57), .ref (a 58), .ref (a 59), .ref (a 60), .ref (a 61), .ref (a 62), .ref (a 63), .ref (a 64), .ref (a 65), .ref (a 66), .ref (a 67), .ref (a 68), .ref (a 69), .ref (a 70), .long 0, .int 0, .int 2, .int 0, .int 0, .int 0, .int 0, .int 0, .int 0])), ((a 55), .inr (2, [.int 0, .ref g.1, .int 0]))]) hSF hl.1 hP hD hS hA hK hGV (c212_L_gap l hfl D cA g (a 0) (a 71) (a 1) (a 12) (a 32) (a 38) (a 46) ((xs 1)) k0) goW_L_180 pd_L_gap.2 ⟨(Nat.le_of_ble_eq_true rfl), (Nat.le_of_ble_eq_true rfl)⟩ ⟨(Nat.le_of_ble_eq_true rfl), (Nat.le_of_ble_eq_true rfl)⟩ dL_law_1141 rfl (Nat.le_of_ble_eq_true rfl) [0] [1, 2] rfl (by decide) rfl (by decide) (by decide) (fun q => [((a 52), .inr (15, [.ref (a 53), .ref (a 54), .ref (a 55), .ref (a 56), .ref (a 57), .ref (a 58), .ref (a 59), .ref (a 60), .ref (a 61), .ref (a 62), .ref (a 63), .ref (a 64), .ref (a 65), .ref (a 66), .ref (a 67), .ref (a 68), .ref (a 69), .ref (a 70), .long 0, .int 0, .int 2, .int 0, .int 0, .int 0, .int 0, .int 0, .int 0])), ((a 55), .inr (2, [.int 0, .ref g.1, .int 0])), ((a 0), .inr (9, [.ref (a 1), .ref (a 12), .ref (a 32), .ref (a 38), .ref (a 46)]))]) (fun _ => rfl) (fun q1 H locs hP hD hS => ?_)
  refine W.eq (g2 := F0 m 1144 ls [.int 1]) rfl ?_
  refine lv_istore (lv' := [(6, .int 1), (5, .int 0), (4, .ref (a 72)), (3, .ref (a 71)), (2, .ref (a 52)), (1, .ref (a 0)), (0, .ref b)]) hx hb dL_law_1144 hl (by decide) rfl (fun ls hl => ?_)
  refine lv_aload_n hx hb dL_law_1146 rfl (lv_at hl 4 rfl) ?_
  refine lv_aload_n hx hb dL_law_1147 rfl (lv_at hl 6 rfl) ?_
  refine lv_iload hx hb dL_law_1148 (lv_at hl 1 rfl) ?_
  refine lv_iconst (v := 1) hx hb dL_law_1150 (by decide) ?_
  refine k_iadd (v := 1) hx hb dL_law_1151 (by decide) ?_
  refine k_script (x := (xs 1)) hx hb hX hbl hbA hS 1 (by decide) rfl (by subst hL; unfold vp_in; decide) dL_law_1152 ?_
  refine ct_V (wr := []) hSF hl.1 hP hD hS hA hK hGV (c213_X12_gap l hfl D cA g (a 52) (a 53) (a 54) (a 55) (a 56) (a 57) (a 58) (a 59) (a 60) (a 61) (a 62) (a 63) (a 64) (a 65) (a 66) (a 67) (a 68) (a 69) (a 70) ((xs 1)) k1) goV_L_182 pd_X12_gap ⟨(Nat.le_of_ble_eq_true rfl), (Nat.le_of_ble_eq_true rfl)⟩ ⟨(Nat.le_of_ble_eq_true rfl), (Nat.le_of_ble_eq_true rfl)⟩ (va_recv hK hP (ci := 15) (q0 := 0) rfl rfl) dL_law_1153 rfl (Nat.le_of_ble_eq_true rfl) [0, 1] [] rfl (by decide) rfl (by decide) (by decide) (fun q => [((a 52), .inr (15, [.ref (a 53), .ref (a 54), .ref (a 55), .ref (a 56), .ref (a 57), .ref (a 58), .ref (a 59), .ref (a 60), .ref (a 61), .ref (a 62), .ref (a 63), .ref (a 64), .ref (a 65), .ref (a 66), .ref (a 67), .ref (a 68), .ref (a 69), .ref (a 70), .long 0, .int 1, .int 2, .int 0, .int 0, .int 0, .int 0, .int 0, .int 0])), ((a 55), .inr (2, [.int 0, .ref g.1, .int 0]))]) (fun _ => rfl) (fun q2 H locs hP hD hS => ?_)
  refine W.eq (g2 := F0 m 1156 ls [.int 0]) rfl ?_
  refine lv_istore (lv' := [(7, .int 0), (6, .int 1), (5, .int 0), (4, .ref (a 72)), (3, .ref (a 71)), (2, .ref (a 52)), (1, .ref (a 0)), (0, .ref b)]) hx hb dL_law_1156 hl (by decide) rfl (fun ls hl => ?_)
  refine lv_aload_n hx hb dL_law_1158 rfl (lv_at hl 5 rfl) ?_
  refine ct_V (wr := []) hSF hl.1 hP hD hS hA hK hGV (c17_X12_thrown l hfl D cA g (a 52) (a 53) (a 54) (a 55) (a 56) (a 57) (a 58) (a 59) (a 60) (a 61) (a 62) (a 63) (a 64) (a 65) (a 66) (a 67) (a 68) (a 69) (a 70)) goV_L_125 pd_X12_thrown ⟨(Nat.le_of_ble_eq_true rfl), (Nat.le_of_ble_eq_true rfl)⟩ ⟨(Nat.le_of_ble_eq_true rfl), (Nat.le_of_ble_eq_true rfl)⟩ (va_recv hK hP (ci := 15) (q0 := 0) rfl rfl) dL_law_1159 rfl (Nat.le_of_ble_eq_true rfl) [0] [] rfl (by decide) rfl (by decide) (by decide) (fun q => [((a 52), .inr (15, [.ref (a 53), .ref (a 54), .ref (a 55), .ref (a 56), .ref (a 57), .ref (a 58), .ref (a 59), .ref (a 60), .ref (a 61), .ref (a 62), .ref (a 63), .ref (a 64), .ref (a 65), .ref (a 66), .ref (a 67), .ref (a 68), .ref (a 69), .ref (a 70), .long 0, .int 1, .int 2, .int 0, .int 0, .int 0, .int 0, .int 0, .int 0]))]) (fun _ => rfl) (fun q3 H locs hP hD hS => ?_)
  refine W.eq (g2 := F0 m 1162 ls [.int 1]) rfl ?_
  refine lv_iload hx hb dL_law_1162 (lv_at hl 1 rfl) ?_
  refine k_icmp_eq_t (tgt := 1169) hx hb dL_law_1164 (by decide) (by decide) ?_
  refine lv_iload hx hb dL_law_1169 (lv_at hl 1 rfl) ?_
  refine k_if_ne_t (tgt := 1186) hx hb dL_law_1171 (by decide) (by decide) ?_
  refine lv_goto (tgt := 1963) hx hb dL_law_1186 (by decide) ?_
  exact law_tail l hL C0 (Nat.le_of_ble_eq_true rfl) (Nat.le_of_ble_eq_true rfl) hS (lv_sub hl [2, 7] rfl)
set_option maxHeartbeats 4000000 in
set_option maxRecDepth 100000 in
theorem lc_15_1 {p : Program} {e : Env} {s : State} {m : MethodId} {below : List Frame} {meth : Method} {c : Code} (l : Launch) (hfl : l.stackTraces = false) {b L : Nat} {xs : Nat → Int32} (hL : L = 6) (C0 : lw_At p s m meth c b L xs) (D : va_G) (cA : Nat → ClassId) (g : gv_T) (hK : va_K D vwCl (TYS cA) s) (hGV : GV g (fun q : Nat => s.heap.size ≤ q) s s.heap) (a : Nat → Nat) {H : Heap} {locs : List Loc} (hP : va_P D vwCl (WL cA g a) H) (hD : va_D (fun q : Nat => s.heap.size ≤ q) (WL cA g a)) (hS : va_S (fun q : Nat => s.heap.size ≤ q) s.heap H locs) {ls : Array Slot} (hl : lv_has ls 9 [(5, .int 0), (4, .ref (a 72)), (3, .ref (a 71)), (2, .ref (a 52)), (1, .ref (a 0)), (0, .ref b)]) (k0 : ¬ (xs 1) < 0) (k1 : ¬ (lg_cmp ((xs 1)).toInt64 0) < 0) (k2 : 0 < (lg_cmp ((xs 1)).toInt64 (-1))) : W p l e room_1 s m #[Value.ref b] below meth c H locs 73 8292 (lw_Z below #[Value.ref b] s) (F0 m 1133 ls []) := by
  obtain ⟨hx, hb, hr, hml, hown, hts, hX, hbl, hlocks, hgv⟩ := id C0
  have hb : c.code = cL_law := hb
  have hown : s.vm.findClass RL = some m.cls := hown
  have hG : ∀ w ∈ GW, w.before #[Value.ref b] s = true := fun w hw => hts w (List.mem_filter.mp hw).1
  have hA : ∀ q : Nat, s.heap.size ≤ q → (fun q : Nat => s.heap.size ≤ q) q := fun _ h => h
  have hbA : ¬ (fun q : Nat => s.heap.size ≤ q) b := Nat.not_le.mpr hbl
  have hSF : CF p m c cL_law 9 s #[Value.ref b] RL := ⟨hx, hb, hml, hown, hG⟩
  have hP : va_P D vwCl [((a 0), .inr (9, [.ref (a 1), .ref (a 12), .ref (a 32), .ref (a 38), .ref (a 46)])), ((a 32), .inr (6, [.int 0, .ref (a 33), .ref (a 34), .ref (a 35), .ref (a 36), .ref (a 37)])), ((a 52), .inr (15, [.ref (a 53), .ref (a 54), .ref (a 55), .ref (a 56), .ref (a 57), .ref (a 58), .ref (a 59), .ref (a 60), .ref (a 61), .ref (a 62), .ref (a 63), .ref (a 64), .ref (a 65), .ref (a 66), .ref (a 67), .ref (a 68), .ref (a 69), .ref (a 70), .long 0, .int 0, .int 2, .int 0, .int 0, .int 0, .int 0, .int 0, .int 0])), ((a 55), .inr (2, [.int 0, .ref g.1, .int 0]))] H := hP.sub [0, 32, 52, 55] rfl
  have hD : va_D (fun q : Nat => s.heap.size ≤ q) [((a 0), .inr (9, [.ref (a 1), .ref (a 12), .ref (a 32), .ref (a 38), .ref (a 46)])), ((a 32), .inr (6, [.int 0, .ref (a 33), .ref (a 34), .ref (a 35), .ref (a 36), .ref (a 37)])), ((a 52), .inr (15, [.ref (a 53), .ref (a 54), .ref (a 55), .ref (a 56), .ref (a 57), .ref (a 58), .ref (a 59), .ref (a 60), .ref (a 61), .ref (a 62), .ref (a 63), .ref (a 64), .ref (a 65), .ref (a 66), .ref (a 67), .ref (a 68), .ref (a 69), .ref (a 70), .long 0, .int 0, .int 2, .int 0, .int 0, .int 0, .int 0, .int 0, .int 0])), ((a 55), .inr (2, [.int 0, .ref g.1, .int 0]))] := hD.sub [0, 32, 52, 55] (by decide) rfl
  have hl : lv_has ls 9 [(5, .int 0), (4, .ref (a 72)), (3, .ref (a 71)), (2, .ref (a 52)), (1, .ref (a 0)), (0, .ref b)] := hl
  refine lv_aload_n hx hb dL_law_1133 rfl (lv_at hl 4 rfl) ?_
  refine lv_aload_n hx hb dL_law_1134 rfl (lv_at hl 5 rfl) ?_
  refine lv_iload hx hb dL_law_1135 (lv_at hl 0 rfl) ?_
  refine lv_iconst (v := 1) hx hb dL_law_1137 (by decide) ?_
  refine k_iadd (v := 1) hx hb dL_law_1138 (by decide) ?_
  refine k_script (x := (xs 1)) hx hb hX hbl hbA hS 1 (by decide) rfl (by subst hL; unfold vp_in; decide) dL_law_1139 ?_
  refine lv_aload_n hx hb dL_law_1140 rfl (lv_at hl 2 rfl) ?_
  refine ct_SW (wr := [((a 52), .inr (15, [.ref (a 53), .ref (a 54), .ref (a 55), .ref (a 56), .ref (a 57), .ref (a 58), .ref (a 59), .ref (a 60), .ref (a 61), .ref (a 62), .ref (a 63), .ref (a 64), .ref (a 65), .ref (a 66), .ref (a 67), .ref (a 68), .ref (a 69), .ref (a 70), .long 0, .int 0, .int 2, .int 0, .int 0, .int 0, .int 0, .int 0, .int 0])), ((a 55), .inr (2, [.int 0, .ref g.1, .int 0]))]) hSF hl.1 hP hD hS hA hK hGV (c215_L_gap l hfl D cA g (a 0) (a 71) (a 1) (a 12) (a 32) (a 38) (a 46) (a 33) (a 34) (a 35) (a 36) (a 37) ((xs 1)) k0) goW_L_180 pd_L_gap.2 ⟨(Nat.le_of_ble_eq_true rfl), (Nat.le_of_ble_eq_true rfl)⟩ ⟨(Nat.le_of_ble_eq_true rfl), (Nat.le_of_ble_eq_true rfl)⟩ dL_law_1141 rfl (Nat.le_of_ble_eq_true rfl) [0, 1] [2, 3] rfl (by decide) rfl (by decide) (by decide) (fun q => [((a 52), .inr (15, [.ref (a 53), .ref (a 54), .ref (a 55), .ref (a 56), .ref (a 57), .ref (a 58), .ref (a 59), .ref (a 60), .ref (a 61), .ref (a 62), .ref (a 63), .ref (a 64), .ref (a 65), .ref (a 66), .ref (a 67), .ref (a 68), .ref (a 69), .ref (a 70), .long 0, .int 0, .int 2, .int 0, .int 0, .int 0, .int 0, .int 0, .int 0])), ((a 55), .inr (2, [.int 0, .ref g.1, .int 0])), ((a 0), .inr (9, [.ref (a 1), .ref (a 12), .ref (a 32), .ref (a 38), .ref (a 46)])), ((a 32), .inr (6, [.int 0, .ref (a 33), .ref (a 34), .ref (a 35), .ref (a 36), .ref (a 37)]))]) (fun _ => rfl) (fun q1 H locs hP hD hS => ?_)
  refine W.eq (g2 := F0 m 1144 ls [.int 1]) rfl ?_
  refine lv_istore (lv' := [(6, .int 1), (5, .int 0), (4, .ref (a 72)), (3, .ref (a 71)), (2, .ref (a 52)), (1, .ref (a 0)), (0, .ref b)]) hx hb dL_law_1144 hl (by decide) rfl (fun ls hl => ?_)
  refine lv_aload_n hx hb dL_law_1146 rfl (lv_at hl 4 rfl) ?_
  refine lv_aload_n hx hb dL_law_1147 rfl (lv_at hl 6 rfl) ?_
  refine lv_iload hx hb dL_law_1148 (lv_at hl 1 rfl) ?_
  refine lv_iconst (v := 1) hx hb dL_law_1150 (by decide) ?_
  refine k_iadd (v := 1) hx hb dL_law_1151 (by decide) ?_
  refine k_script (x := (xs 1)) hx hb hX hbl hbA hS 1 (by decide) rfl (by subst hL; unfold vp_in; decide) dL_law_1152 ?_
  refine ct_V (wr := []) hSF hl.1 hP hD hS hA hK hGV (c216_X12_gap l hfl D cA g (a 52) (a 53) (a 54) (a 55) (a 56) (a 57) (a 58) (a 59) (a 60) (a 61) (a 62) (a 63) (a 64) (a 65) (a 66) (a 67) (a 68) (a 69) (a 70) ((xs 1)) k1 k2) goV_L_182 pd_X12_gap ⟨(Nat.le_of_ble_eq_true rfl), (Nat.le_of_ble_eq_true rfl)⟩ ⟨(Nat.le_of_ble_eq_true rfl), (Nat.le_of_ble_eq_true rfl)⟩ (va_recv hK hP (ci := 15) (q0 := 0) rfl rfl) dL_law_1153 rfl (Nat.le_of_ble_eq_true rfl) [0, 1] [] rfl (by decide) rfl (by decide) (by decide) (fun q => [((a 52), .inr (15, [.ref (a 53), .ref (a 54), .ref (a 55), .ref (a 56), .ref (a 57), .ref (a 58), .ref (a 59), .ref (a 60), .ref (a 61), .ref (a 62), .ref (a 63), .ref (a 64), .ref (a 65), .ref (a 66), .ref (a 67), .ref (a 68), .ref (a 69), .ref (a 70), .long 0, .int 1, .int 2, .int 0, .int 0, .int 0, .int 0, .int 0, .int 0])), ((a 55), .inr (2, [.int 0, .ref g.1, .int 0]))]) (fun _ => rfl) (fun q2 H locs hP hD hS => ?_)
  refine W.eq (g2 := F0 m 1156 ls [.int 0]) rfl ?_
  refine lv_istore (lv' := [(7, .int 0), (6, .int 1), (5, .int 0), (4, .ref (a 72)), (3, .ref (a 71)), (2, .ref (a 52)), (1, .ref (a 0)), (0, .ref b)]) hx hb dL_law_1156 hl (by decide) rfl (fun ls hl => ?_)
  refine lv_aload_n hx hb dL_law_1158 rfl (lv_at hl 5 rfl) ?_
  refine ct_V (wr := []) hSF hl.1 hP hD hS hA hK hGV (c17_X12_thrown l hfl D cA g (a 52) (a 53) (a 54) (a 55) (a 56) (a 57) (a 58) (a 59) (a 60) (a 61) (a 62) (a 63) (a 64) (a 65) (a 66) (a 67) (a 68) (a 69) (a 70)) goV_L_125 pd_X12_thrown ⟨(Nat.le_of_ble_eq_true rfl), (Nat.le_of_ble_eq_true rfl)⟩ ⟨(Nat.le_of_ble_eq_true rfl), (Nat.le_of_ble_eq_true rfl)⟩ (va_recv hK hP (ci := 15) (q0 := 0) rfl rfl) dL_law_1159 rfl (Nat.le_of_ble_eq_true rfl) [0] [] rfl (by decide) rfl (by decide) (by decide) (fun q => [((a 52), .inr (15, [.ref (a 53), .ref (a 54), .ref (a 55), .ref (a 56), .ref (a 57), .ref (a 58), .ref (a 59), .ref (a 60), .ref (a 61), .ref (a 62), .ref (a 63), .ref (a 64), .ref (a 65), .ref (a 66), .ref (a 67), .ref (a 68), .ref (a 69), .ref (a 70), .long 0, .int 1, .int 2, .int 0, .int 0, .int 0, .int 0, .int 0, .int 0]))]) (fun _ => rfl) (fun q3 H locs hP hD hS => ?_)
  refine W.eq (g2 := F0 m 1162 ls [.int 1]) rfl ?_
  refine lv_iload hx hb dL_law_1162 (lv_at hl 1 rfl) ?_
  refine k_icmp_eq_t (tgt := 1169) hx hb dL_law_1164 (by decide) (by decide) ?_
  refine lv_iload hx hb dL_law_1169 (lv_at hl 1 rfl) ?_
  refine k_if_ne_t (tgt := 1186) hx hb dL_law_1171 (by decide) (by decide) ?_
  refine lv_goto (tgt := 1963) hx hb dL_law_1186 (by decide) ?_
  exact law_tail l hL C0 (Nat.le_of_ble_eq_true rfl) (Nat.le_of_ble_eq_true rfl) hS (lv_sub hl [2, 7] rfl)
set_option maxHeartbeats 4000000 in
set_option maxRecDepth 100000 in
theorem lc_16_0 {p : Program} {e : Env} {s : State} {m : MethodId} {below : List Frame} {meth : Method} {c : Code} (l : Launch) (hfl : l.stackTraces = false) {b L : Nat} {xs : Nat → Int32} (hL : L = 6) (C0 : lw_At p s m meth c b L xs) (D : va_G) (cA : Nat → ClassId) (g : gv_T) (hK : va_K D vwCl (TYS cA) s) (hGV : GV g (fun q : Nat => s.heap.size ≤ q) s s.heap) (a : Nat → Nat) {H : Heap} {locs : List Loc} (hP : va_P D vwCl (WL cA g a) H) (hD : va_D (fun q : Nat => s.heap.size ≤ q) (WL cA g a)) (hS : va_S (fun q : Nat => s.heap.size ≤ q) s.heap H locs) {ls : Array Slot} (hl : lv_has ls 9 [(5, .int 0), (4, .ref (a 72)), (3, .ref (a 71)), (2, .ref (a 52)), (1, .ref (a 0)), (0, .ref b)]) : W p l e room_1 s m #[Value.ref b] below meth c H locs 73 8292 (lw_Z below #[Value.ref b] s) (F0 m 1189 ls []) := by
  obtain ⟨hx, hb, hr, hml, hown, hts, hX, hbl, hlocks, hgv⟩ := id C0
  have hb : c.code = cL_law := hb
  have hown : s.vm.findClass RL = some m.cls := hown
  have hG : ∀ w ∈ GW, w.before #[Value.ref b] s = true := fun w hw => hts w (List.mem_filter.mp hw).1
  have hA : ∀ q : Nat, s.heap.size ≤ q → (fun q : Nat => s.heap.size ≤ q) q := fun _ h => h
  have hbA : ¬ (fun q : Nat => s.heap.size ≤ q) b := Nat.not_le.mpr hbl
  have hSF : CF p m c cL_law 9 s #[Value.ref b] RL := ⟨hx, hb, hml, hown, hG⟩
  have hP : va_P D vwCl [((a 0), .inr (9, [.ref (a 1), .ref (a 12), .ref (a 32), .ref (a 38), .ref (a 46)])), ((a 32), .inr (6, [.int 0, .ref (a 33), .ref (a 34), .ref (a 35), .ref (a 36), .ref (a 37)])), ((a 52), .inr (15, [.ref (a 53), .ref (a 54), .ref (a 55), .ref (a 56), .ref (a 57), .ref (a 58), .ref (a 59), .ref (a 60), .ref (a 61), .ref (a 62), .ref (a 63), .ref (a 64), .ref (a 65), .ref (a 66), .ref (a 67), .ref (a 68), .ref (a 69), .ref (a 70), .long 0, .int 0, .int 2, .int 0, .int 0, .int 0, .int 0, .int 0, .int 0])), ((a 55), .inr (2, [.int 0, .ref g.1, .int 0]))] H := hP.sub [0, 32, 52, 55] rfl
  have hD : va_D (fun q : Nat => s.heap.size ≤ q) [((a 0), .inr (9, [.ref (a 1), .ref (a 12), .ref (a 32), .ref (a 38), .ref (a 46)])), ((a 32), .inr (6, [.int 0, .ref (a 33), .ref (a 34), .ref (a 35), .ref (a 36), .ref (a 37)])), ((a 52), .inr (15, [.ref (a 53), .ref (a 54), .ref (a 55), .ref (a 56), .ref (a 57), .ref (a 58), .ref (a 59), .ref (a 60), .ref (a 61), .ref (a 62), .ref (a 63), .ref (a 64), .ref (a 65), .ref (a 66), .ref (a 67), .ref (a 68), .ref (a 69), .ref (a 70), .long 0, .int 0, .int 2, .int 0, .int 0, .int 0, .int 0, .int 0, .int 0])), ((a 55), .inr (2, [.int 0, .ref g.1, .int 0]))] := hD.sub [0, 32, 52, 55] (by decide) rfl
  have hl : lv_has ls 9 [(5, .int 0), (4, .ref (a 72)), (3, .ref (a 71)), (2, .ref (a 52)), (1, .ref (a 0)), (0, .ref b)] := hl
  refine lv_aload_n hx hb dL_law_1189 rfl (lv_at hl 4 rfl) ?_
  refine lv_aload_n hx hb dL_law_1190 rfl (lv_at hl 2 rfl) ?_
  refine ct_SW (wr := [((a 52), .inr (15, [.ref (a 53), .ref (a 54), .ref (a 55), .ref (a 56), .ref (a 57), .ref (a 58), .ref (a 59), .ref (a 60), .ref (a 61), .ref (a 62), .ref (a 63), .ref (a 64), .ref (a 65), .ref (a 66), .ref (a 67), .ref (a 68), .ref (a 69), .ref (a 70), .long 0, .int 0, .int 2, .int 0, .int 0, .int 0, .int 0, .int 0, .int 0])), ((a 55), .inr (2, [.int 0, .ref g.1, .int 0]))]) hSF hl.1 hP hD hS hA hK hGV (c218_L_widest l hfl D cA g (a 0) (a 71) (a 1) (a 12) (a 32) (a 38) (a 46) (a 33) (a 34) (a 35) (a 36) (a 37)) goW_L_183 pd_L_widest.2 ⟨(Nat.le_of_ble_eq_true rfl), (Nat.le_of_ble_eq_true rfl)⟩ ⟨(Nat.le_of_ble_eq_true rfl), (Nat.le_of_ble_eq_true rfl)⟩ dL_law_1191 rfl (Nat.le_of_ble_eq_true rfl) [0, 1] [2, 3] rfl (by decide) rfl (by decide) (by decide) (fun q => [((a 52), .inr (15, [.ref (a 53), .ref (a 54), .ref (a 55), .ref (a 56), .ref (a 57), .ref (a 58), .ref (a 59), .ref (a 60), .ref (a 61), .ref (a 62), .ref (a 63), .ref (a 64), .ref (a 65), .ref (a 66), .ref (a 67), .ref (a 68), .ref (a 69), .ref (a 70), .long 0, .int 0, .int 2, .int 0, .int 0, .int 0, .int 0, .int 0, .int 0])), ((a 55), .inr (2, [.int 0, .ref g.1, .int 0])), ((a 0), .inr (9, [.ref (a 1), .ref (a 12), .ref (a 32), .ref (a 38), .ref (a 46)])), ((a 32), .inr (6, [.int 0, .ref (a 33), .ref (a 34), .ref (a 35), .ref (a 36), .ref (a 37)]))]) (fun _ => rfl) (fun q1 H locs hP hD hS => ?_)
  refine W.eq (g2 := F0 m 1194 ls [.int 1]) rfl ?_
  refine lv_istore (lv' := [(6, .int 1), (5, .int 0), (4, .ref (a 72)), (3, .ref (a 71)), (2, .ref (a 52)), (1, .ref (a 0)), (0, .ref b)]) hx hb dL_law_1194 hl (by decide) rfl (fun ls hl => ?_)
  refine lv_aload_n hx hb dL_law_1196 rfl (lv_at hl 4 rfl) ?_
  refine ct_V (wr := []) hSF hl.1 hP hD hS hA hK hGV (c219_X12_widest l hfl D cA g (a 52) (a 53) (a 54) (a 55) (a 56) (a 57) (a 58) (a 59) (a 60) (a 61) (a 62) (a 63) (a 64) (a 65) (a 66) (a 67) (a 68) (a 69) (a 70)) goV_L_185 pd_X12_widest ⟨(Nat.le_of_ble_eq_true rfl), (Nat.le_of_ble_eq_true rfl)⟩ ⟨(Nat.le_of_ble_eq_true rfl), (Nat.le_of_ble_eq_true rfl)⟩ (va_recv hK hP (ci := 15) (q0 := 0) rfl rfl) dL_law_1197 rfl (Nat.le_of_ble_eq_true rfl) [0, 1] [] rfl (by decide) rfl (by decide) (by decide) (fun q => [((a 52), .inr (15, [.ref (a 53), .ref (a 54), .ref (a 55), .ref (a 56), .ref (a 57), .ref (a 58), .ref (a 59), .ref (a 60), .ref (a 61), .ref (a 62), .ref (a 63), .ref (a 64), .ref (a 65), .ref (a 66), .ref (a 67), .ref (a 68), .ref (a 69), .ref (a 70), .long 0, .int 1, .int 2, .int 0, .int 0, .int 0, .int 0, .int 0, .int 0])), ((a 55), .inr (2, [.int 0, .ref g.1, .int 0]))]) (fun _ => rfl) (fun q2 H locs hP hD hS => ?_)
  refine W.eq (g2 := F0 m 1200 ls [.int 0]) rfl ?_
  refine lv_istore (lv' := [(7, .int 0), (6, .int 1), (5, .int 0), (4, .ref (a 72)), (3, .ref (a 71)), (2, .ref (a 52)), (1, .ref (a 0)), (0, .ref b)]) hx hb dL_law_1200 hl (by decide) rfl (fun ls hl => ?_)
  refine lv_aload_n hx hb dL_law_1202 rfl (lv_at hl 5 rfl) ?_
  refine ct_V (wr := []) hSF hl.1 hP hD hS hA hK hGV (c17_X12_thrown l hfl D cA g (a 52) (a 53) (a 54) (a 55) (a 56) (a 57) (a 58) (a 59) (a 60) (a 61) (a 62) (a 63) (a 64) (a 65) (a 66) (a 67) (a 68) (a 69) (a 70)) goV_L_125 pd_X12_thrown ⟨(Nat.le_of_ble_eq_true rfl), (Nat.le_of_ble_eq_true rfl)⟩ ⟨(Nat.le_of_ble_eq_true rfl), (Nat.le_of_ble_eq_true rfl)⟩ (va_recv hK hP (ci := 15) (q0 := 0) rfl rfl) dL_law_1203 rfl (Nat.le_of_ble_eq_true rfl) [0] [] rfl (by decide) rfl (by decide) (by decide) (fun q => [((a 52), .inr (15, [.ref (a 53), .ref (a 54), .ref (a 55), .ref (a 56), .ref (a 57), .ref (a 58), .ref (a 59), .ref (a 60), .ref (a 61), .ref (a 62), .ref (a 63), .ref (a 64), .ref (a 65), .ref (a 66), .ref (a 67), .ref (a 68), .ref (a 69), .ref (a 70), .long 0, .int 1, .int 2, .int 0, .int 0, .int 0, .int 0, .int 0, .int 0]))]) (fun _ => rfl) (fun q3 H locs hP hD hS => ?_)
  refine W.eq (g2 := F0 m 1206 ls [.int 1]) rfl ?_
  refine lv_iload hx hb dL_law_1206 (lv_at hl 1 rfl) ?_
  refine k_icmp_eq_t (tgt := 1213) hx hb dL_law_1208 (by decide) (by decide) ?_
  refine lv_iload hx hb dL_law_1213 (lv_at hl 1 rfl) ?_
  refine k_if_ne_t (tgt := 1230) hx hb dL_law_1215 (by decide) (by decide) ?_
  refine lv_goto (tgt := 1963) hx hb dL_law_1230 (by decide) ?_
  exact law_tail l hL C0 (Nat.le_of_ble_eq_true rfl) (Nat.le_of_ble_eq_true rfl) hS (lv_sub hl [2, 7] rfl)
set_option maxHeartbeats 4000000 in
set_option maxRecDepth 100000 in
theorem lc_17_0 {p : Program} {e : Env} {s : State} {m : MethodId} {below : List Frame} {meth : Method} {c : Code} (l : Launch) (hfl : l.stackTraces = false) {b L : Nat} {xs : Nat → Int32} (hL : L = 6) (C0 : lw_At p s m meth c b L xs) (D : va_G) (cA : Nat → ClassId) (g : gv_T) (hK : va_K D vwCl (TYS cA) s) (hGV : GV g (fun q : Nat => s.heap.size ≤ q) s s.heap) (a : Nat → Nat) {H : Heap} {locs : List Loc} (hP : va_P D vwCl (WL cA g a) H) (hD : va_D (fun q : Nat => s.heap.size ≤ q) (WL cA g a)) (hS : va_S (fun q : Nat => s.heap.size ≤ q) s.heap H locs) {ls : Array Slot} (hl : lv_has ls 9 [(5, .int 0), (4, .ref (a 72)), (3, .ref (a 71)), (2, .ref (a 52)), (1, .ref (a 0)), (0, .ref b)]) (k0 : (xs 1) < 1) (k1 : (lg_cmp ((xs 1)).toInt64 1) < 0) : W p l e room_1 s m #[Value.ref b] below meth c H locs 73 8292 (lw_Z below #[Value.ref b] s) (F0 m 1233 ls []) := by
  obtain ⟨hx, hb, hr, hml, hown, hts, hX, hbl, hlocks, hgv⟩ := id C0
  have hb : c.code = cL_law := hb
  have hown : s.vm.findClass RL = some m.cls := hown
  have hG : ∀ w ∈ GW, w.before #[Value.ref b] s = true := fun w hw => hts w (List.mem_filter.mp hw).1
  have hA : ∀ q : Nat, s.heap.size ≤ q → (fun q : Nat => s.heap.size ≤ q) q := fun _ h => h
  have hbA : ¬ (fun q : Nat => s.heap.size ≤ q) b := Nat.not_le.mpr hbl
  have hSF : CF p m c cL_law 9 s #[Value.ref b] RL := ⟨hx, hb, hml, hown, hG⟩
  have hP : va_P D vwCl [((a 0), .inr (9, [.ref (a 1), .ref (a 12), .ref (a 32), .ref (a 38), .ref (a 46)])), ((a 52), .inr (15, [.ref (a 53), .ref (a 54), .ref (a 55), .ref (a 56), .ref (a 57), .ref (a 58), .ref (a 59), .ref (a 60), .ref (a 61), .ref (a 62), .ref (a 63), .ref (a 64), .ref (a 65), .ref (a 66), .ref (a 67), .ref (a 68), .ref (a 69), .ref (a 70), .long 0, .int 0, .int 2, .int 0, .int 0, .int 0, .int 0, .int 0, .int 0]))] H := hP.sub [0, 52] rfl
  have hD : va_D (fun q : Nat => s.heap.size ≤ q) [((a 0), .inr (9, [.ref (a 1), .ref (a 12), .ref (a 32), .ref (a 38), .ref (a 46)])), ((a 52), .inr (15, [.ref (a 53), .ref (a 54), .ref (a 55), .ref (a 56), .ref (a 57), .ref (a 58), .ref (a 59), .ref (a 60), .ref (a 61), .ref (a 62), .ref (a 63), .ref (a 64), .ref (a 65), .ref (a 66), .ref (a 67), .ref (a 68), .ref (a 69), .ref (a 70), .long 0, .int 0, .int 2, .int 0, .int 0, .int 0, .int 0, .int 0, .int 0]))] := hD.sub [0, 52] (by decide) rfl
  have hl : lv_has ls 9 [(5, .int 0), (4, .ref (a 72)), (3, .ref (a 71)), (2, .ref (a 52)), (1, .ref (a 0)), (0, .ref b)] := hl
  refine lv_aload_n hx hb dL_law_1233 rfl (lv_at hl 4 rfl) ?_
  refine lv_aload_n hx hb dL_law_1234 rfl (lv_at hl 5 rfl) ?_
  refine lv_iload hx hb dL_law_1235 (lv_at hl 0 rfl) ?_
  refine lv_iconst (v := 1) hx hb dL_law_1237 (by decide) ?_
  refine k_iadd (v := 1) hx hb dL_law_1238 (by decide) ?_
  refine k_script (x := (xs 1)) hx hb hX hbl hbA hS 1 (by decide) rfl (by subst hL; unfold vp_in; decide) dL_law_1239 ?_
  refine lv_aload_n hx hb dL_law_1240 rfl (lv_at hl 5 rfl) ?_
  refine lv_iload hx hb dL_law_1241 (lv_at hl 0 rfl) ?_
  refine lv_iconst (v := 2) hx hb dL_law_1243 (by decide) ?_
  refine k_iadd (v := 2) hx hb dL_law_1244 (by decide) ?_
  refine k_script (x := (xs 2)) hx hb hX hbl hbA hS 2 (by decide) rfl (by subst hL; unfold vp_in; decide) dL_law_1245 ?_
  refine lv_aload_n hx hb dL_law_1246 rfl (lv_at hl 5 rfl) ?_
  refine lv_iload hx hb dL_law_1247 (lv_at hl 0 rfl) ?_
  refine lv_iconst (v := 3) hx hb dL_law_1249 (by decide) ?_
  refine k_iadd (v := 3) hx hb dL_law_1250 (by decide) ?_
  refine k_script (x := (xs 3)) hx hb hX hbl hbA hS 3 (by decide) rfl (by subst hL; unfold vp_in; decide) dL_law_1251 ?_
  refine lv_aload_n hx hb dL_law_1252 rfl (lv_at hl 2 rfl) ?_
  refine ct_SW (wr := [((a 52), .inr (15, [.ref (a 53), .ref (a 54), .ref (a 55), .ref (a 56), .ref (a 57), .ref (a 58), .ref (a 59), .ref (a 60), .ref (a 61), .ref (a 62), .ref (a 63), .ref (a 64), .ref (a 65), .ref (a 66), .ref (a 67), .ref (a 68), .ref (a 69), .ref (a 70), .long 0, .int 0, .int 2, .int 0, .int 0, .int 0, .int 0, .int 0, .int 0]))]) hSF hl.1 hP hD hS hA hK hGV (c222_L_stick l hfl D cA g (a 0) (a 71) (a 1) (a 12) (a 32) (a 38) (a 46) ((xs 1)) ((xs 2)) ((xs 3)) k0) goW_L_186 pd_L_stick.2 ⟨(Nat.le_of_ble_eq_true rfl), (Nat.le_of_ble_eq_true rfl)⟩ ⟨(Nat.le_of_ble_eq_true rfl), (Nat.le_of_ble_eq_true rfl)⟩ dL_law_1253 rfl (Nat.le_of_ble_eq_true rfl) [0] [1] rfl (by decide) rfl (by decide) (by decide) (fun q => [((a 52), .inr (15, [.ref (a 53), .ref (a 54), .ref (a 55), .ref (a 56), .ref (a 57), .ref (a 58), .ref (a 59), .ref (a 60), .ref (a 61), .ref (a 62), .ref (a 63), .ref (a 64), .ref (a 65), .ref (a 66), .ref (a 67), .ref (a 68), .ref (a 69), .ref (a 70), .long 0, .int 0, .int 2, .int 0, .int 0, .int 0, .int 0, .int 0, .int 0])), ((a 0), .inr (9, [.ref (a 1), .ref (a 12), .ref (a 32), .ref (a 38), .ref (a 46)]))]) (fun _ => rfl) (fun q1 H locs hP hD hS => ?_)
  refine W.eq (g2 := F0 m 1256 ls [.int 1]) rfl ?_
  refine lv_istore (lv' := [(6, .int 1), (5, .int 0), (4, .ref (a 72)), (3, .ref (a 71)), (2, .ref (a 52)), (1, .ref (a 0)), (0, .ref b)]) hx hb dL_law_1256 hl (by decide) rfl (fun ls hl => ?_)
  refine lv_aload_n hx hb dL_law_1258 rfl (lv_at hl 4 rfl) ?_
  refine lv_aload_n hx hb dL_law_1259 rfl (lv_at hl 6 rfl) ?_
  refine lv_iload hx hb dL_law_1260 (lv_at hl 1 rfl) ?_
  refine lv_iconst (v := 1) hx hb dL_law_1262 (by decide) ?_
  refine k_iadd (v := 1) hx hb dL_law_1263 (by decide) ?_
  refine k_script (x := (xs 1)) hx hb hX hbl hbA hS 1 (by decide) rfl (by subst hL; unfold vp_in; decide) dL_law_1264 ?_
  refine lv_aload_n hx hb dL_law_1265 rfl (lv_at hl 6 rfl) ?_
  refine lv_iload hx hb dL_law_1266 (lv_at hl 1 rfl) ?_
  refine lv_iconst (v := 2) hx hb dL_law_1268 (by decide) ?_
  refine k_iadd (v := 2) hx hb dL_law_1269 (by decide) ?_
  refine k_script (x := (xs 2)) hx hb hX hbl hbA hS 2 (by decide) rfl (by subst hL; unfold vp_in; decide) dL_law_1270 ?_
  refine lv_aload_n hx hb dL_law_1271 rfl (lv_at hl 6 rfl) ?_
  refine lv_iload hx hb dL_law_1272 (lv_at hl 1 rfl) ?_
  refine lv_iconst (v := 3) hx hb dL_law_1274 (by decide) ?_
  refine k_iadd (v := 3) hx hb dL_law_1275 (by decide) ?_
  refine k_script (x := (xs 3)) hx hb hX hbl hbA hS 3 (by decide) rfl (by subst hL; unfold vp_in; decide) dL_law_1276 ?_
  refine ct_V (wr := []) hSF hl.1 hP hD hS hA hK hGV (c224_X12_stick l hfl D cA g (a 52) (a 53) (a 54) (a 55) (a 56) (a 57) (a 58) (a 59) (a 60) (a 61) (a 62) (a 63) (a 64) (a 65) (a 66) (a 67) (a 68) (a 69) (a 70) ((xs 1)) ((xs 2)) ((xs 3)) k1) goV_L_188 pd_X12_stick ⟨(Nat.le_of_ble_eq_true rfl), (Nat.le_of_ble_eq_true rfl)⟩ ⟨(Nat.le_of_ble_eq_true rfl), (Nat.le_of_ble_eq_true rfl)⟩ (va_recv hK hP (ci := 15) (q0 := 0) rfl rfl) dL_law_1277 rfl (Nat.le_of_ble_eq_true rfl) [0] [] rfl (by decide) rfl (by decide) (by decide) (fun q => [((a 52), .inr (15, [.ref (a 53), .ref (a 54), .ref (a 55), .ref (a 56), .ref (a 57), .ref (a 58), .ref (a 59), .ref (a 60), .ref (a 61), .ref (a 62), .ref (a 63), .ref (a 64), .ref (a 65), .ref (a 66), .ref (a 67), .ref (a 68), .ref (a 69), .ref (a 70), .long 0, .int 1, .int 2, .int 0, .int 0, .int 0, .int 0, .int 0, .int 0]))]) (fun _ => rfl) (fun q2 H locs hP hD hS => ?_)
  refine W.eq (g2 := F0 m 1280 ls [.int 0]) rfl ?_
  refine lv_istore (lv' := [(7, .int 0), (6, .int 1), (5, .int 0), (4, .ref (a 72)), (3, .ref (a 71)), (2, .ref (a 52)), (1, .ref (a 0)), (0, .ref b)]) hx hb dL_law_1280 hl (by decide) rfl (fun ls hl => ?_)
  refine lv_aload_n hx hb dL_law_1282 rfl (lv_at hl 5 rfl) ?_
  refine ct_V (wr := []) hSF hl.1 hP hD hS hA hK hGV (c17_X12_thrown l hfl D cA g (a 52) (a 53) (a 54) (a 55) (a 56) (a 57) (a 58) (a 59) (a 60) (a 61) (a 62) (a 63) (a 64) (a 65) (a 66) (a 67) (a 68) (a 69) (a 70)) goV_L_125 pd_X12_thrown ⟨(Nat.le_of_ble_eq_true rfl), (Nat.le_of_ble_eq_true rfl)⟩ ⟨(Nat.le_of_ble_eq_true rfl), (Nat.le_of_ble_eq_true rfl)⟩ (va_recv hK hP (ci := 15) (q0 := 0) rfl rfl) dL_law_1283 rfl (Nat.le_of_ble_eq_true rfl) [0] [] rfl (by decide) rfl (by decide) (by decide) (fun q => [((a 52), .inr (15, [.ref (a 53), .ref (a 54), .ref (a 55), .ref (a 56), .ref (a 57), .ref (a 58), .ref (a 59), .ref (a 60), .ref (a 61), .ref (a 62), .ref (a 63), .ref (a 64), .ref (a 65), .ref (a 66), .ref (a 67), .ref (a 68), .ref (a 69), .ref (a 70), .long 0, .int 1, .int 2, .int 0, .int 0, .int 0, .int 0, .int 0, .int 0]))]) (fun _ => rfl) (fun q3 H locs hP hD hS => ?_)
  refine W.eq (g2 := F0 m 1286 ls [.int 1]) rfl ?_
  refine lv_iload hx hb dL_law_1286 (lv_at hl 1 rfl) ?_
  refine k_icmp_eq_t (tgt := 1293) hx hb dL_law_1288 (by decide) (by decide) ?_
  refine lv_iload hx hb dL_law_1293 (lv_at hl 1 rfl) ?_
  refine k_if_ne_t (tgt := 1310) hx hb dL_law_1295 (by decide) (by decide) ?_
  refine lv_goto (tgt := 1963) hx hb dL_law_1310 (by decide) ?_
  exact law_tail l hL C0 (Nat.le_of_ble_eq_true rfl) (Nat.le_of_ble_eq_true rfl) hS (lv_sub hl [2, 7] rfl)
set_option maxHeartbeats 4000000 in
set_option maxRecDepth 100000 in
theorem lc_17_1 {p : Program} {e : Env} {s : State} {m : MethodId} {below : List Frame} {meth : Method} {c : Code} (l : Launch) (hfl : l.stackTraces = false) {b L : Nat} {xs : Nat → Int32} (hL : L = 6) (C0 : lw_At p s m meth c b L xs) (D : va_G) (cA : Nat → ClassId) (g : gv_T) (hK : va_K D vwCl (TYS cA) s) (hGV : GV g (fun q : Nat => s.heap.size ≤ q) s s.heap) (a : Nat → Nat) {H : Heap} {locs : List Loc} (hP : va_P D vwCl (WL cA g a) H) (hD : va_D (fun q : Nat => s.heap.size ≤ q) (WL cA g a)) (hS : va_S (fun q : Nat => s.heap.size ≤ q) s.heap H locs) {ls : Array Slot} (hl : lv_has ls 9 [(5, .int 0), (4, .ref (a 72)), (3, .ref (a 71)), (2, .ref (a 52)), (1, .ref (a 0)), (0, .ref b)]) (k0 : ¬ (xs 1) < 1) (k1 : 900 < (xs 1)) (k2 : ¬ (lg_cmp ((xs 1)).toInt64 1) < 0) (k3 : 0 < (lg_cmp ((xs 1)).toInt64 900)) : W p l e room_1 s m #[Value.ref b] below meth c H locs 73 8292 (lw_Z below #[Value.ref b] s) (F0 m 1233 ls []) := by
  obtain ⟨hx, hb, hr, hml, hown, hts, hX, hbl, hlocks, hgv⟩ := id C0
  have hb : c.code = cL_law := hb
  have hown : s.vm.findClass RL = some m.cls := hown
  have hG : ∀ w ∈ GW, w.before #[Value.ref b] s = true := fun w hw => hts w (List.mem_filter.mp hw).1
  have hA : ∀ q : Nat, s.heap.size ≤ q → (fun q : Nat => s.heap.size ≤ q) q := fun _ h => h
  have hbA : ¬ (fun q : Nat => s.heap.size ≤ q) b := Nat.not_le.mpr hbl
  have hSF : CF p m c cL_law 9 s #[Value.ref b] RL := ⟨hx, hb, hml, hown, hG⟩
  have hP : va_P D vwCl [((a 0), .inr (9, [.ref (a 1), .ref (a 12), .ref (a 32), .ref (a 38), .ref (a 46)])), ((a 52), .inr (15, [.ref (a 53), .ref (a 54), .ref (a 55), .ref (a 56), .ref (a 57), .ref (a 58), .ref (a 59), .ref (a 60), .ref (a 61), .ref (a 62), .ref (a 63), .ref (a 64), .ref (a 65), .ref (a 66), .ref (a 67), .ref (a 68), .ref (a 69), .ref (a 70), .long 0, .int 0, .int 2, .int 0, .int 0, .int 0, .int 0, .int 0, .int 0]))] H := hP.sub [0, 52] rfl
  have hD : va_D (fun q : Nat => s.heap.size ≤ q) [((a 0), .inr (9, [.ref (a 1), .ref (a 12), .ref (a 32), .ref (a 38), .ref (a 46)])), ((a 52), .inr (15, [.ref (a 53), .ref (a 54), .ref (a 55), .ref (a 56), .ref (a 57), .ref (a 58), .ref (a 59), .ref (a 60), .ref (a 61), .ref (a 62), .ref (a 63), .ref (a 64), .ref (a 65), .ref (a 66), .ref (a 67), .ref (a 68), .ref (a 69), .ref (a 70), .long 0, .int 0, .int 2, .int 0, .int 0, .int 0, .int 0, .int 0, .int 0]))] := hD.sub [0, 52] (by decide) rfl
  have hl : lv_has ls 9 [(5, .int 0), (4, .ref (a 72)), (3, .ref (a 71)), (2, .ref (a 52)), (1, .ref (a 0)), (0, .ref b)] := hl
  refine lv_aload_n hx hb dL_law_1233 rfl (lv_at hl 4 rfl) ?_
  refine lv_aload_n hx hb dL_law_1234 rfl (lv_at hl 5 rfl) ?_
  refine lv_iload hx hb dL_law_1235 (lv_at hl 0 rfl) ?_
  refine lv_iconst (v := 1) hx hb dL_law_1237 (by decide) ?_
  refine k_iadd (v := 1) hx hb dL_law_1238 (by decide) ?_
  refine k_script (x := (xs 1)) hx hb hX hbl hbA hS 1 (by decide) rfl (by subst hL; unfold vp_in; decide) dL_law_1239 ?_
  refine lv_aload_n hx hb dL_law_1240 rfl (lv_at hl 5 rfl) ?_
  refine lv_iload hx hb dL_law_1241 (lv_at hl 0 rfl) ?_
  refine lv_iconst (v := 2) hx hb dL_law_1243 (by decide) ?_
  refine k_iadd (v := 2) hx hb dL_law_1244 (by decide) ?_
  refine k_script (x := (xs 2)) hx hb hX hbl hbA hS 2 (by decide) rfl (by subst hL; unfold vp_in; decide) dL_law_1245 ?_
  refine lv_aload_n hx hb dL_law_1246 rfl (lv_at hl 5 rfl) ?_
  refine lv_iload hx hb dL_law_1247 (lv_at hl 0 rfl) ?_
  refine lv_iconst (v := 3) hx hb dL_law_1249 (by decide) ?_
  refine k_iadd (v := 3) hx hb dL_law_1250 (by decide) ?_
  refine k_script (x := (xs 3)) hx hb hX hbl hbA hS 3 (by decide) rfl (by subst hL; unfold vp_in; decide) dL_law_1251 ?_
  refine lv_aload_n hx hb dL_law_1252 rfl (lv_at hl 2 rfl) ?_
  refine ct_SW (wr := [((a 52), .inr (15, [.ref (a 53), .ref (a 54), .ref (a 55), .ref (a 56), .ref (a 57), .ref (a 58), .ref (a 59), .ref (a 60), .ref (a 61), .ref (a 62), .ref (a 63), .ref (a 64), .ref (a 65), .ref (a 66), .ref (a 67), .ref (a 68), .ref (a 69), .ref (a 70), .long 0, .int 0, .int 2, .int 0, .int 0, .int 0, .int 0, .int 0, .int 0]))]) hSF hl.1 hP hD hS hA hK hGV (c227_L_stick l hfl D cA g (a 0) (a 71) (a 1) (a 12) (a 32) (a 38) (a 46) ((xs 1)) ((xs 2)) ((xs 3)) k0 k1) goW_L_186 pd_L_stick.2 ⟨(Nat.le_of_ble_eq_true rfl), (Nat.le_of_ble_eq_true rfl)⟩ ⟨(Nat.le_of_ble_eq_true rfl), (Nat.le_of_ble_eq_true rfl)⟩ dL_law_1253 rfl (Nat.le_of_ble_eq_true rfl) [0] [1] rfl (by decide) rfl (by decide) (by decide) (fun q => [((a 52), .inr (15, [.ref (a 53), .ref (a 54), .ref (a 55), .ref (a 56), .ref (a 57), .ref (a 58), .ref (a 59), .ref (a 60), .ref (a 61), .ref (a 62), .ref (a 63), .ref (a 64), .ref (a 65), .ref (a 66), .ref (a 67), .ref (a 68), .ref (a 69), .ref (a 70), .long 0, .int 0, .int 2, .int 0, .int 0, .int 0, .int 0, .int 0, .int 0])), ((a 0), .inr (9, [.ref (a 1), .ref (a 12), .ref (a 32), .ref (a 38), .ref (a 46)]))]) (fun _ => rfl) (fun q1 H locs hP hD hS => ?_)
  refine W.eq (g2 := F0 m 1256 ls [.int 1]) rfl ?_
  refine lv_istore (lv' := [(6, .int 1), (5, .int 0), (4, .ref (a 72)), (3, .ref (a 71)), (2, .ref (a 52)), (1, .ref (a 0)), (0, .ref b)]) hx hb dL_law_1256 hl (by decide) rfl (fun ls hl => ?_)
  refine lv_aload_n hx hb dL_law_1258 rfl (lv_at hl 4 rfl) ?_
  refine lv_aload_n hx hb dL_law_1259 rfl (lv_at hl 6 rfl) ?_
  refine lv_iload hx hb dL_law_1260 (lv_at hl 1 rfl) ?_
  refine lv_iconst (v := 1) hx hb dL_law_1262 (by decide) ?_
  refine k_iadd (v := 1) hx hb dL_law_1263 (by decide) ?_
  refine k_script (x := (xs 1)) hx hb hX hbl hbA hS 1 (by decide) rfl (by subst hL; unfold vp_in; decide) dL_law_1264 ?_
  refine lv_aload_n hx hb dL_law_1265 rfl (lv_at hl 6 rfl) ?_
  refine lv_iload hx hb dL_law_1266 (lv_at hl 1 rfl) ?_
  refine lv_iconst (v := 2) hx hb dL_law_1268 (by decide) ?_
  refine k_iadd (v := 2) hx hb dL_law_1269 (by decide) ?_
  refine k_script (x := (xs 2)) hx hb hX hbl hbA hS 2 (by decide) rfl (by subst hL; unfold vp_in; decide) dL_law_1270 ?_
  refine lv_aload_n hx hb dL_law_1271 rfl (lv_at hl 6 rfl) ?_
  refine lv_iload hx hb dL_law_1272 (lv_at hl 1 rfl) ?_
  refine lv_iconst (v := 3) hx hb dL_law_1274 (by decide) ?_
  refine k_iadd (v := 3) hx hb dL_law_1275 (by decide) ?_
  refine k_script (x := (xs 3)) hx hb hX hbl hbA hS 3 (by decide) rfl (by subst hL; unfold vp_in; decide) dL_law_1276 ?_
  refine ct_V (wr := []) hSF hl.1 hP hD hS hA hK hGV (c229_X12_stick l hfl D cA g (a 52) (a 53) (a 54) (a 55) (a 56) (a 57) (a 58) (a 59) (a 60) (a 61) (a 62) (a 63) (a 64) (a 65) (a 66) (a 67) (a 68) (a 69) (a 70) ((xs 1)) ((xs 2)) ((xs 3)) k2 k3) goV_L_188 pd_X12_stick ⟨(Nat.le_of_ble_eq_true rfl), (Nat.le_of_ble_eq_true rfl)⟩ ⟨(Nat.le_of_ble_eq_true rfl), (Nat.le_of_ble_eq_true rfl)⟩ (va_recv hK hP (ci := 15) (q0 := 0) rfl rfl) dL_law_1277 rfl (Nat.le_of_ble_eq_true rfl) [0] [] rfl (by decide) rfl (by decide) (by decide) (fun q => [((a 52), .inr (15, [.ref (a 53), .ref (a 54), .ref (a 55), .ref (a 56), .ref (a 57), .ref (a 58), .ref (a 59), .ref (a 60), .ref (a 61), .ref (a 62), .ref (a 63), .ref (a 64), .ref (a 65), .ref (a 66), .ref (a 67), .ref (a 68), .ref (a 69), .ref (a 70), .long 0, .int 1, .int 2, .int 0, .int 0, .int 0, .int 0, .int 0, .int 0]))]) (fun _ => rfl) (fun q2 H locs hP hD hS => ?_)
  refine W.eq (g2 := F0 m 1280 ls [.int 0]) rfl ?_
  refine lv_istore (lv' := [(7, .int 0), (6, .int 1), (5, .int 0), (4, .ref (a 72)), (3, .ref (a 71)), (2, .ref (a 52)), (1, .ref (a 0)), (0, .ref b)]) hx hb dL_law_1280 hl (by decide) rfl (fun ls hl => ?_)
  refine lv_aload_n hx hb dL_law_1282 rfl (lv_at hl 5 rfl) ?_
  refine ct_V (wr := []) hSF hl.1 hP hD hS hA hK hGV (c17_X12_thrown l hfl D cA g (a 52) (a 53) (a 54) (a 55) (a 56) (a 57) (a 58) (a 59) (a 60) (a 61) (a 62) (a 63) (a 64) (a 65) (a 66) (a 67) (a 68) (a 69) (a 70)) goV_L_125 pd_X12_thrown ⟨(Nat.le_of_ble_eq_true rfl), (Nat.le_of_ble_eq_true rfl)⟩ ⟨(Nat.le_of_ble_eq_true rfl), (Nat.le_of_ble_eq_true rfl)⟩ (va_recv hK hP (ci := 15) (q0 := 0) rfl rfl) dL_law_1283 rfl (Nat.le_of_ble_eq_true rfl) [0] [] rfl (by decide) rfl (by decide) (by decide) (fun q => [((a 52), .inr (15, [.ref (a 53), .ref (a 54), .ref (a 55), .ref (a 56), .ref (a 57), .ref (a 58), .ref (a 59), .ref (a 60), .ref (a 61), .ref (a 62), .ref (a 63), .ref (a 64), .ref (a 65), .ref (a 66), .ref (a 67), .ref (a 68), .ref (a 69), .ref (a 70), .long 0, .int 1, .int 2, .int 0, .int 0, .int 0, .int 0, .int 0, .int 0]))]) (fun _ => rfl) (fun q3 H locs hP hD hS => ?_)
  refine W.eq (g2 := F0 m 1286 ls [.int 1]) rfl ?_
  refine lv_iload hx hb dL_law_1286 (lv_at hl 1 rfl) ?_
  refine k_icmp_eq_t (tgt := 1293) hx hb dL_law_1288 (by decide) (by decide) ?_
  refine lv_iload hx hb dL_law_1293 (lv_at hl 1 rfl) ?_
  refine k_if_ne_t (tgt := 1310) hx hb dL_law_1295 (by decide) (by decide) ?_
  refine lv_goto (tgt := 1963) hx hb dL_law_1310 (by decide) ?_
  exact law_tail l hL C0 (Nat.le_of_ble_eq_true rfl) (Nat.le_of_ble_eq_true rfl) hS (lv_sub hl [2, 7] rfl)
set_option maxHeartbeats 4000000 in
set_option maxRecDepth 100000 in
theorem lc_17_2 {p : Program} {e : Env} {s : State} {m : MethodId} {below : List Frame} {meth : Method} {c : Code} (l : Launch) (hfl : l.stackTraces = false) {b L : Nat} {xs : Nat → Int32} (hL : L = 6) (C0 : lw_At p s m meth c b L xs) (D : va_G) (cA : Nat → ClassId) (g : gv_T) (hK : va_K D vwCl (TYS cA) s) (hGV : GV g (fun q : Nat => s.heap.size ≤ q) s s.heap) (a : Nat → Nat) {H : Heap} {locs : List Loc} (hP : va_P D vwCl (WL cA g a) H) (hD : va_D (fun q : Nat => s.heap.size ≤ q) (WL cA g a)) (hS : va_S (fun q : Nat => s.heap.size ≤ q) s.heap H locs) {ls : Array Slot} (hl : lv_has ls 9 [(5, .int 0), (4, .ref (a 72)), (3, .ref (a 71)), (2, .ref (a 52)), (1, .ref (a 0)), (0, .ref b)]) (k0 : ¬ (xs 1) < 1) (k1 : ¬ 900 < (xs 1)) (k2 : (xs 2) < 6) (k3 : ¬ (lg_cmp ((xs 1)).toInt64 1) < 0) (k4 : ¬ 0 < (lg_cmp ((xs 1)).toInt64 900)) (k5 : (lg_cmp ((xs 2)).toInt64 6) < 0) : W p l e room_1 s m #[Value.ref b] below meth c H locs 73 8292 (lw_Z below #[Value.ref b] s) (F0 m 1233 ls []) := by
  obtain ⟨hx, hb, hr, hml, hown, hts, hX, hbl, hlocks, hgv⟩ := id C0
  have hb : c.code = cL_law := hb
  have hown : s.vm.findClass RL = some m.cls := hown
  have hG : ∀ w ∈ GW, w.before #[Value.ref b] s = true := fun w hw => hts w (List.mem_filter.mp hw).1
  have hA : ∀ q : Nat, s.heap.size ≤ q → (fun q : Nat => s.heap.size ≤ q) q := fun _ h => h
  have hbA : ¬ (fun q : Nat => s.heap.size ≤ q) b := Nat.not_le.mpr hbl
  have hSF : CF p m c cL_law 9 s #[Value.ref b] RL := ⟨hx, hb, hml, hown, hG⟩
  have hP : va_P D vwCl [((a 0), .inr (9, [.ref (a 1), .ref (a 12), .ref (a 32), .ref (a 38), .ref (a 46)])), ((a 52), .inr (15, [.ref (a 53), .ref (a 54), .ref (a 55), .ref (a 56), .ref (a 57), .ref (a 58), .ref (a 59), .ref (a 60), .ref (a 61), .ref (a 62), .ref (a 63), .ref (a 64), .ref (a 65), .ref (a 66), .ref (a 67), .ref (a 68), .ref (a 69), .ref (a 70), .long 0, .int 0, .int 2, .int 0, .int 0, .int 0, .int 0, .int 0, .int 0]))] H := hP.sub [0, 52] rfl
  have hD : va_D (fun q : Nat => s.heap.size ≤ q) [((a 0), .inr (9, [.ref (a 1), .ref (a 12), .ref (a 32), .ref (a 38), .ref (a 46)])), ((a 52), .inr (15, [.ref (a 53), .ref (a 54), .ref (a 55), .ref (a 56), .ref (a 57), .ref (a 58), .ref (a 59), .ref (a 60), .ref (a 61), .ref (a 62), .ref (a 63), .ref (a 64), .ref (a 65), .ref (a 66), .ref (a 67), .ref (a 68), .ref (a 69), .ref (a 70), .long 0, .int 0, .int 2, .int 0, .int 0, .int 0, .int 0, .int 0, .int 0]))] := hD.sub [0, 52] (by decide) rfl
  have hl : lv_has ls 9 [(5, .int 0), (4, .ref (a 72)), (3, .ref (a 71)), (2, .ref (a 52)), (1, .ref (a 0)), (0, .ref b)] := hl
  refine lv_aload_n hx hb dL_law_1233 rfl (lv_at hl 4 rfl) ?_
  refine lv_aload_n hx hb dL_law_1234 rfl (lv_at hl 5 rfl) ?_
  refine lv_iload hx hb dL_law_1235 (lv_at hl 0 rfl) ?_
  refine lv_iconst (v := 1) hx hb dL_law_1237 (by decide) ?_
  refine k_iadd (v := 1) hx hb dL_law_1238 (by decide) ?_
  refine k_script (x := (xs 1)) hx hb hX hbl hbA hS 1 (by decide) rfl (by subst hL; unfold vp_in; decide) dL_law_1239 ?_
  refine lv_aload_n hx hb dL_law_1240 rfl (lv_at hl 5 rfl) ?_
  refine lv_iload hx hb dL_law_1241 (lv_at hl 0 rfl) ?_
  refine lv_iconst (v := 2) hx hb dL_law_1243 (by decide) ?_
  refine k_iadd (v := 2) hx hb dL_law_1244 (by decide) ?_
  refine k_script (x := (xs 2)) hx hb hX hbl hbA hS 2 (by decide) rfl (by subst hL; unfold vp_in; decide) dL_law_1245 ?_
  refine lv_aload_n hx hb dL_law_1246 rfl (lv_at hl 5 rfl) ?_
  refine lv_iload hx hb dL_law_1247 (lv_at hl 0 rfl) ?_
  refine lv_iconst (v := 3) hx hb dL_law_1249 (by decide) ?_
  refine k_iadd (v := 3) hx hb dL_law_1250 (by decide) ?_
  refine k_script (x := (xs 3)) hx hb hX hbl hbA hS 3 (by decide) rfl (by subst hL; unfold vp_in; decide) dL_law_1251 ?_
  refine lv_aload_n hx hb dL_law_1252 rfl (lv_at hl 2 rfl) ?_
  refine ct_SW (wr := [((a 52), .inr (15, [.ref (a 53), .ref (a 54), .ref (a 55), .ref (a 56), .ref (a 57), .ref (a 58), .ref (a 59), .ref (a 60), .ref (a 61), .ref (a 62), .ref (a 63), .ref (a 64), .ref (a 65), .ref (a 66), .ref (a 67), .ref (a 68), .ref (a 69), .ref (a 70), .long 0, .int 0, .int 2, .int 0, .int 0, .int 0, .int 0, .int 0, .int 0]))]) hSF hl.1 hP hD hS hA hK hGV (c234_L_stick l hfl D cA g (a 0) (a 71) (a 1) (a 12) (a 32) (a 38) (a 46) ((xs 1)) ((xs 2)) ((xs 3)) k0 k1 k2) goW_L_186 pd_L_stick.2 ⟨(Nat.le_of_ble_eq_true rfl), (Nat.le_of_ble_eq_true rfl)⟩ ⟨(Nat.le_of_ble_eq_true rfl), (Nat.le_of_ble_eq_true rfl)⟩ dL_law_1253 rfl (Nat.le_of_ble_eq_true rfl) [0] [1] rfl (by decide) rfl (by decide) (by decide) (fun q => [((a 52), .inr (15, [.ref (a 53), .ref (a 54), .ref (a 55), .ref (a 56), .ref (a 57), .ref (a 58), .ref (a 59), .ref (a 60), .ref (a 61), .ref (a 62), .ref (a 63), .ref (a 64), .ref (a 65), .ref (a 66), .ref (a 67), .ref (a 68), .ref (a 69), .ref (a 70), .long 0, .int 0, .int 2, .int 0, .int 0, .int 0, .int 0, .int 0, .int 0])), ((a 0), .inr (9, [.ref (a 1), .ref (a 12), .ref (a 32), .ref (a 38), .ref (a 46)]))]) (fun _ => rfl) (fun q1 H locs hP hD hS => ?_)
  refine W.eq (g2 := F0 m 1256 ls [.int 1]) rfl ?_
  refine lv_istore (lv' := [(6, .int 1), (5, .int 0), (4, .ref (a 72)), (3, .ref (a 71)), (2, .ref (a 52)), (1, .ref (a 0)), (0, .ref b)]) hx hb dL_law_1256 hl (by decide) rfl (fun ls hl => ?_)
  refine lv_aload_n hx hb dL_law_1258 rfl (lv_at hl 4 rfl) ?_
  refine lv_aload_n hx hb dL_law_1259 rfl (lv_at hl 6 rfl) ?_
  refine lv_iload hx hb dL_law_1260 (lv_at hl 1 rfl) ?_
  refine lv_iconst (v := 1) hx hb dL_law_1262 (by decide) ?_
  refine k_iadd (v := 1) hx hb dL_law_1263 (by decide) ?_
  refine k_script (x := (xs 1)) hx hb hX hbl hbA hS 1 (by decide) rfl (by subst hL; unfold vp_in; decide) dL_law_1264 ?_
  refine lv_aload_n hx hb dL_law_1265 rfl (lv_at hl 6 rfl) ?_
  refine lv_iload hx hb dL_law_1266 (lv_at hl 1 rfl) ?_
  refine lv_iconst (v := 2) hx hb dL_law_1268 (by decide) ?_
  refine k_iadd (v := 2) hx hb dL_law_1269 (by decide) ?_
  refine k_script (x := (xs 2)) hx hb hX hbl hbA hS 2 (by decide) rfl (by subst hL; unfold vp_in; decide) dL_law_1270 ?_
  refine lv_aload_n hx hb dL_law_1271 rfl (lv_at hl 6 rfl) ?_
  refine lv_iload hx hb dL_law_1272 (lv_at hl 1 rfl) ?_
  refine lv_iconst (v := 3) hx hb dL_law_1274 (by decide) ?_
  refine k_iadd (v := 3) hx hb dL_law_1275 (by decide) ?_
  refine k_script (x := (xs 3)) hx hb hX hbl hbA hS 3 (by decide) rfl (by subst hL; unfold vp_in; decide) dL_law_1276 ?_
  refine ct_V (wr := []) hSF hl.1 hP hD hS hA hK hGV (c237_X12_stick l hfl D cA g (a 52) (a 53) (a 54) (a 55) (a 56) (a 57) (a 58) (a 59) (a 60) (a 61) (a 62) (a 63) (a 64) (a 65) (a 66) (a 67) (a 68) (a 69) (a 70) ((xs 1)) ((xs 2)) ((xs 3)) k3 k4 k5) goV_L_188 pd_X12_stick ⟨(Nat.le_of_ble_eq_true rfl), (Nat.le_of_ble_eq_true rfl)⟩ ⟨(Nat.le_of_ble_eq_true rfl), (Nat.le_of_ble_eq_true rfl)⟩ (va_recv hK hP (ci := 15) (q0 := 0) rfl rfl) dL_law_1277 rfl (Nat.le_of_ble_eq_true rfl) [0] [] rfl (by decide) rfl (by decide) (by decide) (fun q => [((a 52), .inr (15, [.ref (a 53), .ref (a 54), .ref (a 55), .ref (a 56), .ref (a 57), .ref (a 58), .ref (a 59), .ref (a 60), .ref (a 61), .ref (a 62), .ref (a 63), .ref (a 64), .ref (a 65), .ref (a 66), .ref (a 67), .ref (a 68), .ref (a 69), .ref (a 70), .long 0, .int 1, .int 2, .int 0, .int 0, .int 0, .int 0, .int 0, .int 0]))]) (fun _ => rfl) (fun q2 H locs hP hD hS => ?_)
  refine W.eq (g2 := F0 m 1280 ls [.int 0]) rfl ?_
  refine lv_istore (lv' := [(7, .int 0), (6, .int 1), (5, .int 0), (4, .ref (a 72)), (3, .ref (a 71)), (2, .ref (a 52)), (1, .ref (a 0)), (0, .ref b)]) hx hb dL_law_1280 hl (by decide) rfl (fun ls hl => ?_)
  refine lv_aload_n hx hb dL_law_1282 rfl (lv_at hl 5 rfl) ?_
  refine ct_V (wr := []) hSF hl.1 hP hD hS hA hK hGV (c17_X12_thrown l hfl D cA g (a 52) (a 53) (a 54) (a 55) (a 56) (a 57) (a 58) (a 59) (a 60) (a 61) (a 62) (a 63) (a 64) (a 65) (a 66) (a 67) (a 68) (a 69) (a 70)) goV_L_125 pd_X12_thrown ⟨(Nat.le_of_ble_eq_true rfl), (Nat.le_of_ble_eq_true rfl)⟩ ⟨(Nat.le_of_ble_eq_true rfl), (Nat.le_of_ble_eq_true rfl)⟩ (va_recv hK hP (ci := 15) (q0 := 0) rfl rfl) dL_law_1283 rfl (Nat.le_of_ble_eq_true rfl) [0] [] rfl (by decide) rfl (by decide) (by decide) (fun q => [((a 52), .inr (15, [.ref (a 53), .ref (a 54), .ref (a 55), .ref (a 56), .ref (a 57), .ref (a 58), .ref (a 59), .ref (a 60), .ref (a 61), .ref (a 62), .ref (a 63), .ref (a 64), .ref (a 65), .ref (a 66), .ref (a 67), .ref (a 68), .ref (a 69), .ref (a 70), .long 0, .int 1, .int 2, .int 0, .int 0, .int 0, .int 0, .int 0, .int 0]))]) (fun _ => rfl) (fun q3 H locs hP hD hS => ?_)
  refine W.eq (g2 := F0 m 1286 ls [.int 1]) rfl ?_
  refine lv_iload hx hb dL_law_1286 (lv_at hl 1 rfl) ?_
  refine k_icmp_eq_t (tgt := 1293) hx hb dL_law_1288 (by decide) (by decide) ?_
  refine lv_iload hx hb dL_law_1293 (lv_at hl 1 rfl) ?_
  refine k_if_ne_t (tgt := 1310) hx hb dL_law_1295 (by decide) (by decide) ?_
  refine lv_goto (tgt := 1963) hx hb dL_law_1310 (by decide) ?_
  exact law_tail l hL C0 (Nat.le_of_ble_eq_true rfl) (Nat.le_of_ble_eq_true rfl) hS (lv_sub hl [2, 7] rfl)
set_option maxHeartbeats 4000000 in
set_option maxRecDepth 100000 in
theorem lc_17_3 {p : Program} {e : Env} {s : State} {m : MethodId} {below : List Frame} {meth : Method} {c : Code} (l : Launch) (hfl : l.stackTraces = false) {b L : Nat} {xs : Nat → Int32} (hL : L = 6) (C0 : lw_At p s m meth c b L xs) (D : va_G) (cA : Nat → ClassId) (g : gv_T) (hK : va_K D vwCl (TYS cA) s) (hGV : GV g (fun q : Nat => s.heap.size ≤ q) s s.heap) (a : Nat → Nat) {H : Heap} {locs : List Loc} (hP : va_P D vwCl (WL cA g a) H) (hD : va_D (fun q : Nat => s.heap.size ≤ q) (WL cA g a)) (hS : va_S (fun q : Nat => s.heap.size ≤ q) s.heap H locs) {ls : Array Slot} (hl : lv_has ls 9 [(5, .int 0), (4, .ref (a 72)), (3, .ref (a 71)), (2, .ref (a 52)), (1, .ref (a 0)), (0, .ref b)]) (k0 : ¬ (xs 1) < 1) (k1 : ¬ 900 < (xs 1)) (k2 : ¬ (xs 2) < 6) (k3 : 40 < (xs 2)) (k4 : ¬ (lg_cmp ((xs 1)).toInt64 1) < 0) (k5 : ¬ 0 < (lg_cmp ((xs 1)).toInt64 900)) (k6 : ¬ (lg_cmp ((xs 2)).toInt64 6) < 0) (k7 : 0 < (lg_cmp ((xs 2)).toInt64 40)) : W p l e room_1 s m #[Value.ref b] below meth c H locs 73 8292 (lw_Z below #[Value.ref b] s) (F0 m 1233 ls []) := by
  obtain ⟨hx, hb, hr, hml, hown, hts, hX, hbl, hlocks, hgv⟩ := id C0
  have hb : c.code = cL_law := hb
  have hown : s.vm.findClass RL = some m.cls := hown
  have hG : ∀ w ∈ GW, w.before #[Value.ref b] s = true := fun w hw => hts w (List.mem_filter.mp hw).1
  have hA : ∀ q : Nat, s.heap.size ≤ q → (fun q : Nat => s.heap.size ≤ q) q := fun _ h => h
  have hbA : ¬ (fun q : Nat => s.heap.size ≤ q) b := Nat.not_le.mpr hbl
  have hSF : CF p m c cL_law 9 s #[Value.ref b] RL := ⟨hx, hb, hml, hown, hG⟩
  have hP : va_P D vwCl [((a 0), .inr (9, [.ref (a 1), .ref (a 12), .ref (a 32), .ref (a 38), .ref (a 46)])), ((a 52), .inr (15, [.ref (a 53), .ref (a 54), .ref (a 55), .ref (a 56), .ref (a 57), .ref (a 58), .ref (a 59), .ref (a 60), .ref (a 61), .ref (a 62), .ref (a 63), .ref (a 64), .ref (a 65), .ref (a 66), .ref (a 67), .ref (a 68), .ref (a 69), .ref (a 70), .long 0, .int 0, .int 2, .int 0, .int 0, .int 0, .int 0, .int 0, .int 0]))] H := hP.sub [0, 52] rfl
  have hD : va_D (fun q : Nat => s.heap.size ≤ q) [((a 0), .inr (9, [.ref (a 1), .ref (a 12), .ref (a 32), .ref (a 38), .ref (a 46)])), ((a 52), .inr (15, [.ref (a 53), .ref (a 54), .ref (a 55), .ref (a 56), .ref (a 57), .ref (a 58), .ref (a 59), .ref (a 60), .ref (a 61), .ref (a 62), .ref (a 63), .ref (a 64), .ref (a 65), .ref (a 66), .ref (a 67), .ref (a 68), .ref (a 69), .ref (a 70), .long 0, .int 0, .int 2, .int 0, .int 0, .int 0, .int 0, .int 0, .int 0]))] := hD.sub [0, 52] (by decide) rfl
  have hl : lv_has ls 9 [(5, .int 0), (4, .ref (a 72)), (3, .ref (a 71)), (2, .ref (a 52)), (1, .ref (a 0)), (0, .ref b)] := hl
  refine lv_aload_n hx hb dL_law_1233 rfl (lv_at hl 4 rfl) ?_
  refine lv_aload_n hx hb dL_law_1234 rfl (lv_at hl 5 rfl) ?_
  refine lv_iload hx hb dL_law_1235 (lv_at hl 0 rfl) ?_
  refine lv_iconst (v := 1) hx hb dL_law_1237 (by decide) ?_
  refine k_iadd (v := 1) hx hb dL_law_1238 (by decide) ?_
  refine k_script (x := (xs 1)) hx hb hX hbl hbA hS 1 (by decide) rfl (by subst hL; unfold vp_in; decide) dL_law_1239 ?_
  refine lv_aload_n hx hb dL_law_1240 rfl (lv_at hl 5 rfl) ?_
  refine lv_iload hx hb dL_law_1241 (lv_at hl 0 rfl) ?_
  refine lv_iconst (v := 2) hx hb dL_law_1243 (by decide) ?_
  refine k_iadd (v := 2) hx hb dL_law_1244 (by decide) ?_
  refine k_script (x := (xs 2)) hx hb hX hbl hbA hS 2 (by decide) rfl (by subst hL; unfold vp_in; decide) dL_law_1245 ?_
  refine lv_aload_n hx hb dL_law_1246 rfl (lv_at hl 5 rfl) ?_
  refine lv_iload hx hb dL_law_1247 (lv_at hl 0 rfl) ?_
  refine lv_iconst (v := 3) hx hb dL_law_1249 (by decide) ?_
  refine k_iadd (v := 3) hx hb dL_law_1250 (by decide) ?_
  refine k_script (x := (xs 3)) hx hb hX hbl hbA hS 3 (by decide) rfl (by subst hL; unfold vp_in; decide) dL_law_1251 ?_
  refine lv_aload_n hx hb dL_law_1252 rfl (lv_at hl 2 rfl) ?_
  refine ct_SW (wr := [((a 52), .inr (15, [.ref (a 53), .ref (a 54), .ref (a 55), .ref (a 56), .ref (a 57), .ref (a 58), .ref (a 59), .ref (a 60), .ref (a 61), .ref (a 62), .ref (a 63), .ref (a 64), .ref (a 65), .ref (a 66), .ref (a 67), .ref (a 68), .ref (a 69), .ref (a 70), .long 0, .int 0, .int 2, .int 0, .int 0, .int 0, .int 0, .int 0, .int 0]))]) hSF hl.1 hP hD hS hA hK hGV (c241_L_stick l hfl D cA g (a 0) (a 71) (a 1) (a 12) (a 32) (a 38) (a 46) ((xs 1)) ((xs 2)) ((xs 3)) k0 k1 k2 k3) goW_L_186 pd_L_stick.2 ⟨(Nat.le_of_ble_eq_true rfl), (Nat.le_of_ble_eq_true rfl)⟩ ⟨(Nat.le_of_ble_eq_true rfl), (Nat.le_of_ble_eq_true rfl)⟩ dL_law_1253 rfl (Nat.le_of_ble_eq_true rfl) [0] [1] rfl (by decide) rfl (by decide) (by decide) (fun q => [((a 52), .inr (15, [.ref (a 53), .ref (a 54), .ref (a 55), .ref (a 56), .ref (a 57), .ref (a 58), .ref (a 59), .ref (a 60), .ref (a 61), .ref (a 62), .ref (a 63), .ref (a 64), .ref (a 65), .ref (a 66), .ref (a 67), .ref (a 68), .ref (a 69), .ref (a 70), .long 0, .int 0, .int 2, .int 0, .int 0, .int 0, .int 0, .int 0, .int 0])), ((a 0), .inr (9, [.ref (a 1), .ref (a 12), .ref (a 32), .ref (a 38), .ref (a 46)]))]) (fun _ => rfl) (fun q1 H locs hP hD hS => ?_)
  refine W.eq (g2 := F0 m 1256 ls [.int 1]) rfl ?_
  refine lv_istore (lv' := [(6, .int 1), (5, .int 0), (4, .ref (a 72)), (3, .ref (a 71)), (2, .ref (a 52)), (1, .ref (a 0)), (0, .ref b)]) hx hb dL_law_1256 hl (by decide) rfl (fun ls hl => ?_)
  refine lv_aload_n hx hb dL_law_1258 rfl (lv_at hl 4 rfl) ?_
  refine lv_aload_n hx hb dL_law_1259 rfl (lv_at hl 6 rfl) ?_
  refine lv_iload hx hb dL_law_1260 (lv_at hl 1 rfl) ?_
  refine lv_iconst (v := 1) hx hb dL_law_1262 (by decide) ?_
  refine k_iadd (v := 1) hx hb dL_law_1263 (by decide) ?_
  refine k_script (x := (xs 1)) hx hb hX hbl hbA hS 1 (by decide) rfl (by subst hL; unfold vp_in; decide) dL_law_1264 ?_
  refine lv_aload_n hx hb dL_law_1265 rfl (lv_at hl 6 rfl) ?_
  refine lv_iload hx hb dL_law_1266 (lv_at hl 1 rfl) ?_
  refine lv_iconst (v := 2) hx hb dL_law_1268 (by decide) ?_
  refine k_iadd (v := 2) hx hb dL_law_1269 (by decide) ?_
  refine k_script (x := (xs 2)) hx hb hX hbl hbA hS 2 (by decide) rfl (by subst hL; unfold vp_in; decide) dL_law_1270 ?_
  refine lv_aload_n hx hb dL_law_1271 rfl (lv_at hl 6 rfl) ?_
  refine lv_iload hx hb dL_law_1272 (lv_at hl 1 rfl) ?_
  refine lv_iconst (v := 3) hx hb dL_law_1274 (by decide) ?_
  refine k_iadd (v := 3) hx hb dL_law_1275 (by decide) ?_
  refine k_script (x := (xs 3)) hx hb hX hbl hbA hS 3 (by decide) rfl (by subst hL; unfold vp_in; decide) dL_law_1276 ?_
  refine ct_V (wr := []) hSF hl.1 hP hD hS hA hK hGV (c243_X12_stick l hfl D cA g (a 52) (a 53) (a 54) (a 55) (a 56) (a 57) (a 58) (a 59) (a 60) (a 61) (a 62) (a 63) (a 64) (a 65) (a 66) (a 67) (a 68) (a 69) (a 70) ((xs 1)) ((xs 2)) ((xs 3)) k4 k5 k6 k7) goV_L_188 pd_X12_stick ⟨(Nat.le_of_ble_eq_true rfl), (Nat.le_of_ble_eq_true rfl)⟩ ⟨(Nat.le_of_ble_eq_true rfl), (Nat.le_of_ble_eq_true rfl)⟩ (va_recv hK hP (ci := 15) (q0 := 0) rfl rfl) dL_law_1277 rfl (Nat.le_of_ble_eq_true rfl) [0] [] rfl (by decide) rfl (by decide) (by decide) (fun q => [((a 52), .inr (15, [.ref (a 53), .ref (a 54), .ref (a 55), .ref (a 56), .ref (a 57), .ref (a 58), .ref (a 59), .ref (a 60), .ref (a 61), .ref (a 62), .ref (a 63), .ref (a 64), .ref (a 65), .ref (a 66), .ref (a 67), .ref (a 68), .ref (a 69), .ref (a 70), .long 0, .int 1, .int 2, .int 0, .int 0, .int 0, .int 0, .int 0, .int 0]))]) (fun _ => rfl) (fun q2 H locs hP hD hS => ?_)
  refine W.eq (g2 := F0 m 1280 ls [.int 0]) rfl ?_
  refine lv_istore (lv' := [(7, .int 0), (6, .int 1), (5, .int 0), (4, .ref (a 72)), (3, .ref (a 71)), (2, .ref (a 52)), (1, .ref (a 0)), (0, .ref b)]) hx hb dL_law_1280 hl (by decide) rfl (fun ls hl => ?_)
  refine lv_aload_n hx hb dL_law_1282 rfl (lv_at hl 5 rfl) ?_
  refine ct_V (wr := []) hSF hl.1 hP hD hS hA hK hGV (c17_X12_thrown l hfl D cA g (a 52) (a 53) (a 54) (a 55) (a 56) (a 57) (a 58) (a 59) (a 60) (a 61) (a 62) (a 63) (a 64) (a 65) (a 66) (a 67) (a 68) (a 69) (a 70)) goV_L_125 pd_X12_thrown ⟨(Nat.le_of_ble_eq_true rfl), (Nat.le_of_ble_eq_true rfl)⟩ ⟨(Nat.le_of_ble_eq_true rfl), (Nat.le_of_ble_eq_true rfl)⟩ (va_recv hK hP (ci := 15) (q0 := 0) rfl rfl) dL_law_1283 rfl (Nat.le_of_ble_eq_true rfl) [0] [] rfl (by decide) rfl (by decide) (by decide) (fun q => [((a 52), .inr (15, [.ref (a 53), .ref (a 54), .ref (a 55), .ref (a 56), .ref (a 57), .ref (a 58), .ref (a 59), .ref (a 60), .ref (a 61), .ref (a 62), .ref (a 63), .ref (a 64), .ref (a 65), .ref (a 66), .ref (a 67), .ref (a 68), .ref (a 69), .ref (a 70), .long 0, .int 1, .int 2, .int 0, .int 0, .int 0, .int 0, .int 0, .int 0]))]) (fun _ => rfl) (fun q3 H locs hP hD hS => ?_)
  refine W.eq (g2 := F0 m 1286 ls [.int 1]) rfl ?_
  refine lv_iload hx hb dL_law_1286 (lv_at hl 1 rfl) ?_
  refine k_icmp_eq_t (tgt := 1293) hx hb dL_law_1288 (by decide) (by decide) ?_
  refine lv_iload hx hb dL_law_1293 (lv_at hl 1 rfl) ?_
  refine k_if_ne_t (tgt := 1310) hx hb dL_law_1295 (by decide) (by decide) ?_
  refine lv_goto (tgt := 1963) hx hb dL_law_1310 (by decide) ?_
  exact law_tail l hL C0 (Nat.le_of_ble_eq_true rfl) (Nat.le_of_ble_eq_true rfl) hS (lv_sub hl [2, 7] rfl)
set_option maxHeartbeats 4000000 in
set_option maxRecDepth 100000 in
theorem lc_17_4 {p : Program} {e : Env} {s : State} {m : MethodId} {below : List Frame} {meth : Method} {c : Code} (l : Launch) (hfl : l.stackTraces = false) {b L : Nat} {xs : Nat → Int32} (hL : L = 6) (C0 : lw_At p s m meth c b L xs) (D : va_G) (cA : Nat → ClassId) (g : gv_T) (hK : va_K D vwCl (TYS cA) s) (hGV : GV g (fun q : Nat => s.heap.size ≤ q) s s.heap) (a : Nat → Nat) {H : Heap} {locs : List Loc} (hP : va_P D vwCl (WL cA g a) H) (hD : va_D (fun q : Nat => s.heap.size ≤ q) (WL cA g a)) (hS : va_S (fun q : Nat => s.heap.size ≤ q) s.heap H locs) {ls : Array Slot} (hl : lv_has ls 9 [(5, .int 0), (4, .ref (a 72)), (3, .ref (a 71)), (2, .ref (a 52)), (1, .ref (a 0)), (0, .ref b)]) (k0 : ¬ (xs 1) < 1) (k1 : ¬ 900 < (xs 1)) (k2 : ¬ (xs 2) < 6) (k3 : ¬ 40 < (xs 2)) (k4 : (xs 3) < 0) (k5 : ¬ (lg_cmp ((xs 1)).toInt64 1) < 0) (k6 : ¬ 0 < (lg_cmp ((xs 1)).toInt64 900)) (k7 : ¬ (lg_cmp ((xs 2)).toInt64 6) < 0) (k8 : ¬ 0 < (lg_cmp ((xs 2)).toInt64 40)) (k9 : (lg_cmp ((xs 3)).toInt64 0) < 0) : W p l e room_1 s m #[Value.ref b] below meth c H locs 73 8292 (lw_Z below #[Value.ref b] s) (F0 m 1233 ls []) := by
  obtain ⟨hx, hb, hr, hml, hown, hts, hX, hbl, hlocks, hgv⟩ := id C0
  have hb : c.code = cL_law := hb
  have hown : s.vm.findClass RL = some m.cls := hown
  have hG : ∀ w ∈ GW, w.before #[Value.ref b] s = true := fun w hw => hts w (List.mem_filter.mp hw).1
  have hA : ∀ q : Nat, s.heap.size ≤ q → (fun q : Nat => s.heap.size ≤ q) q := fun _ h => h
  have hbA : ¬ (fun q : Nat => s.heap.size ≤ q) b := Nat.not_le.mpr hbl
  have hSF : CF p m c cL_law 9 s #[Value.ref b] RL := ⟨hx, hb, hml, hown, hG⟩
  have hP : va_P D vwCl [((a 0), .inr (9, [.ref (a 1), .ref (a 12), .ref (a 32), .ref (a 38), .ref (a 46)])), ((a 52), .inr (15, [.ref (a 53), .ref (a 54), .ref (a 55), .ref (a 56), .ref (a 57), .ref (a 58), .ref (a 59), .ref (a 60), .ref (a 61), .ref (a 62), .ref (a 63), .ref (a 64), .ref (a 65), .ref (a 66), .ref (a 67), .ref (a 68), .ref (a 69), .ref (a 70), .long 0, .int 0, .int 2, .int 0, .int 0, .int 0, .int 0, .int 0, .int 0]))] H := hP.sub [0, 52] rfl
  have hD : va_D (fun q : Nat => s.heap.size ≤ q) [((a 0), .inr (9, [.ref (a 1), .ref (a 12), .ref (a 32), .ref (a 38), .ref (a 46)])), ((a 52), .inr (15, [.ref (a 53), .ref (a 54), .ref (a 55), .ref (a 56), .ref (a 57), .ref (a 58), .ref (a 59), .ref (a 60), .ref (a 61), .ref (a 62), .ref (a 63), .ref (a 64), .ref (a 65), .ref (a 66), .ref (a 67), .ref (a 68), .ref (a 69), .ref (a 70), .long 0, .int 0, .int 2, .int 0, .int 0, .int 0, .int 0, .int 0, .int 0]))] := hD.sub [0, 52] (by decide) rfl
  have hl : lv_has ls 9 [(5, .int 0), (4, .ref (a 72)), (3, .ref (a 71)), (2, .ref (a 52)), (1, .ref (a 0)), (0, .ref b)] := hl
  refine lv_aload_n hx hb dL_law_1233 rfl (lv_at hl 4 rfl) ?_
  refine lv_aload_n hx hb dL_law_1234 rfl (lv_at hl 5 rfl) ?_
  refine lv_iload hx hb dL_law_1235 (lv_at hl 0 rfl) ?_
  refine lv_iconst (v := 1) hx hb dL_law_1237 (by decide) ?_
  refine k_iadd (v := 1) hx hb dL_law_1238 (by decide) ?_
  refine k_script (x := (xs 1)) hx hb hX hbl hbA hS 1 (by decide) rfl (by subst hL; unfold vp_in; decide) dL_law_1239 ?_
  refine lv_aload_n hx hb dL_law_1240 rfl (lv_at hl 5 rfl) ?_
  refine lv_iload hx hb dL_law_1241 (lv_at hl 0 rfl) ?_
  refine lv_iconst (v := 2) hx hb dL_law_1243 (by decide) ?_
  refine k_iadd (v := 2) hx hb dL_law_1244 (by decide) ?_
  refine k_script (x := (xs 2)) hx hb hX hbl hbA hS 2 (by decide) rfl (by subst hL; unfold vp_in; decide) dL_law_1245 ?_
  refine lv_aload_n hx hb dL_law_1246 rfl (lv_at hl 5 rfl) ?_
  refine lv_iload hx hb dL_law_1247 (lv_at hl 0 rfl) ?_
  refine lv_iconst (v := 3) hx hb dL_law_1249 (by decide) ?_
  refine k_iadd (v := 3) hx hb dL_law_1250 (by decide) ?_
  refine k_script (x := (xs 3)) hx hb hX hbl hbA hS 3 (by decide) rfl (by subst hL; unfold vp_in; decide) dL_law_1251 ?_
  refine lv_aload_n hx hb dL_law_1252 rfl (lv_at hl 2 rfl) ?_
  refine ct_SW (wr := [((a 52), .inr (15, [.ref (a 53), .ref (a 54), .ref (a 55), .ref (a 56), .ref (a 57), .ref (a 58), .ref (a 59), .ref (a 60), .ref (a 61), .ref (a 62), .ref (a 63), .ref (a 64), .ref (a 65), .ref (a 66), .ref (a 67), .ref (a 68), .ref (a 69), .ref (a 70), .long 0, .int 0, .int 2, .int 0, .int 0, .int 0, .int 0, .int 0, .int 0]))]) hSF hl.1 hP hD hS hA hK hGV (c248_L_stick l hfl D cA g (a 0) (a 71) (a 1) (a 12) (a 32) (a 38) (a 46) ((xs 1)) ((xs 2)) ((xs 3)) k0 k1 k2 k3 k4) goW_L_186 pd_L_stick.2 ⟨(Nat.le_of_ble_eq_true rfl), (Nat.le_of_ble_eq_true rfl)⟩ ⟨(Nat.le_of_ble_eq_true rfl), (Nat.le_of_ble_eq_true rfl)⟩ dL_law_1253 rfl (Nat.le_of_ble_eq_true rfl) [0] [1] rfl (by decide) rfl (by decide) (by decide) (fun q => [((a 52), .inr (15, [.ref (a 53), .ref (a 54), .ref (a 55), .ref (a 56), .ref (a 57), .ref (a 58), .ref (a 59), .ref (a 60), .ref (a 61), .ref (a 62), .ref (a 63), .ref (a 64), .ref (a 65), .ref (a 66), .ref (a 67), .ref (a 68), .ref (a 69), .ref (a 70), .long 0, .int 0, .int 2, .int 0, .int 0, .int 0, .int 0, .int 0, .int 0])), ((a 0), .inr (9, [.ref (a 1), .ref (a 12), .ref (a 32), .ref (a 38), .ref (a 46)]))]) (fun _ => rfl) (fun q1 H locs hP hD hS => ?_)
  refine W.eq (g2 := F0 m 1256 ls [.int 1]) rfl ?_
  refine lv_istore (lv' := [(6, .int 1), (5, .int 0), (4, .ref (a 72)), (3, .ref (a 71)), (2, .ref (a 52)), (1, .ref (a 0)), (0, .ref b)]) hx hb dL_law_1256 hl (by decide) rfl (fun ls hl => ?_)
  refine lv_aload_n hx hb dL_law_1258 rfl (lv_at hl 4 rfl) ?_
  refine lv_aload_n hx hb dL_law_1259 rfl (lv_at hl 6 rfl) ?_
  refine lv_iload hx hb dL_law_1260 (lv_at hl 1 rfl) ?_
  refine lv_iconst (v := 1) hx hb dL_law_1262 (by decide) ?_
  refine k_iadd (v := 1) hx hb dL_law_1263 (by decide) ?_
  refine k_script (x := (xs 1)) hx hb hX hbl hbA hS 1 (by decide) rfl (by subst hL; unfold vp_in; decide) dL_law_1264 ?_
  refine lv_aload_n hx hb dL_law_1265 rfl (lv_at hl 6 rfl) ?_
  refine lv_iload hx hb dL_law_1266 (lv_at hl 1 rfl) ?_
  refine lv_iconst (v := 2) hx hb dL_law_1268 (by decide) ?_
  refine k_iadd (v := 2) hx hb dL_law_1269 (by decide) ?_
  refine k_script (x := (xs 2)) hx hb hX hbl hbA hS 2 (by decide) rfl (by subst hL; unfold vp_in; decide) dL_law_1270 ?_
  refine lv_aload_n hx hb dL_law_1271 rfl (lv_at hl 6 rfl) ?_
  refine lv_iload hx hb dL_law_1272 (lv_at hl 1 rfl) ?_
  refine lv_iconst (v := 3) hx hb dL_law_1274 (by decide) ?_
  refine k_iadd (v := 3) hx hb dL_law_1275 (by decide) ?_
  refine k_script (x := (xs 3)) hx hb hX hbl hbA hS 3 (by decide) rfl (by subst hL; unfold vp_in; decide) dL_law_1276 ?_
  refine ct_V (wr := []) hSF hl.1 hP hD hS hA hK hGV (c251_X12_stick l hfl D cA g (a 52) (a 53) (a 54) (a 55) (a 56) (a 57) (a 58) (a 59) (a 60) (a 61) (a 62) (a 63) (a 64) (a 65) (a 66) (a 67) (a 68) (a 69) (a 70) ((xs 1)) ((xs 2)) ((xs 3)) k5 k6 k7 k8 k9) goV_L_188 pd_X12_stick ⟨(Nat.le_of_ble_eq_true rfl), (Nat.le_of_ble_eq_true rfl)⟩ ⟨(Nat.le_of_ble_eq_true rfl), (Nat.le_of_ble_eq_true rfl)⟩ (va_recv hK hP (ci := 15) (q0 := 0) rfl rfl) dL_law_1277 rfl (Nat.le_of_ble_eq_true rfl) [0] [] rfl (by decide) rfl (by decide) (by decide) (fun q => [((a 52), .inr (15, [.ref (a 53), .ref (a 54), .ref (a 55), .ref (a 56), .ref (a 57), .ref (a 58), .ref (a 59), .ref (a 60), .ref (a 61), .ref (a 62), .ref (a 63), .ref (a 64), .ref (a 65), .ref (a 66), .ref (a 67), .ref (a 68), .ref (a 69), .ref (a 70), .long 0, .int 1, .int 2, .int 0, .int 0, .int 0, .int 0, .int 0, .int 0]))]) (fun _ => rfl) (fun q2 H locs hP hD hS => ?_)
  refine W.eq (g2 := F0 m 1280 ls [.int 0]) rfl ?_
  refine lv_istore (lv' := [(7, .int 0), (6, .int 1), (5, .int 0), (4, .ref (a 72)), (3, .ref (a 71)), (2, .ref (a 52)), (1, .ref (a 0)), (0, .ref b)]) hx hb dL_law_1280 hl (by decide) rfl (fun ls hl => ?_)
  refine lv_aload_n hx hb dL_law_1282 rfl (lv_at hl 5 rfl) ?_
  refine ct_V (wr := []) hSF hl.1 hP hD hS hA hK hGV (c17_X12_thrown l hfl D cA g (a 52) (a 53) (a 54) (a 55) (a 56) (a 57) (a 58) (a 59) (a 60) (a 61) (a 62) (a 63) (a 64) (a 65) (a 66) (a 67) (a 68) (a 69) (a 70)) goV_L_125 pd_X12_thrown ⟨(Nat.le_of_ble_eq_true rfl), (Nat.le_of_ble_eq_true rfl)⟩ ⟨(Nat.le_of_ble_eq_true rfl), (Nat.le_of_ble_eq_true rfl)⟩ (va_recv hK hP (ci := 15) (q0 := 0) rfl rfl) dL_law_1283 rfl (Nat.le_of_ble_eq_true rfl) [0] [] rfl (by decide) rfl (by decide) (by decide) (fun q => [((a 52), .inr (15, [.ref (a 53), .ref (a 54), .ref (a 55), .ref (a 56), .ref (a 57), .ref (a 58), .ref (a 59), .ref (a 60), .ref (a 61), .ref (a 62), .ref (a 63), .ref (a 64), .ref (a 65), .ref (a 66), .ref (a 67), .ref (a 68), .ref (a 69), .ref (a 70), .long 0, .int 1, .int 2, .int 0, .int 0, .int 0, .int 0, .int 0, .int 0]))]) (fun _ => rfl) (fun q3 H locs hP hD hS => ?_)
  refine W.eq (g2 := F0 m 1286 ls [.int 1]) rfl ?_
  refine lv_iload hx hb dL_law_1286 (lv_at hl 1 rfl) ?_
  refine k_icmp_eq_t (tgt := 1293) hx hb dL_law_1288 (by decide) (by decide) ?_
  refine lv_iload hx hb dL_law_1293 (lv_at hl 1 rfl) ?_
  refine k_if_ne_t (tgt := 1310) hx hb dL_law_1295 (by decide) (by decide) ?_
  refine lv_goto (tgt := 1963) hx hb dL_law_1310 (by decide) ?_
  exact law_tail l hL C0 (Nat.le_of_ble_eq_true rfl) (Nat.le_of_ble_eq_true rfl) hS (lv_sub hl [2, 7] rfl)
set_option maxHeartbeats 4000000 in
set_option maxRecDepth 100000 in
theorem lc_17_5 {p : Program} {e : Env} {s : State} {m : MethodId} {below : List Frame} {meth : Method} {c : Code} (l : Launch) (hfl : l.stackTraces = false) {b L : Nat} {xs : Nat → Int32} (hL : L = 6) (C0 : lw_At p s m meth c b L xs) (D : va_G) (cA : Nat → ClassId) (g : gv_T) (hK : va_K D vwCl (TYS cA) s) (hGV : GV g (fun q : Nat => s.heap.size ≤ q) s s.heap) (a : Nat → Nat) {H : Heap} {locs : List Loc} (hP : va_P D vwCl (WL cA g a) H) (hD : va_D (fun q : Nat => s.heap.size ≤ q) (WL cA g a)) (hS : va_S (fun q : Nat => s.heap.size ≤ q) s.heap H locs) {ls : Array Slot} (hl : lv_has ls 9 [(5, .int 0), (4, .ref (a 72)), (3, .ref (a 71)), (2, .ref (a 52)), (1, .ref (a 0)), (0, .ref b)]) (k0 : ¬ (xs 1) < 1) (k1 : ¬ 900 < (xs 1)) (k2 : ¬ (xs 2) < 6) (k3 : ¬ 40 < (xs 2)) (k4 : ¬ (xs 3) < 0) (k5 : 3 < (xs 3)) (k6 : ¬ (lg_cmp ((xs 1)).toInt64 1) < 0) (k7 : ¬ 0 < (lg_cmp ((xs 1)).toInt64 900)) (k8 : ¬ (lg_cmp ((xs 2)).toInt64 6) < 0) (k9 : ¬ 0 < (lg_cmp ((xs 2)).toInt64 40)) (k10 : ¬ (lg_cmp ((xs 3)).toInt64 0) < 0) (k11 : 0 < (lg_cmp ((xs 3)).toInt64 3)) : W p l e room_1 s m #[Value.ref b] below meth c H locs 73 8292 (lw_Z below #[Value.ref b] s) (F0 m 1233 ls []) := by
  obtain ⟨hx, hb, hr, hml, hown, hts, hX, hbl, hlocks, hgv⟩ := id C0
  have hb : c.code = cL_law := hb
  have hown : s.vm.findClass RL = some m.cls := hown
  have hG : ∀ w ∈ GW, w.before #[Value.ref b] s = true := fun w hw => hts w (List.mem_filter.mp hw).1
  have hA : ∀ q : Nat, s.heap.size ≤ q → (fun q : Nat => s.heap.size ≤ q) q := fun _ h => h
  have hbA : ¬ (fun q : Nat => s.heap.size ≤ q) b := Nat.not_le.mpr hbl
  have hSF : CF p m c cL_law 9 s #[Value.ref b] RL := ⟨hx, hb, hml, hown, hG⟩
  have hP : va_P D vwCl [((a 0), .inr (9, [.ref (a 1), .ref (a 12), .ref (a 32), .ref (a 38), .ref (a 46)])), ((a 52), .inr (15, [.ref (a 53), .ref (a 54), .ref (a 55), .ref (a 56), .ref (a 57), .ref (a 58), .ref (a 59), .ref (a 60), .ref (a 61), .ref (a 62), .ref (a 63), .ref (a 64), .ref (a 65), .ref (a 66), .ref (a 67), .ref (a 68), .ref (a 69), .ref (a 70), .long 0, .int 0, .int 2, .int 0, .int 0, .int 0, .int 0, .int 0, .int 0]))] H := hP.sub [0, 52] rfl
  have hD : va_D (fun q : Nat => s.heap.size ≤ q) [((a 0), .inr (9, [.ref (a 1), .ref (a 12), .ref (a 32), .ref (a 38), .ref (a 46)])), ((a 52), .inr (15, [.ref (a 53), .ref (a 54), .ref (a 55), .ref (a 56), .ref (a 57), .ref (a 58), .ref (a 59), .ref (a 60), .ref (a 61), .ref (a 62), .ref (a 63), .ref (a 64), .ref (a 65), .ref (a 66), .ref (a 67), .ref (a 68), .ref (a 69), .ref (a 70), .long 0, .int 0, .int 2, .int 0, .int 0, .int 0, .int 0, .int 0, .int 0]))] := hD.sub [0, 52] (by decide) rfl
  have hl : lv_has ls 9 [(5, .int 0), (4, .ref (a 72)), (3, .ref (a 71)), (2, .ref (a 52)), (1, .ref (a 0)), (0, .ref b)] := hl
  refine lv_aload_n hx hb dL_law_1233 rfl (lv_at hl 4 rfl) ?_
  refine lv_aload_n hx hb dL_law_1234 rfl (lv_at hl 5 rfl) ?_
  refine lv_iload hx hb dL_law_1235 (lv_at hl 0 rfl) ?_
  refine lv_iconst (v := 1) hx hb dL_law_1237 (by decide) ?_
  refine k_iadd (v := 1) hx hb dL_law_1238 (by decide) ?_
  refine k_script (x := (xs 1)) hx hb hX hbl hbA hS 1 (by decide) rfl (by subst hL; unfold vp_in; decide) dL_law_1239 ?_
  refine lv_aload_n hx hb dL_law_1240 rfl (lv_at hl 5 rfl) ?_
  refine lv_iload hx hb dL_law_1241 (lv_at hl 0 rfl) ?_
  refine lv_iconst (v := 2) hx hb dL_law_1243 (by decide) ?_
  refine k_iadd (v := 2) hx hb dL_law_1244 (by decide) ?_
  refine k_script (x := (xs 2)) hx hb hX hbl hbA hS 2 (by decide) rfl (by subst hL; unfold vp_in; decide) dL_law_1245 ?_
  refine lv_aload_n hx hb dL_law_1246 rfl (lv_at hl 5 rfl) ?_
  refine lv_iload hx hb dL_law_1247 (lv_at hl 0 rfl) ?_
  refine lv_iconst (v := 3) hx hb dL_law_1249 (by decide) ?_
  refine k_iadd (v := 3) hx hb dL_law_1250 (by decide) ?_
  refine k_script (x := (xs 3)) hx hb hX hbl hbA hS 3 (by decide) rfl (by subst hL; unfold vp_in; decide) dL_law_1251 ?_
  refine lv_aload_n hx hb dL_law_1252 rfl (lv_at hl 2 rfl) ?_
  refine ct_SW (wr := [((a 52), .inr (15, [.ref (a 53), .ref (a 54), .ref (a 55), .ref (a 56), .ref (a 57), .ref (a 58), .ref (a 59), .ref (a 60), .ref (a 61), .ref (a 62), .ref (a 63), .ref (a 64), .ref (a 65), .ref (a 66), .ref (a 67), .ref (a 68), .ref (a 69), .ref (a 70), .long 0, .int 0, .int 2, .int 0, .int 0, .int 0, .int 0, .int 0, .int 0]))]) hSF hl.1 hP hD hS hA hK hGV (c255_L_stick l hfl D cA g (a 0) (a 71) (a 1) (a 12) (a 32) (a 38) (a 46) ((xs 1)) ((xs 2)) ((xs 3)) k0 k1 k2 k3 k4 k5) goW_L_186 pd_L_stick.2 ⟨(Nat.le_of_ble_eq_true rfl), (Nat.le_of_ble_eq_true rfl)⟩ ⟨(Nat.le_of_ble_eq_true rfl), (Nat.le_of_ble_eq_true rfl)⟩ dL_law_1253 rfl (Nat.le_of_ble_eq_true rfl) [0] [1] rfl (by decide) rfl (by decide) (by decide) (fun q => [((a 52), .inr (15, [.ref (a 53), .ref (a 54), .ref (a 55), .ref (a 56), .ref (a 57), .ref (a 58), .ref (a 59), .ref (a 60), .ref (a 61), .ref (a 62), .ref (a 63), .ref (a 64), .ref (a 65), .ref (a 66), .ref (a 67), .ref (a 68), .ref (a 69), .ref (a 70), .long 0, .int 0, .int 2, .int 0, .int 0, .int 0, .int 0, .int 0, .int 0])), ((a 0), .inr (9, [.ref (a 1), .ref (a 12), .ref (a 32), .ref (a 38), .ref (a 46)]))]) (fun _ => rfl) (fun q1 H locs hP hD hS => ?_)
  refine W.eq (g2 := F0 m 1256 ls [.int 1]) rfl ?_
  refine lv_istore (lv' := [(6, .int 1), (5, .int 0), (4, .ref (a 72)), (3, .ref (a 71)), (2, .ref (a 52)), (1, .ref (a 0)), (0, .ref b)]) hx hb dL_law_1256 hl (by decide) rfl (fun ls hl => ?_)
  refine lv_aload_n hx hb dL_law_1258 rfl (lv_at hl 4 rfl) ?_
  refine lv_aload_n hx hb dL_law_1259 rfl (lv_at hl 6 rfl) ?_
  refine lv_iload hx hb dL_law_1260 (lv_at hl 1 rfl) ?_
  refine lv_iconst (v := 1) hx hb dL_law_1262 (by decide) ?_
  refine k_iadd (v := 1) hx hb dL_law_1263 (by decide) ?_
  refine k_script (x := (xs 1)) hx hb hX hbl hbA hS 1 (by decide) rfl (by subst hL; unfold vp_in; decide) dL_law_1264 ?_
  refine lv_aload_n hx hb dL_law_1265 rfl (lv_at hl 6 rfl) ?_
  refine lv_iload hx hb dL_law_1266 (lv_at hl 1 rfl) ?_
  refine lv_iconst (v := 2) hx hb dL_law_1268 (by decide) ?_
  refine k_iadd (v := 2) hx hb dL_law_1269 (by decide) ?_
  refine k_script (x := (xs 2)) hx hb hX hbl hbA hS 2 (by decide) rfl (by subst hL; unfold vp_in; decide) dL_law_1270 ?_
  refine lv_aload_n hx hb dL_law_1271 rfl (lv_at hl 6 rfl) ?_
  refine lv_iload hx hb dL_law_1272 (lv_at hl 1 rfl) ?_
  refine lv_iconst (v := 3) hx hb dL_law_1274 (by decide) ?_
  refine k_iadd (v := 3) hx hb dL_law_1275 (by decide) ?_
  refine k_script (x := (xs 3)) hx hb hX hbl hbA hS 3 (by decide) rfl (by subst hL; unfold vp_in; decide) dL_law_1276 ?_
  refine ct_V (wr := []) hSF hl.1 hP hD hS hA hK hGV (c257_X12_stick l hfl D cA g (a 52) (a 53) (a 54) (a 55) (a 56) (a 57) (a 58) (a 59) (a 60) (a 61) (a 62) (a 63) (a 64) (a 65) (a 66) (a 67) (a 68) (a 69) (a 70) ((xs 1)) ((xs 2)) ((xs 3)) k6 k7 k8 k9 k10 k11) goV_L_188 pd_X12_stick ⟨(Nat.le_of_ble_eq_true rfl), (Nat.le_of_ble_eq_true rfl)⟩ ⟨(Nat.le_of_ble_eq_true rfl), (Nat.le_of_ble_eq_true rfl)⟩ (va_recv hK hP (ci := 15) (q0 := 0) rfl rfl) dL_law_1277 rfl (Nat.le_of_ble_eq_true rfl) [0] [] rfl (by decide) rfl (by decide) (by decide) (fun q => [((a 52), .inr (15, [.ref (a 53), .ref (a 54), .ref (a 55), .ref (a 56), .ref (a 57), .ref (a 58), .ref (a 59), .ref (a 60), .ref (a 61), .ref (a 62), .ref (a 63), .ref (a 64), .ref (a 65), .ref (a 66), .ref (a 67), .ref (a 68), .ref (a 69), .ref (a 70), .long 0, .int 1, .int 2, .int 0, .int 0, .int 0, .int 0, .int 0, .int 0]))]) (fun _ => rfl) (fun q2 H locs hP hD hS => ?_)
  refine W.eq (g2 := F0 m 1280 ls [.int 0]) rfl ?_
  refine lv_istore (lv' := [(7, .int 0), (6, .int 1), (5, .int 0), (4, .ref (a 72)), (3, .ref (a 71)), (2, .ref (a 52)), (1, .ref (a 0)), (0, .ref b)]) hx hb dL_law_1280 hl (by decide) rfl (fun ls hl => ?_)
  refine lv_aload_n hx hb dL_law_1282 rfl (lv_at hl 5 rfl) ?_
  refine ct_V (wr := []) hSF hl.1 hP hD hS hA hK hGV (c17_X12_thrown l hfl D cA g (a 52) (a 53) (a 54) (a 55) (a 56) (a 57) (a 58) (a 59) (a 60) (a 61) (a 62) (a 63) (a 64) (a 65) (a 66) (a 67) (a 68) (a 69) (a 70)) goV_L_125 pd_X12_thrown ⟨(Nat.le_of_ble_eq_true rfl), (Nat.le_of_ble_eq_true rfl)⟩ ⟨(Nat.le_of_ble_eq_true rfl), (Nat.le_of_ble_eq_true rfl)⟩ (va_recv hK hP (ci := 15) (q0 := 0) rfl rfl) dL_law_1283 rfl (Nat.le_of_ble_eq_true rfl) [0] [] rfl (by decide) rfl (by decide) (by decide) (fun q => [((a 52), .inr (15, [.ref (a 53), .ref (a 54), .ref (a 55), .ref (a 56), .ref (a 57), .ref (a 58), .ref (a 59), .ref (a 60), .ref (a 61), .ref (a 62), .ref (a 63), .ref (a 64), .ref (a 65), .ref (a 66), .ref (a 67), .ref (a 68), .ref (a 69), .ref (a 70), .long 0, .int 1, .int 2, .int 0, .int 0, .int 0, .int 0, .int 0, .int 0]))]) (fun _ => rfl) (fun q3 H locs hP hD hS => ?_)
  refine W.eq (g2 := F0 m 1286 ls [.int 1]) rfl ?_
  refine lv_iload hx hb dL_law_1286 (lv_at hl 1 rfl) ?_
  refine k_icmp_eq_t (tgt := 1293) hx hb dL_law_1288 (by decide) (by decide) ?_
  refine lv_iload hx hb dL_law_1293 (lv_at hl 1 rfl) ?_
  refine k_if_ne_t (tgt := 1310) hx hb dL_law_1295 (by decide) (by decide) ?_
  refine lv_goto (tgt := 1963) hx hb dL_law_1310 (by decide) ?_
  exact law_tail l hL C0 (Nat.le_of_ble_eq_true rfl) (Nat.le_of_ble_eq_true rfl) hS (lv_sub hl [2, 7] rfl)
set_option maxHeartbeats 4000000 in
set_option maxRecDepth 100000 in
theorem lc_17_6 {p : Program} {e : Env} {s : State} {m : MethodId} {below : List Frame} {meth : Method} {c : Code} (l : Launch) (hfl : l.stackTraces = false) {b L : Nat} {xs : Nat → Int32} (hL : L = 6) (C0 : lw_At p s m meth c b L xs) (D : va_G) (cA : Nat → ClassId) (g : gv_T) (hK : va_K D vwCl (TYS cA) s) (hGV : GV g (fun q : Nat => s.heap.size ≤ q) s s.heap) (a : Nat → Nat) {H : Heap} {locs : List Loc} (hP : va_P D vwCl (WL cA g a) H) (hD : va_D (fun q : Nat => s.heap.size ≤ q) (WL cA g a)) (hS : va_S (fun q : Nat => s.heap.size ≤ q) s.heap H locs) {ls : Array Slot} (hl : lv_has ls 9 [(5, .int 0), (4, .ref (a 72)), (3, .ref (a 71)), (2, .ref (a 52)), (1, .ref (a 0)), (0, .ref b)]) (k0 : ¬ (xs 1) < 1) (k1 : ¬ 900 < (xs 1)) (k2 : ¬ (xs 2) < 6) (k3 : ¬ 40 < (xs 2)) (k4 : ¬ (xs 3) < 0) (k5 : ¬ 3 < (xs 3)) (k6 : ¬ (lg_cmp ((xs 1)).toInt64 1) < 0) (k7 : ¬ 0 < (lg_cmp ((xs 1)).toInt64 900)) (k8 : ¬ (lg_cmp ((xs 2)).toInt64 6) < 0) (k9 : ¬ 0 < (lg_cmp ((xs 2)).toInt64 40)) (k10 : ¬ (lg_cmp ((xs 3)).toInt64 0) < 0) (k11 : ¬ 0 < (lg_cmp ((xs 3)).toInt64 3)) : W p l e room_1 s m #[Value.ref b] below meth c H locs 73 8292 (lw_Z below #[Value.ref b] s) (F0 m 1233 ls []) := by
  obtain ⟨hx, hb, hr, hml, hown, hts, hX, hbl, hlocks, hgv⟩ := id C0
  have hb : c.code = cL_law := hb
  have hown : s.vm.findClass RL = some m.cls := hown
  have hG : ∀ w ∈ GW, w.before #[Value.ref b] s = true := fun w hw => hts w (List.mem_filter.mp hw).1
  have hA : ∀ q : Nat, s.heap.size ≤ q → (fun q : Nat => s.heap.size ≤ q) q := fun _ h => h
  have hbA : ¬ (fun q : Nat => s.heap.size ≤ q) b := Nat.not_le.mpr hbl
  have hSF : CF p m c cL_law 9 s #[Value.ref b] RL := ⟨hx, hb, hml, hown, hG⟩
  have hP : va_P D vwCl [((a 0), .inr (9, [.ref (a 1), .ref (a 12), .ref (a 32), .ref (a 38), .ref (a 46)])), ((a 38), .inr (3, [.int 0, .int 0, .int 0, .int 0, .ref (a 39), .ref (a 40), .ref (a 41), .ref (a 42), .ref (a 43), .ref (a 44), .ref (a 45)])), ((a 40), .inl (cA 0, 5, .inl (fun _ => 0))), ((a 41), .inl (cA 0, 5, .inl (fun _ => 0))), ((a 42), .inl (cA 0, 5, .inl (fun _ => 0))), ((a 52), .inr (15, [.ref (a 53), .ref (a 54), .ref (a 55), .ref (a 56), .ref (a 57), .ref (a 58), .ref (a 59), .ref (a 60), .ref (a 61), .ref (a 62), .ref (a 63), .ref (a 64), .ref (a 65), .ref (a 66), .ref (a 67), .ref (a 68), .ref (a 69), .ref (a 70), .long 0, .int 0, .int 2, .int 0, .int 0, .int 0, .int 0, .int 0, .int 0])), ((a 56), .inr (2, [.int 0, .ref g.1, .int 0])), ((a 71), .inl (cA 1, 1, .inr (.inl (fun _ => 0))))] H := hP.sub [0, 38, 40, 41, 42, 52, 56, 71] rfl
  have hD : va_D (fun q : Nat => s.heap.size ≤ q) [((a 0), .inr (9, [.ref (a 1), .ref (a 12), .ref (a 32), .ref (a 38), .ref (a 46)])), ((a 38), .inr (3, [.int 0, .int 0, .int 0, .int 0, .ref (a 39), .ref (a 40), .ref (a 41), .ref (a 42), .ref (a 43), .ref (a 44), .ref (a 45)])), ((a 40), .inl (cA 0, 5, .inl (fun _ => 0))), ((a 41), .inl (cA 0, 5, .inl (fun _ => 0))), ((a 42), .inl (cA 0, 5, .inl (fun _ => 0))), ((a 52), .inr (15, [.ref (a 53), .ref (a 54), .ref (a 55), .ref (a 56), .ref (a 57), .ref (a 58), .ref (a 59), .ref (a 60), .ref (a 61), .ref (a 62), .ref (a 63), .ref (a 64), .ref (a 65), .ref (a 66), .ref (a 67), .ref (a 68), .ref (a 69), .ref (a 70), .long 0, .int 0, .int 2, .int 0, .int 0, .int 0, .int 0, .int 0, .int 0])), ((a 56), .inr (2, [.int 0, .ref g.1, .int 0])), ((a 71), .inl (cA 1, 1, .inr (.inl (fun _ => 0))))] := hD.sub [0, 38, 40, 41, 42, 52, 56, 71] (by decide) rfl
  have hl : lv_has ls 9 [(5, .int 0), (4, .ref (a 72)), (3, .ref (a 71)), (2, .ref (a 52)), (1, .ref (a 0)), (0, .ref b)] := hl
  refine lv_aload_n hx hb dL_law_1233 rfl (lv_at hl 4 rfl) ?_
  refine lv_aload_n hx hb dL_law_1234 rfl (lv_at hl 5 rfl) ?_
  refine lv_iload hx hb dL_law_1235 (lv_at hl 0 rfl) ?_
  refine lv_iconst (v := 1) hx hb dL_law_1237 (by decide) ?_
  refine k_iadd (v := 1) hx hb dL_law_1238 (by decide) ?_
  refine k_script (x := (xs 1)) hx hb hX hbl hbA hS 1 (by decide) rfl (by subst hL; unfold vp_in; decide) dL_law_1239 ?_
  refine lv_aload_n hx hb dL_law_1240 rfl (lv_at hl 5 rfl) ?_
  refine lv_iload hx hb dL_law_1241 (lv_at hl 0 rfl) ?_
  refine lv_iconst (v := 2) hx hb dL_law_1243 (by decide) ?_
  refine k_iadd (v := 2) hx hb dL_law_1244 (by decide) ?_
  refine k_script (x := (xs 2)) hx hb hX hbl hbA hS 2 (by decide) rfl (by subst hL; unfold vp_in; decide) dL_law_1245 ?_
  refine lv_aload_n hx hb dL_law_1246 rfl (lv_at hl 5 rfl) ?_
  refine lv_iload hx hb dL_law_1247 (lv_at hl 0 rfl) ?_
  refine lv_iconst (v := 3) hx hb dL_law_1249 (by decide) ?_
  refine k_iadd (v := 3) hx hb dL_law_1250 (by decide) ?_
  refine k_script (x := (xs 3)) hx hb hX hbl hbA hS 3 (by decide) rfl (by subst hL; unfold vp_in; decide) dL_law_1251 ?_
  refine lv_aload_n hx hb dL_law_1252 rfl (lv_at hl 2 rfl) ?_
  refine ct_SW (wr := [((a 52), .inr (15, [.ref (a 53), .ref (a 54), .ref (a 55), .ref (a 56), .ref (a 57), .ref (a 58), .ref (a 59), .ref (a 60), .ref (a 61), .ref (a 62), .ref (a 63), .ref (a 64), .ref (a 65), .ref (a 66), .ref (a 67), .ref (a 68), .ref (a 69), .ref (a 70), .long 0, .int 0, .int 2, .int 0, .int 0, .int 0, .int 0, .int 0, .int 0])), ((a 56), .inr (2, [.int 0, .ref g.1, .int 0]))]) hSF hl.1 hP hD hS hA hK hGV (c262_L_stick l hfl D cA g (a 0) (a 71) (a 1) (a 12) (a 32) (a 38) (a 46) (a 39) (a 40) (a 41) (a 42) (a 43) (a 44) (a 45) ((xs 1)) ((xs 2)) ((xs 3)) k0 k1 k2 k3 k4 k5) goW_L_186 pd_L_stick.2 ⟨(Nat.le_of_ble_eq_true rfl), (Nat.le_of_ble_eq_true rfl)⟩ ⟨(Nat.le_of_ble_eq_true rfl), (Nat.le_of_ble_eq_true rfl)⟩ dL_law_1253 rfl (Nat.le_of_ble_eq_true rfl) [0, 1, 2, 3, 4, 7] [5, 6] rfl (by decide) rfl (by decide) (by decide) (fun q => [((a 52), .inr (15, [.ref (a 53), .ref (a 54), .ref (a 55), .ref (a 56), .ref (a 57), .ref (a 58), .ref (a 59), .ref (a 60), .ref (a 61), .ref (a 62), .ref (a 63), .ref (a 64), .ref (a 65), .ref (a 66), .ref (a 67), .ref (a 68), .ref (a 69), .ref (a 70), .long 0, .int 0, .int 2, .int 0, .int 0, .int 0, .int 0, .int 0, .int 0])), ((a 56), .inr (2, [.int 0, .ref g.1, .int 0])), ((a 0), .inr (9, [.ref (a 1), .ref (a 12), .ref (a 32), .ref (a 38), .ref (a 46)])), ((a 38), .inr (3, [.int 1, .int 0, .int 0, .int 0, .ref (a 39), .ref (a 40), .ref (a 41), .ref (a 42), .ref (a 43), .ref (a 44), .ref (a 45)])), ((a 40), .inl (cA 0, 5, .inl (upd (fun _ => 0) 0 (xs 1)))), ((a 41), .inl (cA 0, 5, .inl (upd (fun _ => 0) 0 (xs 2)))), ((a 42), .inl (cA 0, 5, .inl (upd (fun _ => 0) 0 (xs 3)))), ((a 71), .inl (cA 1, 1, .inr (.inl (vp_updL (fun _ => 0) 0 0))))]) (fun _ => rfl) (fun q1 H locs hP hD hS => ?_)
  refine W.eq (g2 := F0 m 1256 ls [.int 0]) rfl ?_
  refine lv_istore (lv' := [(6, .int 0), (5, .int 0), (4, .ref (a 72)), (3, .ref (a 71)), (2, .ref (a 52)), (1, .ref (a 0)), (0, .ref b)]) hx hb dL_law_1256 hl (by decide) rfl (fun ls hl => ?_)
  refine lv_aload_n hx hb dL_law_1258 rfl (lv_at hl 4 rfl) ?_
  refine lv_aload_n hx hb dL_law_1259 rfl (lv_at hl 6 rfl) ?_
  refine lv_iload hx hb dL_law_1260 (lv_at hl 1 rfl) ?_
  refine lv_iconst (v := 1) hx hb dL_law_1262 (by decide) ?_
  refine k_iadd (v := 1) hx hb dL_law_1263 (by decide) ?_
  refine k_script (x := (xs 1)) hx hb hX hbl hbA hS 1 (by decide) rfl (by subst hL; unfold vp_in; decide) dL_law_1264 ?_
  refine lv_aload_n hx hb dL_law_1265 rfl (lv_at hl 6 rfl) ?_
  refine lv_iload hx hb dL_law_1266 (lv_at hl 1 rfl) ?_
  refine lv_iconst (v := 2) hx hb dL_law_1268 (by decide) ?_
  refine k_iadd (v := 2) hx hb dL_law_1269 (by decide) ?_
  refine k_script (x := (xs 2)) hx hb hX hbl hbA hS 2 (by decide) rfl (by subst hL; unfold vp_in; decide) dL_law_1270 ?_
  refine lv_aload_n hx hb dL_law_1271 rfl (lv_at hl 6 rfl) ?_
  refine lv_iload hx hb dL_law_1272 (lv_at hl 1 rfl) ?_
  refine lv_iconst (v := 3) hx hb dL_law_1274 (by decide) ?_
  refine k_iadd (v := 3) hx hb dL_law_1275 (by decide) ?_
  refine k_script (x := (xs 3)) hx hb hX hbl hbA hS 3 (by decide) rfl (by subst hL; unfold vp_in; decide) dL_law_1276 ?_
  refine ct_V (wr := [((a 71), .inl (cA 1, 1, .inr (.inl (vp_updL (fun _ => 0) 0 0))))]) hSF hl.1 hP hD hS hA hK hGV (c267_X12_stick l hfl D cA g (a 52) (a 53) (a 54) (a 55) (a 56) (a 57) (a 58) (a 59) (a 60) (a 61) (a 62) (a 63) (a 64) (a 65) (a 66) (a 67) (a 68) (a 69) (a 70) ((xs 1)) ((xs 2)) ((xs 3)) k6 k7 k8 k9 k10 k11) goV_L_188 pd_X12_stick ⟨(Nat.le_of_ble_eq_true rfl), (Nat.le_of_ble_eq_true rfl)⟩ ⟨(Nat.le_of_ble_eq_true rfl), (Nat.le_of_ble_eq_true rfl)⟩ (va_recv hK hP (ci := 15) (q0 := 0) rfl rfl) dL_law_1277 rfl (Nat.le_of_ble_eq_true rfl) [0, 1] [7] rfl (by decide) rfl (by decide) (by decide) (fun q => [((a 71), .inl (cA 1, 1, .inr (.inl (vp_updL (fun _ => 0) 0 0)))), ((a 52), .inr (15, [.ref (a 53), .ref (a 54), .ref (a 55), .ref (a 56), .ref (a 57), .ref (a 58), .ref (a 59), .ref (a 60), .ref (a 61), .ref (a 62), .ref (a 63), .ref (a 64), .ref (a 65), .ref (a 66), .ref (a 67), .ref (a 68), .ref (a 69), .ref (a 70), .long 0, .int 0, .int 2, .int 0, .int 0, .int 0, .int 0, .int 0, .int 0])), ((a 56), .inr (2, [.int 1, .ref (q 1), .int 1])), ((q 0), .inr (13, [.int (xs 1), .int (xs 2), .int (xs 3)])), ((q 1), .inl (cA 4, 10, .inr (.inr (.inr (.inr (va_up (fun _ => none) 0 (some (q 0))))))))]) (fun _ => rfl) (fun q2 H locs hP hD hS => ?_)
  refine W.eq (g2 := F0 m 1280 ls [.int 0]) rfl ?_
  refine lv_istore (lv' := [(7, .int 0), (6, .int 0), (5, .int 0), (4, .ref (a 72)), (3, .ref (a 71)), (2, .ref (a 52)), (1, .ref (a 0)), (0, .ref b)]) hx hb dL_law_1280 hl (by decide) rfl (fun ls hl => ?_)
  refine lv_aload_n hx hb dL_law_1282 rfl (lv_at hl 5 rfl) ?_
  refine ct_V (wr := [((a 71), .inl (cA 1, 1, .inr (.inl (vp_updL (fun _ => 0) 0 0))))]) hSF hl.1 hP hD hS hA hK hGV (c66_X12_thrown l hfl D cA g (a 52) (a 53) (a 54) (a 55) (a 56) (a 57) (a 58) (a 59) (a 60) (a 61) (a 62) (a 63) (a 64) (a 65) (a 66) (a 67) (a 68) (a 69) (a 70)) goV_L_125 pd_X12_thrown ⟨(Nat.le_of_ble_eq_true rfl), (Nat.le_of_ble_eq_true rfl)⟩ ⟨(Nat.le_of_ble_eq_true rfl), (Nat.le_of_ble_eq_true rfl)⟩ (va_recv hK hP (ci := 15) (q0 := 1) rfl rfl) dL_law_1283 rfl (Nat.le_of_ble_eq_true rfl) [1] [0] rfl (by decide) rfl (by decide) (by decide) (fun q => [((a 71), .inl (cA 1, 1, .inr (.inl (vp_updL (fun _ => 0) 0 0)))), ((a 52), .inr (15, [.ref (a 53), .ref (a 54), .ref (a 55), .ref (a 56), .ref (a 57), .ref (a 58), .ref (a 59), .ref (a 60), .ref (a 61), .ref (a 62), .ref (a 63), .ref (a 64), .ref (a 65), .ref (a 66), .ref (a 67), .ref (a 68), .ref (a 69), .ref (a 70), .long 0, .int 0, .int 2, .int 0, .int 0, .int 0, .int 0, .int 0, .int 0]))]) (fun _ => rfl) (fun q3 H locs hP hD hS => ?_)
  refine W.eq (g2 := F0 m 1286 ls [.int 0]) rfl ?_
  refine lv_iload hx hb dL_law_1286 (lv_at hl 1 rfl) ?_
  refine k_icmp_eq_t (tgt := 1293) hx hb dL_law_1288 (by decide) (by decide) ?_
  refine lv_iload hx hb dL_law_1293 (lv_at hl 1 rfl) ?_
  refine k_if_ne_f (tgt := 1310) hx hb dL_law_1295 (by decide) (by decide) ?_
  refine lv_aload_n hx hb dL_law_1298 rfl (lv_at hl 4 rfl) ?_
  refine lv_iconst (v := 0) hx hb dL_law_1299 (by decide) ?_
  refine k_lald (v := 0) hx hb hK hP 0 rfl 0 (by decide) rfl (by unfold vp_in; decide) dL_law_1300 ?_
  refine lv_iload hx hb dL_law_1301 (lv_at hl 0 rfl) ?_
  refine lv_i2l (v := 0) hx hb dL_law_1303 (by decide +kernel) ?_
  refine k_lcmp (v := 0) hx hb dL_law_1304 (by decide +kernel) ?_
  refine k_if_eq_t (tgt := 1310) hx hb dL_law_1305 (by decide) (by decide) ?_
  refine lv_goto (tgt := 1963) hx hb dL_law_1310 (by decide) ?_
  exact law_tail l hL C0 (Nat.le_of_ble_eq_true rfl) (Nat.le_of_ble_eq_true rfl) hS (lv_sub hl [2, 7] rfl)
set_option maxHeartbeats 4000000 in
set_option maxRecDepth 100000 in
theorem lc_18_0 {p : Program} {e : Env} {s : State} {m : MethodId} {below : List Frame} {meth : Method} {c : Code} (l : Launch) (hfl : l.stackTraces = false) {b L : Nat} {xs : Nat → Int32} (hL : L = 6) (C0 : lw_At p s m meth c b L xs) (D : va_G) (cA : Nat → ClassId) (g : gv_T) (hK : va_K D vwCl (TYS cA) s) (hGV : GV g (fun q : Nat => s.heap.size ≤ q) s s.heap) (a : Nat → Nat) {H : Heap} {locs : List Loc} (hP : va_P D vwCl (WL cA g a) H) (hD : va_D (fun q : Nat => s.heap.size ≤ q) (WL cA g a)) (hS : va_S (fun q : Nat => s.heap.size ≤ q) s.heap H locs) {ls : Array Slot} (hl : lv_has ls 9 [(5, .int 0), (4, .ref (a 72)), (3, .ref (a 71)), (2, .ref (a 52)), (1, .ref (a 0)), (0, .ref b)]) (k0 : (xs 1) < 0) (k1 : (lg_cmp ((xs 1)).toInt64 0) < 0) : W p l e room_1 s m #[Value.ref b] below meth c H locs 73 8292 (lw_Z below #[Value.ref b] s) (F0 m 1313 ls []) := by
  obtain ⟨hx, hb, hr, hml, hown, hts, hX, hbl, hlocks, hgv⟩ := id C0
  have hb : c.code = cL_law := hb
  have hown : s.vm.findClass RL = some m.cls := hown
  have hG : ∀ w ∈ GW, w.before #[Value.ref b] s = true := fun w hw => hts w (List.mem_filter.mp hw).1
  have hA : ∀ q : Nat, s.heap.size ≤ q → (fun q : Nat => s.heap.size ≤ q) q := fun _ h => h
  have hbA : ¬ (fun q : Nat => s.heap.size ≤ q) b := Nat.not_le.mpr hbl
  have hSF : CF p m c cL_law 9 s #[Value.ref b] RL := ⟨hx, hb, hml, hown, hG⟩
  have hP : va_P D vwCl [((a 0), .inr (9, [.ref (a 1), .ref (a 12), .ref (a 32), .ref (a 38), .ref (a 46)])), ((a 52), .inr (15, [.ref (a 53), .ref (a 54), .ref (a 55), .ref (a 56), .ref (a 57), .ref (a 58), .ref (a 59), .ref (a 60), .ref (a 61), .ref (a 62), .ref (a 63), .ref (a 64), .ref (a 65), .ref (a 66), .ref (a 67), .ref (a 68), .ref (a 69), .ref (a 70), .long 0, .int 0, .int 2, .int 0, .int 0, .int 0, .int 0, .int 0, .int 0])), ((a 54), .inr (2, [.int 0, .ref g.1, .int 0]))] H := hP.sub [0, 52, 54] rfl
  have hD : va_D (fun q : Nat => s.heap.size ≤ q) [((a 0), .inr (9, [.ref (a 1), .ref (a 12), .ref (a 32), .ref (a 38), .ref (a 46)])), ((a 52), .inr (15, [.ref (a 53), .ref (a 54), .ref (a 55), .ref (a 56), .ref (a 57), .ref (a 58), .ref (a 59), .ref (a 60), .ref (a 61), .ref (a 62), .ref (a 63), .ref (a 64), .ref (a 65), .ref (a 66), .ref (a 67), .ref (a 68), .ref (a 69), .ref (a 70), .long 0, .int 0, .int 2, .int 0, .int 0, .int 0, .int 0, .int 0, .int 0])), ((a 54), .inr (2, [.int 0, .ref g.1, .int 0]))] := hD.sub [0, 52, 54] (by decide) rfl
  have hl : lv_has ls 9 [(5, .int 0), (4, .ref (a 72)), (3, .ref (a 71)), (2, .ref (a 52)), (1, .ref (a 0)), (0, .ref b)] := hl
  refine lv_aload_n hx hb dL_law_1313 rfl (lv_at hl 4 rfl) ?_
  refine lv_aload_n hx hb dL_law_1314 rfl (lv_at hl 5 rfl) ?_
  refine lv_iload hx hb dL_law_1315 (lv_at hl 0 rfl) ?_
  refine lv_iconst (v := 1) hx hb dL_law_1317 (by decide) ?_
  refine k_iadd (v := 1) hx hb dL_law_1318 (by decide) ?_
  refine k_script (x := (xs 1)) hx hb hX hbl hbA hS 1 (by decide) rfl (by subst hL; unfold vp_in; decide) dL_law_1319 ?_
  refine lv_aload_n hx hb dL_law_1320 rfl (lv_at hl 2 rfl) ?_
  refine ct_SW (wr := [((a 52), .inr (15, [.ref (a 53), .ref (a 54), .ref (a 55), .ref (a 56), .ref (a 57), .ref (a 58), .ref (a 59), .ref (a 60), .ref (a 61), .ref (a 62), .ref (a 63), .ref (a 64), .ref (a 65), .ref (a 66), .ref (a 67), .ref (a 68), .ref (a 69), .ref (a 70), .long 0, .int 0, .int 2, .int 0, .int 0, .int 0, .int 0, .int 0, .int 0])), ((a 54), .inr (2, [.int 0, .ref g.1, .int 0]))]) hSF hl.1 hP hD hS hA hK hGV (c269_L_piece l hfl D cA g (a 0) (a 71) (a 1) (a 12) (a 32) (a 38) (a 46) ((xs 1)) k0) goW_L_189 pd_L_piece.2 ⟨(Nat.le_of_ble_eq_true rfl), (Nat.le_of_ble_eq_true rfl)⟩ ⟨(Nat.le_of_ble_eq_true rfl), (Nat.le_of_ble_eq_true rfl)⟩ dL_law_1321 rfl (Nat.le_of_ble_eq_true rfl) [0] [1, 2] rfl (by decide) rfl (by decide) (by decide) (fun q => [((a 52), .inr (15, [.ref (a 53), .ref (a 54), .ref (a 55), .ref (a 56), .ref (a 57), .ref (a 58), .ref (a 59), .ref (a 60), .ref (a 61), .ref (a 62), .ref (a 63), .ref (a 64), .ref (a 65), .ref (a 66), .ref (a 67), .ref (a 68), .ref (a 69), .ref (a 70), .long 0, .int 0, .int 2, .int 0, .int 0, .int 0, .int 0, .int 0, .int 0])), ((a 54), .inr (2, [.int 0, .ref g.1, .int 0])), ((a 0), .inr (9, [.ref (a 1), .ref (a 12), .ref (a 32), .ref (a 38), .ref (a 46)]))]) (fun _ => rfl) (fun q1 H locs hP hD hS => ?_)
  refine W.eq (g2 := F0 m 1324 ls [.int 1]) rfl ?_
  refine lv_istore (lv' := [(6, .int 1), (5, .int 0), (4, .ref (a 72)), (3, .ref (a 71)), (2, .ref (a 52)), (1, .ref (a 0)), (0, .ref b)]) hx hb dL_law_1324 hl (by decide) rfl (fun ls hl => ?_)
  refine lv_aload_n hx hb dL_law_1326 rfl (lv_at hl 4 rfl) ?_
  refine lv_aload_n hx hb dL_law_1327 rfl (lv_at hl 6 rfl) ?_
  refine lv_iload hx hb dL_law_1328 (lv_at hl 1 rfl) ?_
  refine lv_iconst (v := 1) hx hb dL_law_1330 (by decide) ?_
  refine k_iadd (v := 1) hx hb dL_law_1331 (by decide) ?_
  refine k_script (x := (xs 1)) hx hb hX hbl hbA hS 1 (by decide) rfl (by subst hL; unfold vp_in; decide) dL_law_1332 ?_
  refine ct_V (wr := []) hSF hl.1 hP hD hS hA hK hGV (c270_X12_piece l hfl D cA g (a 52) (a 53) (a 54) (a 55) (a 56) (a 57) (a 58) (a 59) (a 60) (a 61) (a 62) (a 63) (a 64) (a 65) (a 66) (a 67) (a 68) (a 69) (a 70) ((xs 1)) k1) goV_L_191 pd_X12_piece ⟨(Nat.le_of_ble_eq_true rfl), (Nat.le_of_ble_eq_true rfl)⟩ ⟨(Nat.le_of_ble_eq_true rfl), (Nat.le_of_ble_eq_true rfl)⟩ (va_recv hK hP (ci := 15) (q0 := 0) rfl rfl) dL_law_1333 rfl (Nat.le_of_ble_eq_true rfl) [0, 1] [] rfl (by decide) rfl (by decide) (by decide) (fun q => [((a 52), .inr (15, [.ref (a 53), .ref (a 54), .ref (a 55), .ref (a 56), .ref (a 57), .ref (a 58), .ref (a 59), .ref (a 60), .ref (a 61), .ref (a 62), .ref (a 63), .ref (a 64), .ref (a 65), .ref (a 66), .ref (a 67), .ref (a 68), .ref (a 69), .ref (a 70), .long 0, .int 1, .int 2, .int 0, .int 0, .int 0, .int 0, .int 0, .int 0])), ((a 54), .inr (2, [.int 0, .ref g.1, .int 0]))]) (fun _ => rfl) (fun q2 H locs hP hD hS => ?_)
  refine W.eq (g2 := F0 m 1336 ls [.int 0]) rfl ?_
  refine lv_istore (lv' := [(7, .int 0), (6, .int 1), (5, .int 0), (4, .ref (a 72)), (3, .ref (a 71)), (2, .ref (a 52)), (1, .ref (a 0)), (0, .ref b)]) hx hb dL_law_1336 hl (by decide) rfl (fun ls hl => ?_)
  refine lv_aload_n hx hb dL_law_1338 rfl (lv_at hl 5 rfl) ?_
  refine ct_V (wr := []) hSF hl.1 hP hD hS hA hK hGV (c17_X12_thrown l hfl D cA g (a 52) (a 53) (a 54) (a 55) (a 56) (a 57) (a 58) (a 59) (a 60) (a 61) (a 62) (a 63) (a 64) (a 65) (a 66) (a 67) (a 68) (a 69) (a 70)) goV_L_125 pd_X12_thrown ⟨(Nat.le_of_ble_eq_true rfl), (Nat.le_of_ble_eq_true rfl)⟩ ⟨(Nat.le_of_ble_eq_true rfl), (Nat.le_of_ble_eq_true rfl)⟩ (va_recv hK hP (ci := 15) (q0 := 0) rfl rfl) dL_law_1339 rfl (Nat.le_of_ble_eq_true rfl) [0] [] rfl (by decide) rfl (by decide) (by decide) (fun q => [((a 52), .inr (15, [.ref (a 53), .ref (a 54), .ref (a 55), .ref (a 56), .ref (a 57), .ref (a 58), .ref (a 59), .ref (a 60), .ref (a 61), .ref (a 62), .ref (a 63), .ref (a 64), .ref (a 65), .ref (a 66), .ref (a 67), .ref (a 68), .ref (a 69), .ref (a 70), .long 0, .int 1, .int 2, .int 0, .int 0, .int 0, .int 0, .int 0, .int 0]))]) (fun _ => rfl) (fun q3 H locs hP hD hS => ?_)
  refine W.eq (g2 := F0 m 1342 ls [.int 1]) rfl ?_
  refine lv_iload hx hb dL_law_1342 (lv_at hl 1 rfl) ?_
  refine k_icmp_eq_t (tgt := 1349) hx hb dL_law_1344 (by decide) (by decide) ?_
  refine lv_iload hx hb dL_law_1349 (lv_at hl 1 rfl) ?_
  refine k_if_ne_t (tgt := 1366) hx hb dL_law_1351 (by decide) (by decide) ?_
  refine lv_goto (tgt := 1963) hx hb dL_law_1366 (by decide) ?_
  exact law_tail l hL C0 (Nat.le_of_ble_eq_true rfl) (Nat.le_of_ble_eq_true rfl) hS (lv_sub hl [2, 7] rfl)
set_option maxHeartbeats 4000000 in
set_option maxRecDepth 100000 in
theorem lc_18_1 {p : Program} {e : Env} {s : State} {m : MethodId} {below : List Frame} {meth : Method} {c : Code} (l : Launch) (hfl : l.stackTraces = false) {b L : Nat} {xs : Nat → Int32} (hL : L = 6) (C0 : lw_At p s m meth c b L xs) (D : va_G) (cA : Nat → ClassId) (g : gv_T) (hK : va_K D vwCl (TYS cA) s) (hGV : GV g (fun q : Nat => s.heap.size ≤ q) s s.heap) (a : Nat → Nat) {H : Heap} {locs : List Loc} (hP : va_P D vwCl (WL cA g a) H) (hD : va_D (fun q : Nat => s.heap.size ≤ q) (WL cA g a)) (hS : va_S (fun q : Nat => s.heap.size ≤ q) s.heap H locs) {ls : Array Slot} (hl : lv_has ls 9 [(5, .int 0), (4, .ref (a 72)), (3, .ref (a 71)), (2, .ref (a 52)), (1, .ref (a 0)), (0, .ref b)]) (k0 : ¬ (xs 1) < 0) (k1 : ¬ (lg_cmp ((xs 1)).toInt64 0) < 0) (k2 : 0 < (lg_cmp ((xs 1)).toInt64 (-1))) : W p l e room_1 s m #[Value.ref b] below meth c H locs 73 8292 (lw_Z below #[Value.ref b] s) (F0 m 1313 ls []) := by
  obtain ⟨hx, hb, hr, hml, hown, hts, hX, hbl, hlocks, hgv⟩ := id C0
  have hb : c.code = cL_law := hb
  have hown : s.vm.findClass RL = some m.cls := hown
  have hG : ∀ w ∈ GW, w.before #[Value.ref b] s = true := fun w hw => hts w (List.mem_filter.mp hw).1
  have hA : ∀ q : Nat, s.heap.size ≤ q → (fun q : Nat => s.heap.size ≤ q) q := fun _ h => h
  have hbA : ¬ (fun q : Nat => s.heap.size ≤ q) b := Nat.not_le.mpr hbl
  have hSF : CF p m c cL_law 9 s #[Value.ref b] RL := ⟨hx, hb, hml, hown, hG⟩
  have hP : va_P D vwCl [((a 0), .inr (9, [.ref (a 1), .ref (a 12), .ref (a 32), .ref (a 38), .ref (a 46)])), ((a 1), .inr (5, [.int 0, .int 0, .ref (a 2), .ref (a 3), .ref (a 4), .ref (a 5), .ref (a 6), .ref (a 7), .ref (a 8), .ref (a 9), .ref (a 10), .ref (a 11)])), ((a 52), .inr (15, [.ref (a 53), .ref (a 54), .ref (a 55), .ref (a 56), .ref (a 57), .ref (a 58), .ref (a 59), .ref (a 60), .ref (a 61), .ref (a 62), .ref (a 63), .ref (a 64), .ref (a 65), .ref (a 66), .ref (a 67), .ref (a 68), .ref (a 69), .ref (a 70), .long 0, .int 0, .int 2, .int 0, .int 0, .int 0, .int 0, .int 0, .int 0])), ((a 54), .inr (2, [.int 0, .ref g.1, .int 0]))] H := hP.sub [0, 1, 52, 54] rfl
  have hD : va_D (fun q : Nat => s.heap.size ≤ q) [((a 0), .inr (9, [.ref (a 1), .ref (a 12), .ref (a 32), .ref (a 38), .ref (a 46)])), ((a 1), .inr (5, [.int 0, .int 0, .ref (a 2), .ref (a 3), .ref (a 4), .ref (a 5), .ref (a 6), .ref (a 7), .ref (a 8), .ref (a 9), .ref (a 10), .ref (a 11)])), ((a 52), .inr (15, [.ref (a 53), .ref (a 54), .ref (a 55), .ref (a 56), .ref (a 57), .ref (a 58), .ref (a 59), .ref (a 60), .ref (a 61), .ref (a 62), .ref (a 63), .ref (a 64), .ref (a 65), .ref (a 66), .ref (a 67), .ref (a 68), .ref (a 69), .ref (a 70), .long 0, .int 0, .int 2, .int 0, .int 0, .int 0, .int 0, .int 0, .int 0])), ((a 54), .inr (2, [.int 0, .ref g.1, .int 0]))] := hD.sub [0, 1, 52, 54] (by decide) rfl
  have hl : lv_has ls 9 [(5, .int 0), (4, .ref (a 72)), (3, .ref (a 71)), (2, .ref (a 52)), (1, .ref (a 0)), (0, .ref b)] := hl
  refine lv_aload_n hx hb dL_law_1313 rfl (lv_at hl 4 rfl) ?_
  refine lv_aload_n hx hb dL_law_1314 rfl (lv_at hl 5 rfl) ?_
  refine lv_iload hx hb dL_law_1315 (lv_at hl 0 rfl) ?_
  refine lv_iconst (v := 1) hx hb dL_law_1317 (by decide) ?_
  refine k_iadd (v := 1) hx hb dL_law_1318 (by decide) ?_
  refine k_script (x := (xs 1)) hx hb hX hbl hbA hS 1 (by decide) rfl (by subst hL; unfold vp_in; decide) dL_law_1319 ?_
  refine lv_aload_n hx hb dL_law_1320 rfl (lv_at hl 2 rfl) ?_
  refine ct_SW (wr := [((a 52), .inr (15, [.ref (a 53), .ref (a 54), .ref (a 55), .ref (a 56), .ref (a 57), .ref (a 58), .ref (a 59), .ref (a 60), .ref (a 61), .ref (a 62), .ref (a 63), .ref (a 64), .ref (a 65), .ref (a 66), .ref (a 67), .ref (a 68), .ref (a 69), .ref (a 70), .long 0, .int 0, .int 2, .int 0, .int 0, .int 0, .int 0, .int 0, .int 0])), ((a 54), .inr (2, [.int 0, .ref g.1, .int 0]))]) hSF hl.1 hP hD hS hA hK hGV (c272_L_piece l hfl D cA g (a 0) (a 71) (a 1) (a 12) (a 32) (a 38) (a 46) (a 2) (a 3) (a 4) (a 5) (a 6) (a 7) (a 8) (a 9) (a 10) (a 11) ((xs 1)) k0) goW_L_189 pd_L_piece.2 ⟨(Nat.le_of_ble_eq_true rfl), (Nat.le_of_ble_eq_true rfl)⟩ ⟨(Nat.le_of_ble_eq_true rfl), (Nat.le_of_ble_eq_true rfl)⟩ dL_law_1321 rfl (Nat.le_of_ble_eq_true rfl) [0, 1] [2, 3] rfl (by decide) rfl (by decide) (by decide) (fun q => [((a 52), .inr (15, [.ref (a 53), .ref (a 54), .ref (a 55), .ref (a 56), .ref (a 57), .ref (a 58), .ref (a 59), .ref (a 60), .ref (a 61), .ref (a 62), .ref (a 63), .ref (a 64), .ref (a 65), .ref (a 66), .ref (a 67), .ref (a 68), .ref (a 69), .ref (a 70), .long 0, .int 0, .int 2, .int 0, .int 0, .int 0, .int 0, .int 0, .int 0])), ((a 54), .inr (2, [.int 0, .ref g.1, .int 0])), ((a 0), .inr (9, [.ref (a 1), .ref (a 12), .ref (a 32), .ref (a 38), .ref (a 46)])), ((a 1), .inr (5, [.int 0, .int 0, .ref (a 2), .ref (a 3), .ref (a 4), .ref (a 5), .ref (a 6), .ref (a 7), .ref (a 8), .ref (a 9), .ref (a 10), .ref (a 11)]))]) (fun _ => rfl) (fun q1 H locs hP hD hS => ?_)
  refine W.eq (g2 := F0 m 1324 ls [.int 1]) rfl ?_
  refine lv_istore (lv' := [(6, .int 1), (5, .int 0), (4, .ref (a 72)), (3, .ref (a 71)), (2, .ref (a 52)), (1, .ref (a 0)), (0, .ref b)]) hx hb dL_law_1324 hl (by decide) rfl (fun ls hl => ?_)
  refine lv_aload_n hx hb dL_law_1326 rfl (lv_at hl 4 rfl) ?_
  refine lv_aload_n hx hb dL_law_1327 rfl (lv_at hl 6 rfl) ?_
  refine lv_iload hx hb dL_law_1328 (lv_at hl 1 rfl) ?_
  refine lv_iconst (v := 1) hx hb dL_law_1330 (by decide) ?_
  refine k_iadd (v := 1) hx hb dL_law_1331 (by decide) ?_
  refine k_script (x := (xs 1)) hx hb hX hbl hbA hS 1 (by decide) rfl (by subst hL; unfold vp_in; decide) dL_law_1332 ?_
  refine ct_V (wr := []) hSF hl.1 hP hD hS hA hK hGV (c273_X12_piece l hfl D cA g (a 52) (a 53) (a 54) (a 55) (a 56) (a 57) (a 58) (a 59) (a 60) (a 61) (a 62) (a 63) (a 64) (a 65) (a 66) (a 67) (a 68) (a 69) (a 70) ((xs 1)) k1 k2) goV_L_191 pd_X12_piece ⟨(Nat.le_of_ble_eq_true rfl), (Nat.le_of_ble_eq_true rfl)⟩ ⟨(Nat.le_of_ble_eq_true rfl), (Nat.le_of_ble_eq_true rfl)⟩ (va_recv hK hP (ci := 15) (q0 := 0) rfl rfl) dL_law_1333 rfl (Nat.le_of_ble_eq_true rfl) [0, 1] [] rfl (by decide) rfl (by decide) (by decide) (fun q => [((a 52), .inr (15, [.ref (a 53), .ref (a 54), .ref (a 55), .ref (a 56), .ref (a 57), .ref (a 58), .ref (a 59), .ref (a 60), .ref (a 61), .ref (a 62), .ref (a 63), .ref (a 64), .ref (a 65), .ref (a 66), .ref (a 67), .ref (a 68), .ref (a 69), .ref (a 70), .long 0, .int 1, .int 2, .int 0, .int 0, .int 0, .int 0, .int 0, .int 0])), ((a 54), .inr (2, [.int 0, .ref g.1, .int 0]))]) (fun _ => rfl) (fun q2 H locs hP hD hS => ?_)
  refine W.eq (g2 := F0 m 1336 ls [.int 0]) rfl ?_
  refine lv_istore (lv' := [(7, .int 0), (6, .int 1), (5, .int 0), (4, .ref (a 72)), (3, .ref (a 71)), (2, .ref (a 52)), (1, .ref (a 0)), (0, .ref b)]) hx hb dL_law_1336 hl (by decide) rfl (fun ls hl => ?_)
  refine lv_aload_n hx hb dL_law_1338 rfl (lv_at hl 5 rfl) ?_
  refine ct_V (wr := []) hSF hl.1 hP hD hS hA hK hGV (c17_X12_thrown l hfl D cA g (a 52) (a 53) (a 54) (a 55) (a 56) (a 57) (a 58) (a 59) (a 60) (a 61) (a 62) (a 63) (a 64) (a 65) (a 66) (a 67) (a 68) (a 69) (a 70)) goV_L_125 pd_X12_thrown ⟨(Nat.le_of_ble_eq_true rfl), (Nat.le_of_ble_eq_true rfl)⟩ ⟨(Nat.le_of_ble_eq_true rfl), (Nat.le_of_ble_eq_true rfl)⟩ (va_recv hK hP (ci := 15) (q0 := 0) rfl rfl) dL_law_1339 rfl (Nat.le_of_ble_eq_true rfl) [0] [] rfl (by decide) rfl (by decide) (by decide) (fun q => [((a 52), .inr (15, [.ref (a 53), .ref (a 54), .ref (a 55), .ref (a 56), .ref (a 57), .ref (a 58), .ref (a 59), .ref (a 60), .ref (a 61), .ref (a 62), .ref (a 63), .ref (a 64), .ref (a 65), .ref (a 66), .ref (a 67), .ref (a 68), .ref (a 69), .ref (a 70), .long 0, .int 1, .int 2, .int 0, .int 0, .int 0, .int 0, .int 0, .int 0]))]) (fun _ => rfl) (fun q3 H locs hP hD hS => ?_)
  refine W.eq (g2 := F0 m 1342 ls [.int 1]) rfl ?_
  refine lv_iload hx hb dL_law_1342 (lv_at hl 1 rfl) ?_
  refine k_icmp_eq_t (tgt := 1349) hx hb dL_law_1344 (by decide) (by decide) ?_
  refine lv_iload hx hb dL_law_1349 (lv_at hl 1 rfl) ?_
  refine k_if_ne_t (tgt := 1366) hx hb dL_law_1351 (by decide) (by decide) ?_
  refine lv_goto (tgt := 1963) hx hb dL_law_1366 (by decide) ?_
  exact law_tail l hL C0 (Nat.le_of_ble_eq_true rfl) (Nat.le_of_ble_eq_true rfl) hS (lv_sub hl [2, 7] rfl)
set_option maxHeartbeats 4000000 in
set_option maxRecDepth 100000 in
theorem lc_19_0 {p : Program} {e : Env} {s : State} {m : MethodId} {below : List Frame} {meth : Method} {c : Code} (l : Launch) (hfl : l.stackTraces = false) {b L : Nat} {xs : Nat → Int32} (hL : L = 6) (C0 : lw_At p s m meth c b L xs) (D : va_G) (cA : Nat → ClassId) (g : gv_T) (hK : va_K D vwCl (TYS cA) s) (hGV : GV g (fun q : Nat => s.heap.size ≤ q) s s.heap) (a : Nat → Nat) {H : Heap} {locs : List Loc} (hP : va_P D vwCl (WL cA g a) H) (hD : va_D (fun q : Nat => s.heap.size ≤ q) (WL cA g a)) (hS : va_S (fun q : Nat => s.heap.size ≤ q) s.heap H locs) {ls : Array Slot} (hl : lv_has ls 9 [(5, .int 0), (4, .ref (a 72)), (3, .ref (a 71)), (2, .ref (a 52)), (1, .ref (a 0)), (0, .ref b)]) (k0 : (xs 1) < 0) (k1 : (lg_cmp ((xs 1)).toInt64 0) < 0) : W p l e room_1 s m #[Value.ref b] below meth c H locs 73 8292 (lw_Z below #[Value.ref b] s) (F0 m 1369 ls []) := by
  obtain ⟨hx, hb, hr, hml, hown, hts, hX, hbl, hlocks, hgv⟩ := id C0
  have hb : c.code = cL_law := hb
  have hown : s.vm.findClass RL = some m.cls := hown
  have hG : ∀ w ∈ GW, w.before #[Value.ref b] s = true := fun w hw => hts w (List.mem_filter.mp hw).1
  have hA : ∀ q : Nat, s.heap.size ≤ q → (fun q : Nat => s.heap.size ≤ q) q := fun _ h => h
  have hbA : ¬ (fun q : Nat => s.heap.size ≤ q) b := Nat.not_le.mpr hbl
  have hSF : CF p m c cL_law 9 s #[Value.ref b] RL := ⟨hx, hb, hml, hown, hG⟩
  have hP : va_P D vwCl [((a 0), .inr (9, [.ref (a 1), .ref (a 12), .ref (a 32), .ref (a 38), .ref (a 46)])), ((a 52), .inr (15, [.ref (a 53), .ref (a 54), .ref (a 55), .ref (a 56), .ref (a 57), .ref (a 58), .ref (a 59), .ref (a 60), .ref (a 61), .ref (a 62), .ref (a 63), .ref (a 64), .ref (a 65), .ref (a 66), .ref (a 67), .ref (a 68), .ref (a 69), .ref (a 70), .long 0, .int 0, .int 2, .int 0, .int 0, .int 0, .int 0, .int 0, .int 0])), ((a 54), .inr (2, [.int 0, .ref g.1, .int 0]))] H := hP.sub [0, 52, 54] rfl
  have hD : va_D (fun q : Nat => s.heap.size ≤ q) [((a 0), .inr (9, [.ref (a 1), .ref (a 12), .ref (a 32), .ref (a 38), .ref (a 46)])), ((a 52), .inr (15, [.ref (a 53), .ref (a 54), .ref (a 55), .ref (a 56), .ref (a 57), .ref (a 58), .ref (a 59), .ref (a 60), .ref (a 61), .ref (a 62), .ref (a 63), .ref (a 64), .ref (a 65), .ref (a 66), .ref (a 67), .ref (a 68), .ref (a 69), .ref (a 70), .long 0, .int 0, .int 2, .int 0, .int 0, .int 0, .int 0, .int 0, .int 0])), ((a 54), .inr (2, [.int 0, .ref g.1, .int 0]))] := hD.sub [0, 52, 54] (by decide) rfl
  have hl : lv_has ls 9 [(5, .int 0), (4, .ref (a 72)), (3, .ref (a 71)), (2, .ref (a 52)), (1, .ref (a 0)), (0, .ref b)] := hl
  refine lv_aload_n hx hb dL_law_1369 rfl (lv_at hl 4 rfl) ?_
  refine lv_aload_n hx hb dL_law_1370 rfl (lv_at hl 5 rfl) ?_
  refine lv_iload hx hb dL_law_1371 (lv_at hl 0 rfl) ?_
  refine lv_iconst (v := 1) hx hb dL_law_1373 (by decide) ?_
  refine k_iadd (v := 1) hx hb dL_law_1374 (by decide) ?_
  refine k_script (x := (xs 1)) hx hb hX hbl hbA hS 1 (by decide) rfl (by subst hL; unfold vp_in; decide) dL_law_1375 ?_
  refine lv_aload_n hx hb dL_law_1376 rfl (lv_at hl 2 rfl) ?_
  refine ct_SW (wr := [((a 52), .inr (15, [.ref (a 53), .ref (a 54), .ref (a 55), .ref (a 56), .ref (a 57), .ref (a 58), .ref (a 59), .ref (a 60), .ref (a 61), .ref (a 62), .ref (a 63), .ref (a 64), .ref (a 65), .ref (a 66), .ref (a 67), .ref (a 68), .ref (a 69), .ref (a 70), .long 0, .int 0, .int 2, .int 0, .int 0, .int 0, .int 0, .int 0, .int 0])), ((a 54), .inr (2, [.int 0, .ref g.1, .int 0]))]) hSF hl.1 hP hD hS hA hK hGV (c275_L_stickOf l hfl D cA g (a 0) (a 71) (a 1) (a 12) (a 32) (a 38) (a 46) ((xs 1)) k0) goW_L_192 pd_L_stickOf.2 ⟨(Nat.le_of_ble_eq_true rfl), (Nat.le_of_ble_eq_true rfl)⟩ ⟨(Nat.le_of_ble_eq_true rfl), (Nat.le_of_ble_eq_true rfl)⟩ dL_law_1377 rfl (Nat.le_of_ble_eq_true rfl) [0] [1, 2] rfl (by decide) rfl (by decide) (by decide) (fun q => [((a 52), .inr (15, [.ref (a 53), .ref (a 54), .ref (a 55), .ref (a 56), .ref (a 57), .ref (a 58), .ref (a 59), .ref (a 60), .ref (a 61), .ref (a 62), .ref (a 63), .ref (a 64), .ref (a 65), .ref (a 66), .ref (a 67), .ref (a 68), .ref (a 69), .ref (a 70), .long 0, .int 0, .int 2, .int 0, .int 0, .int 0, .int 0, .int 0, .int 0])), ((a 54), .inr (2, [.int 0, .ref g.1, .int 0])), ((a 0), .inr (9, [.ref (a 1), .ref (a 12), .ref (a 32), .ref (a 38), .ref (a 46)]))]) (fun _ => rfl) (fun q1 H locs hP hD hS => ?_)
  refine W.eq (g2 := F0 m 1380 ls [.int 1]) rfl ?_
  refine lv_istore (lv' := [(6, .int 1), (5, .int 0), (4, .ref (a 72)), (3, .ref (a 71)), (2, .ref (a 52)), (1, .ref (a 0)), (0, .ref b)]) hx hb dL_law_1380 hl (by decide) rfl (fun ls hl => ?_)
  refine lv_aload_n hx hb dL_law_1382 rfl (lv_at hl 4 rfl) ?_
  refine lv_aload_n hx hb dL_law_1383 rfl (lv_at hl 6 rfl) ?_
  refine lv_iload hx hb dL_law_1384 (lv_at hl 1 rfl) ?_
  refine lv_iconst (v := 1) hx hb dL_law_1386 (by decide) ?_
  refine k_iadd (v := 1) hx hb dL_law_1387 (by decide) ?_
  refine k_script (x := (xs 1)) hx hb hX hbl hbA hS 1 (by decide) rfl (by subst hL; unfold vp_in; decide) dL_law_1388 ?_
  refine ct_V (wr := []) hSF hl.1 hP hD hS hA hK hGV (c276_X12_stickOf l hfl D cA g (a 52) (a 53) (a 54) (a 55) (a 56) (a 57) (a 58) (a 59) (a 60) (a 61) (a 62) (a 63) (a 64) (a 65) (a 66) (a 67) (a 68) (a 69) (a 70) ((xs 1)) k1) goV_L_194 pd_X12_stickOf ⟨(Nat.le_of_ble_eq_true rfl), (Nat.le_of_ble_eq_true rfl)⟩ ⟨(Nat.le_of_ble_eq_true rfl), (Nat.le_of_ble_eq_true rfl)⟩ (va_recv hK hP (ci := 15) (q0 := 0) rfl rfl) dL_law_1389 rfl (Nat.le_of_ble_eq_true rfl) [0, 1] [] rfl (by decide) rfl (by decide) (by decide) (fun q => [((a 52), .inr (15, [.ref (a 53), .ref (a 54), .ref (a 55), .ref (a 56), .ref (a 57), .ref (a 58), .ref (a 59), .ref (a 60), .ref (a 61), .ref (a 62), .ref (a 63), .ref (a 64), .ref (a 65), .ref (a 66), .ref (a 67), .ref (a 68), .ref (a 69), .ref (a 70), .long 0, .int 1, .int 2, .int 0, .int 0, .int 0, .int 0, .int 0, .int 0])), ((a 54), .inr (2, [.int 0, .ref g.1, .int 0]))]) (fun _ => rfl) (fun q2 H locs hP hD hS => ?_)
  refine W.eq (g2 := F0 m 1392 ls [.int 0]) rfl ?_
  refine lv_istore (lv' := [(7, .int 0), (6, .int 1), (5, .int 0), (4, .ref (a 72)), (3, .ref (a 71)), (2, .ref (a 52)), (1, .ref (a 0)), (0, .ref b)]) hx hb dL_law_1392 hl (by decide) rfl (fun ls hl => ?_)
  refine lv_aload_n hx hb dL_law_1394 rfl (lv_at hl 5 rfl) ?_
  refine ct_V (wr := []) hSF hl.1 hP hD hS hA hK hGV (c17_X12_thrown l hfl D cA g (a 52) (a 53) (a 54) (a 55) (a 56) (a 57) (a 58) (a 59) (a 60) (a 61) (a 62) (a 63) (a 64) (a 65) (a 66) (a 67) (a 68) (a 69) (a 70)) goV_L_125 pd_X12_thrown ⟨(Nat.le_of_ble_eq_true rfl), (Nat.le_of_ble_eq_true rfl)⟩ ⟨(Nat.le_of_ble_eq_true rfl), (Nat.le_of_ble_eq_true rfl)⟩ (va_recv hK hP (ci := 15) (q0 := 0) rfl rfl) dL_law_1395 rfl (Nat.le_of_ble_eq_true rfl) [0] [] rfl (by decide) rfl (by decide) (by decide) (fun q => [((a 52), .inr (15, [.ref (a 53), .ref (a 54), .ref (a 55), .ref (a 56), .ref (a 57), .ref (a 58), .ref (a 59), .ref (a 60), .ref (a 61), .ref (a 62), .ref (a 63), .ref (a 64), .ref (a 65), .ref (a 66), .ref (a 67), .ref (a 68), .ref (a 69), .ref (a 70), .long 0, .int 1, .int 2, .int 0, .int 0, .int 0, .int 0, .int 0, .int 0]))]) (fun _ => rfl) (fun q3 H locs hP hD hS => ?_)
  refine W.eq (g2 := F0 m 1398 ls [.int 1]) rfl ?_
  refine lv_iload hx hb dL_law_1398 (lv_at hl 1 rfl) ?_
  refine k_icmp_eq_t (tgt := 1405) hx hb dL_law_1400 (by decide) (by decide) ?_
  refine lv_iload hx hb dL_law_1405 (lv_at hl 1 rfl) ?_
  refine k_if_ne_t (tgt := 1422) hx hb dL_law_1407 (by decide) (by decide) ?_
  refine lv_goto (tgt := 1963) hx hb dL_law_1422 (by decide) ?_
  exact law_tail l hL C0 (Nat.le_of_ble_eq_true rfl) (Nat.le_of_ble_eq_true rfl) hS (lv_sub hl [2, 7] rfl)
set_option maxHeartbeats 4000000 in
set_option maxRecDepth 100000 in
theorem lc_19_1 {p : Program} {e : Env} {s : State} {m : MethodId} {below : List Frame} {meth : Method} {c : Code} (l : Launch) (hfl : l.stackTraces = false) {b L : Nat} {xs : Nat → Int32} (hL : L = 6) (C0 : lw_At p s m meth c b L xs) (D : va_G) (cA : Nat → ClassId) (g : gv_T) (hK : va_K D vwCl (TYS cA) s) (hGV : GV g (fun q : Nat => s.heap.size ≤ q) s s.heap) (a : Nat → Nat) {H : Heap} {locs : List Loc} (hP : va_P D vwCl (WL cA g a) H) (hD : va_D (fun q : Nat => s.heap.size ≤ q) (WL cA g a)) (hS : va_S (fun q : Nat => s.heap.size ≤ q) s.heap H locs) {ls : Array Slot} (hl : lv_has ls 9 [(5, .int 0), (4, .ref (a 72)), (3, .ref (a 71)), (2, .ref (a 52)), (1, .ref (a 0)), (0, .ref b)]) (k0 : ¬ (xs 1) < 0) (k1 : ¬ (lg_cmp ((xs 1)).toInt64 0) < 0) (k2 : 0 < (lg_cmp ((xs 1)).toInt64 (-1))) : W p l e room_1 s m #[Value.ref b] below meth c H locs 73 8292 (lw_Z below #[Value.ref b] s) (F0 m 1369 ls []) := by
  obtain ⟨hx, hb, hr, hml, hown, hts, hX, hbl, hlocks, hgv⟩ := id C0
  have hb : c.code = cL_law := hb
  have hown : s.vm.findClass RL = some m.cls := hown
  have hG : ∀ w ∈ GW, w.before #[Value.ref b] s = true := fun w hw => hts w (List.mem_filter.mp hw).1
  have hA : ∀ q : Nat, s.heap.size ≤ q → (fun q : Nat => s.heap.size ≤ q) q := fun _ h => h
  have hbA : ¬ (fun q : Nat => s.heap.size ≤ q) b := Nat.not_le.mpr hbl
  have hSF : CF p m c cL_law 9 s #[Value.ref b] RL := ⟨hx, hb, hml, hown, hG⟩
  have hP : va_P D vwCl [((a 0), .inr (9, [.ref (a 1), .ref (a 12), .ref (a 32), .ref (a 38), .ref (a 46)])), ((a 1), .inr (5, [.int 0, .int 0, .ref (a 2), .ref (a 3), .ref (a 4), .ref (a 5), .ref (a 6), .ref (a 7), .ref (a 8), .ref (a 9), .ref (a 10), .ref (a 11)])), ((a 52), .inr (15, [.ref (a 53), .ref (a 54), .ref (a 55), .ref (a 56), .ref (a 57), .ref (a 58), .ref (a 59), .ref (a 60), .ref (a 61), .ref (a 62), .ref (a 63), .ref (a 64), .ref (a 65), .ref (a 66), .ref (a 67), .ref (a 68), .ref (a 69), .ref (a 70), .long 0, .int 0, .int 2, .int 0, .int 0, .int 0, .int 0, .int 0, .int 0])), ((a 54), .inr (2, [.int 0, .ref g.1, .int 0]))] H := hP.sub [0, 1, 52, 54] rfl
  have hD : va_D (fun q : Nat => s.heap.size ≤ q) [((a 0), .inr (9, [.ref (a 1), .ref (a 12), .ref (a 32), .ref (a 38), .ref (a 46)])), ((a 1), .inr (5, [.int 0, .int 0, .ref (a 2), .ref (a 3), .ref (a 4), .ref (a 5), .ref (a 6), .ref (a 7), .ref (a 8), .ref (a 9), .ref (a 10), .ref (a 11)])), ((a 52), .inr (15, [.ref (a 53), .ref (a 54), .ref (a 55), .ref (a 56), .ref (a 57), .ref (a 58), .ref (a 59), .ref (a 60), .ref (a 61), .ref (a 62), .ref (a 63), .ref (a 64), .ref (a 65), .ref (a 66), .ref (a 67), .ref (a 68), .ref (a 69), .ref (a 70), .long 0, .int 0, .int 2, .int 0, .int 0, .int 0, .int 0, .int 0, .int 0])), ((a 54), .inr (2, [.int 0, .ref g.1, .int 0]))] := hD.sub [0, 1, 52, 54] (by decide) rfl
  have hl : lv_has ls 9 [(5, .int 0), (4, .ref (a 72)), (3, .ref (a 71)), (2, .ref (a 52)), (1, .ref (a 0)), (0, .ref b)] := hl
  refine lv_aload_n hx hb dL_law_1369 rfl (lv_at hl 4 rfl) ?_
  refine lv_aload_n hx hb dL_law_1370 rfl (lv_at hl 5 rfl) ?_
  refine lv_iload hx hb dL_law_1371 (lv_at hl 0 rfl) ?_
  refine lv_iconst (v := 1) hx hb dL_law_1373 (by decide) ?_
  refine k_iadd (v := 1) hx hb dL_law_1374 (by decide) ?_
  refine k_script (x := (xs 1)) hx hb hX hbl hbA hS 1 (by decide) rfl (by subst hL; unfold vp_in; decide) dL_law_1375 ?_
  refine lv_aload_n hx hb dL_law_1376 rfl (lv_at hl 2 rfl) ?_
  refine ct_SW (wr := [((a 52), .inr (15, [.ref (a 53), .ref (a 54), .ref (a 55), .ref (a 56), .ref (a 57), .ref (a 58), .ref (a 59), .ref (a 60), .ref (a 61), .ref (a 62), .ref (a 63), .ref (a 64), .ref (a 65), .ref (a 66), .ref (a 67), .ref (a 68), .ref (a 69), .ref (a 70), .long 0, .int 0, .int 2, .int 0, .int 0, .int 0, .int 0, .int 0, .int 0])), ((a 54), .inr (2, [.int 0, .ref g.1, .int 0]))]) hSF hl.1 hP hD hS hA hK hGV (c278_L_stickOf l hfl D cA g (a 0) (a 71) (a 1) (a 12) (a 32) (a 38) (a 46) (a 2) (a 3) (a 4) (a 5) (a 6) (a 7) (a 8) (a 9) (a 10) (a 11) ((xs 1)) k0) goW_L_192 pd_L_stickOf.2 ⟨(Nat.le_of_ble_eq_true rfl), (Nat.le_of_ble_eq_true rfl)⟩ ⟨(Nat.le_of_ble_eq_true rfl), (Nat.le_of_ble_eq_true rfl)⟩ dL_law_1377 rfl (Nat.le_of_ble_eq_true rfl) [0, 1] [2, 3] rfl (by decide) rfl (by decide) (by decide) (fun q => [((a 52), .inr (15, [.ref (a 53), .ref (a 54), .ref (a 55), .ref (a 56), .ref (a 57), .ref (a 58), .ref (a 59), .ref (a 60), .ref (a 61), .ref (a 62), .ref (a 63), .ref (a 64), .ref (a 65), .ref (a 66), .ref (a 67), .ref (a 68), .ref (a 69), .ref (a 70), .long 0, .int 0, .int 2, .int 0, .int 0, .int 0, .int 0, .int 0, .int 0])), ((a 54), .inr (2, [.int 0, .ref g.1, .int 0])), ((a 0), .inr (9, [.ref (a 1), .ref (a 12), .ref (a 32), .ref (a 38), .ref (a 46)])), ((a 1), .inr (5, [.int 0, .int 0, .ref (a 2), .ref (a 3), .ref (a 4), .ref (a 5), .ref (a 6), .ref (a 7), .ref (a 8), .ref (a 9), .ref (a 10), .ref (a 11)]))]) (fun _ => rfl) (fun q1 H locs hP hD hS => ?_)
  refine W.eq (g2 := F0 m 1380 ls [.int 1]) rfl ?_
  refine lv_istore (lv' := [(6, .int 1), (5, .int 0), (4, .ref (a 72)), (3, .ref (a 71)), (2, .ref (a 52)), (1, .ref (a 0)), (0, .ref b)]) hx hb dL_law_1380 hl (by decide) rfl (fun ls hl => ?_)
  refine lv_aload_n hx hb dL_law_1382 rfl (lv_at hl 4 rfl) ?_
  refine lv_aload_n hx hb dL_law_1383 rfl (lv_at hl 6 rfl) ?_
  refine lv_iload hx hb dL_law_1384 (lv_at hl 1 rfl) ?_
  refine lv_iconst (v := 1) hx hb dL_law_1386 (by decide) ?_
  refine k_iadd (v := 1) hx hb dL_law_1387 (by decide) ?_
  refine k_script (x := (xs 1)) hx hb hX hbl hbA hS 1 (by decide) rfl (by subst hL; unfold vp_in; decide) dL_law_1388 ?_
  refine ct_V (wr := []) hSF hl.1 hP hD hS hA hK hGV (c279_X12_stickOf l hfl D cA g (a 52) (a 53) (a 54) (a 55) (a 56) (a 57) (a 58) (a 59) (a 60) (a 61) (a 62) (a 63) (a 64) (a 65) (a 66) (a 67) (a 68) (a 69) (a 70) ((xs 1)) k1 k2) goV_L_194 pd_X12_stickOf ⟨(Nat.le_of_ble_eq_true rfl), (Nat.le_of_ble_eq_true rfl)⟩ ⟨(Nat.le_of_ble_eq_true rfl), (Nat.le_of_ble_eq_true rfl)⟩ (va_recv hK hP (ci := 15) (q0 := 0) rfl rfl) dL_law_1389 rfl (Nat.le_of_ble_eq_true rfl) [0, 1] [] rfl (by decide) rfl (by decide) (by decide) (fun q => [((a 52), .inr (15, [.ref (a 53), .ref (a 54), .ref (a 55), .ref (a 56), .ref (a 57), .ref (a 58), .ref (a 59), .ref (a 60), .ref (a 61), .ref (a 62), .ref (a 63), .ref (a 64), .ref (a 65), .ref (a 66), .ref (a 67), .ref (a 68), .ref (a 69), .ref (a 70), .long 0, .int 1, .int 2, .int 0, .int 0, .int 0, .int 0, .int 0, .int 0])), ((a 54), .inr (2, [.int 0, .ref g.1, .int 0]))]) (fun _ => rfl) (fun q2 H locs hP hD hS => ?_)
  refine W.eq (g2 := F0 m 1392 ls [.int 0]) rfl ?_
  refine lv_istore (lv' := [(7, .int 0), (6, .int 1), (5, .int 0), (4, .ref (a 72)), (3, .ref (a 71)), (2, .ref (a 52)), (1, .ref (a 0)), (0, .ref b)]) hx hb dL_law_1392 hl (by decide) rfl (fun ls hl => ?_)
  refine lv_aload_n hx hb dL_law_1394 rfl (lv_at hl 5 rfl) ?_
  refine ct_V (wr := []) hSF hl.1 hP hD hS hA hK hGV (c17_X12_thrown l hfl D cA g (a 52) (a 53) (a 54) (a 55) (a 56) (a 57) (a 58) (a 59) (a 60) (a 61) (a 62) (a 63) (a 64) (a 65) (a 66) (a 67) (a 68) (a 69) (a 70)) goV_L_125 pd_X12_thrown ⟨(Nat.le_of_ble_eq_true rfl), (Nat.le_of_ble_eq_true rfl)⟩ ⟨(Nat.le_of_ble_eq_true rfl), (Nat.le_of_ble_eq_true rfl)⟩ (va_recv hK hP (ci := 15) (q0 := 0) rfl rfl) dL_law_1395 rfl (Nat.le_of_ble_eq_true rfl) [0] [] rfl (by decide) rfl (by decide) (by decide) (fun q => [((a 52), .inr (15, [.ref (a 53), .ref (a 54), .ref (a 55), .ref (a 56), .ref (a 57), .ref (a 58), .ref (a 59), .ref (a 60), .ref (a 61), .ref (a 62), .ref (a 63), .ref (a 64), .ref (a 65), .ref (a 66), .ref (a 67), .ref (a 68), .ref (a 69), .ref (a 70), .long 0, .int 1, .int 2, .int 0, .int 0, .int 0, .int 0, .int 0, .int 0]))]) (fun _ => rfl) (fun q3 H locs hP hD hS => ?_)
  refine W.eq (g2 := F0 m 1398 ls [.int 1]) rfl ?_
  refine lv_iload hx hb dL_law_1398 (lv_at hl 1 rfl) ?_
  refine k_icmp_eq_t (tgt := 1405) hx hb dL_law_1400 (by decide) (by decide) ?_
  refine lv_iload hx hb dL_law_1405 (lv_at hl 1 rfl) ?_
  refine k_if_ne_t (tgt := 1422) hx hb dL_law_1407 (by decide) (by decide) ?_
  refine lv_goto (tgt := 1963) hx hb dL_law_1422 (by decide) ?_
  exact law_tail l hL C0 (Nat.le_of_ble_eq_true rfl) (Nat.le_of_ble_eq_true rfl) hS (lv_sub hl [2, 7] rfl)
set_option maxHeartbeats 4000000 in
set_option maxRecDepth 100000 in
theorem lc_20_0 {p : Program} {e : Env} {s : State} {m : MethodId} {below : List Frame} {meth : Method} {c : Code} (l : Launch) (hfl : l.stackTraces = false) {b L : Nat} {xs : Nat → Int32} (hL : L = 6) (C0 : lw_At p s m meth c b L xs) (D : va_G) (cA : Nat → ClassId) (g : gv_T) (hK : va_K D vwCl (TYS cA) s) (hGV : GV g (fun q : Nat => s.heap.size ≤ q) s s.heap) (a : Nat → Nat) {H : Heap} {locs : List Loc} (hP : va_P D vwCl (WL cA g a) H) (hD : va_D (fun q : Nat => s.heap.size ≤ q) (WL cA g a)) (hS : va_S (fun q : Nat => s.heap.size ≤ q) s.heap H locs) {ls : Array Slot} (hl : lv_has ls 9 [(5, .int 0), (4, .ref (a 72)), (3, .ref (a 71)), (2, .ref (a 52)), (1, .ref (a 0)), (0, .ref b)]) : W p l e room_1 s m #[Value.ref b] below meth c H locs 73 8292 (lw_Z below #[Value.ref b] s) (F0 m 1425 ls []) := by
  obtain ⟨hx, hb, hr, hml, hown, hts, hX, hbl, hlocks, hgv⟩ := id C0
  have hb : c.code = cL_law := hb
  have hown : s.vm.findClass RL = some m.cls := hown
  have hG : ∀ w ∈ GW, w.before #[Value.ref b] s = true := fun w hw => hts w (List.mem_filter.mp hw).1
  have hA : ∀ q : Nat, s.heap.size ≤ q → (fun q : Nat => s.heap.size ≤ q) q := fun _ h => h
  have hbA : ¬ (fun q : Nat => s.heap.size ≤ q) b := Nat.not_le.mpr hbl
  have hSF : CF p m c cL_law 9 s #[Value.ref b] RL := ⟨hx, hb, hml, hown, hG⟩
  have hP : va_P D vwCl [((a 0), .inr (9, [.ref (a 1), .ref (a 12), .ref (a 32), .ref (a 38), .ref (a 46)])), ((a 1), .inr (5, [.int 0, .int 0, .ref (a 2), .ref (a 3), .ref (a 4), .ref (a 5), .ref (a 6), .ref (a 7), .ref (a 8), .ref (a 9), .ref (a 10), .ref (a 11)])), ((a 38), .inr (3, [.int 0, .int 0, .int 0, .int 0, .ref (a 39), .ref (a 40), .ref (a 41), .ref (a 42), .ref (a 43), .ref (a 44), .ref (a 45)])), ((a 39), .inl (cA 0, 9, .inl (fun _ => 0))), ((a 45), .inl (cA 1, 512, .inr (.inl (fun _ => 0)))), ((a 52), .inr (15, [.ref (a 53), .ref (a 54), .ref (a 55), .ref (a 56), .ref (a 57), .ref (a 58), .ref (a 59), .ref (a 60), .ref (a 61), .ref (a 62), .ref (a 63), .ref (a 64), .ref (a 65), .ref (a 66), .ref (a 67), .ref (a 68), .ref (a 69), .ref (a 70), .long 0, .int 0, .int 2, .int 0, .int 0, .int 0, .int 0, .int 0, .int 0])), ((a 54), .inr (2, [.int 0, .ref g.1, .int 0])), ((a 56), .inr (2, [.int 0, .ref g.1, .int 0])), ((a 61), .inl (cA 3, 512, .inl (fun _ => 0))), ((a 71), .inl (cA 1, 1, .inr (.inl (fun _ => 0))))] H := hP.sub [0, 1, 38, 39, 45, 52, 54, 56, 61, 71] rfl
  have hD : va_D (fun q : Nat => s.heap.size ≤ q) [((a 0), .inr (9, [.ref (a 1), .ref (a 12), .ref (a 32), .ref (a 38), .ref (a 46)])), ((a 1), .inr (5, [.int 0, .int 0, .ref (a 2), .ref (a 3), .ref (a 4), .ref (a 5), .ref (a 6), .ref (a 7), .ref (a 8), .ref (a 9), .ref (a 10), .ref (a 11)])), ((a 38), .inr (3, [.int 0, .int 0, .int 0, .int 0, .ref (a 39), .ref (a 40), .ref (a 41), .ref (a 42), .ref (a 43), .ref (a 44), .ref (a 45)])), ((a 39), .inl (cA 0, 9, .inl (fun _ => 0))), ((a 45), .inl (cA 1, 512, .inr (.inl (fun _ => 0)))), ((a 52), .inr (15, [.ref (a 53), .ref (a 54), .ref (a 55), .ref (a 56), .ref (a 57), .ref (a 58), .ref (a 59), .ref (a 60), .ref (a 61), .ref (a 62), .ref (a 63), .ref (a 64), .ref (a 65), .ref (a 66), .ref (a 67), .ref (a 68), .ref (a 69), .ref (a 70), .long 0, .int 0, .int 2, .int 0, .int 0, .int 0, .int 0, .int 0, .int 0])), ((a 54), .inr (2, [.int 0, .ref g.1, .int 0])), ((a 56), .inr (2, [.int 0, .ref g.1, .int 0])), ((a 61), .inl (cA 3, 512, .inl (fun _ => 0))), ((a 71), .inl (cA 1, 1, .inr (.inl (fun _ => 0))))] := hD.sub [0, 1, 38, 39, 45, 52, 54, 56, 61, 71] (by decide) rfl
  have hl : lv_has ls 9 [(5, .int 0), (4, .ref (a 72)), (3, .ref (a 71)), (2, .ref (a 52)), (1, .ref (a 0)), (0, .ref b)] := hl
  refine lv_aload_n hx hb dL_law_1425 rfl (lv_at hl 4 rfl) ?_
  refine lv_aload_n hx hb dL_law_1426 rfl (lv_at hl 2 rfl) ?_
  refine ct_SW (wr := [((a 52), .inr (15, [.ref (a 53), .ref (a 54), .ref (a 55), .ref (a 56), .ref (a 57), .ref (a 58), .ref (a 59), .ref (a 60), .ref (a 61), .ref (a 62), .ref (a 63), .ref (a 64), .ref (a 65), .ref (a 66), .ref (a 67), .ref (a 68), .ref (a 69), .ref (a 70), .long 0, .int 0, .int 2, .int 0, .int 0, .int 0, .int 0, .int 0, .int 0])), ((a 54), .inr (2, [.int 0, .ref g.1, .int 0])), ((a 56), .inr (2, [.int 0, .ref g.1, .int 0])), ((a 61), .inl (cA 3, 512, .inl (fun _ => 0)))]) hSF hl.1 hP hD hS hA hK hGV (c285_L_wood l hfl D cA g (a 0) (a 71) (a 1) (a 12) (a 32) (a 38) (a 46) (a 39) (a 40) (a 41) (a 42) (a 43) (a 44) (a 45) (a 2) (a 3) (a 4) (a 5) (a 6) (a 7) (a 8) (a 9) (a 10) (a 11)) goW_L_195 pd_L_wood.2 ⟨(Nat.le_of_ble_eq_true rfl), (Nat.le_of_ble_eq_true rfl)⟩ ⟨(Nat.le_of_ble_eq_true rfl), (Nat.le_of_ble_eq_true rfl)⟩ dL_law_1427 rfl (Nat.le_of_ble_eq_true rfl) [0, 2, 1, 4, 3, 9] [5, 6, 7, 8] rfl (by decide) rfl (by decide) (by decide) (fun q => [((a 52), .inr (15, [.ref (a 53), .ref (a 54), .ref (a 55), .ref (a 56), .ref (a 57), .ref (a 58), .ref (a 59), .ref (a 60), .ref (a 61), .ref (a 62), .ref (a 63), .ref (a 64), .ref (a 65), .ref (a 66), .ref (a 67), .ref (a 68), .ref (a 69), .ref (a 70), .long 0, .int 0, .int 2, .int 0, .int 0, .int 0, .int 0, .int 0, .int 0])), ((a 54), .inr (2, [.int 0, .ref g.1, .int 0])), ((a 56), .inr (2, [.int 0, .ref g.1, .int 0])), ((a 61), .inl (cA 3, 512, .inl (fun _ => 0))), ((a 0), .inr (9, [.ref (a 1), .ref (a 12), .ref (a 32), .ref (a 38), .ref (a 46)])), ((a 38), .inr (3, [.int 0, .int 1, .int 1, .int 0, .ref (a 39), .ref (a 40), .ref (a 41), .ref (a 42), .ref (a 43), .ref (a 44), .ref (a 45)])), ((a 1), .inr (5, [.int 0, .int 0, .ref (a 2), .ref (a 3), .ref (a 4), .ref (a 5), .ref (a 6), .ref (a 7), .ref (a 8), .ref (a 9), .ref (a 10), .ref (a 11)])), ((a 45), .inl (cA 1, 512, .inr (.inl (vp_updL (fun _ => 0) 0 0)))), ((a 39), .inl (cA 0, 9, .inl (upd (upd (upd (upd (upd (upd (upd (upd (upd (fun _ => 0) 8 0) 7 0) 6 0) 5 0) 4 0) 3 0) 2 0) 1 0) 0 0))), ((a 71), .inl (cA 1, 1, .inr (.inl (vp_updL (fun _ => 0) 0 0))))]) (fun _ => rfl) (fun q1 H locs hP hD hS => ?_)
  refine W.eq (g2 := F0 m 1430 ls [.int 0]) rfl ?_
  refine lv_istore (lv' := [(6, .int 0), (5, .int 0), (4, .ref (a 72)), (3, .ref (a 71)), (2, .ref (a 52)), (1, .ref (a 0)), (0, .ref b)]) hx hb dL_law_1430 hl (by decide) rfl (fun ls hl => ?_)
  refine lv_aload_n hx hb dL_law_1432 rfl (lv_at hl 4 rfl) ?_
  refine ct_V (wr := [((a 71), .inl (cA 1, 1, .inr (.inl (vp_updL (fun _ => 0) 0 0))))]) hSF hl.1 hP hD hS hA hK hGV (c292_X12_wood l hfl D cA g (a 52) (a 53) (a 54) (a 55) (a 56) (a 57) (a 58) (a 59) (a 60) (a 61) (a 62) (a 63) (a 64) (a 65) (a 66) (a 67) (a 68) (a 69) (a 70)) goV_L_197 pd_X12_wood ⟨(Nat.le_of_ble_eq_true rfl), (Nat.le_of_ble_eq_true rfl)⟩ ⟨(Nat.le_of_ble_eq_true rfl), (Nat.le_of_ble_eq_true rfl)⟩ (va_recv hK hP (ci := 15) (q0 := 0) rfl rfl) dL_law_1433 rfl (Nat.le_of_ble_eq_true rfl) [0, 1, 2, 3] [9] rfl (by decide) rfl (by decide) (by decide) (fun q => [((a 71), .inl (cA 1, 1, .inr (.inl (vp_updL (fun _ => 0) 0 0)))), ((a 52), .inr (15, [.ref (a 53), .ref (a 54), .ref (a 55), .ref (a 56), .ref (a 57), .ref (a 58), .ref (a 59), .ref (a 60), .ref (a 61), .ref (a 62), .ref (a 63), .ref (a 64), .ref (a 65), .ref (a 66), .ref (a 67), .ref (a 68), .ref (a 69), .ref (a 70), .long 0, .int 0, .int 2, .int 0, .int 0, .int 0, .int 0, .int 1, .int 0])), ((a 54), .inr (2, [.int 0, .ref g.1, .int 0])), ((a 56), .inr (2, [.int 0, .ref g.1, .int 0])), ((a 61), .inl (cA 3, 512, .inl (upd (fun _ => 0) 0 1)))]) (fun _ => rfl) (fun q2 H locs hP hD hS => ?_)
  refine W.eq (g2 := F0 m 1436 ls [.int 0]) rfl ?_
  refine lv_istore (lv' := [(7, .int 0), (6, .int 0), (5, .int 0), (4, .ref (a 72)), (3, .ref (a 71)), (2, .ref (a 52)), (1, .ref (a 0)), (0, .ref b)]) hx hb dL_law_1436 hl (by decide) rfl (fun ls hl => ?_)
  refine lv_aload_n hx hb dL_law_1438 rfl (lv_at hl 5 rfl) ?_
  refine ct_V (wr := [((a 71), .inl (cA 1, 1, .inr (.inl (vp_updL (fun _ => 0) 0 0))))]) hSF hl.1 hP hD hS hA hK hGV (c293_X12_thrown l hfl D cA g (a 52) (a 53) (a 54) (a 55) (a 56) (a 57) (a 58) (a 59) (a 60) (a 61) (a 62) (a 63) (a 64) (a 65) (a 66) (a 67) (a 68) (a 69) (a 70)) goV_L_125 pd_X12_thrown ⟨(Nat.le_of_ble_eq_true rfl), (Nat.le_of_ble_eq_true rfl)⟩ ⟨(Nat.le_of_ble_eq_true rfl), (Nat.le_of_ble_eq_true rfl)⟩ (va_recv hK hP (ci := 15) (q0 := 1) rfl rfl) dL_law_1439 rfl (Nat.le_of_ble_eq_true rfl) [1] [0] rfl (by decide) rfl (by decide) (by decide) (fun q => [((a 71), .inl (cA 1, 1, .inr (.inl (vp_updL (fun _ => 0) 0 0)))), ((a 52), .inr (15, [.ref (a 53), .ref (a 54), .ref (a 55), .ref (a 56), .ref (a 57), .ref (a 58), .ref (a 59), .ref (a 60), .ref (a 61), .ref (a 62), .ref (a 63), .ref (a 64), .ref (a 65), .ref (a 66), .ref (a 67), .ref (a 68), .ref (a 69), .ref (a 70), .long 0, .int 0, .int 2, .int 0, .int 0, .int 0, .int 0, .int 1, .int 0]))]) (fun _ => rfl) (fun q3 H locs hP hD hS => ?_)
  refine W.eq (g2 := F0 m 1442 ls [.int 0]) rfl ?_
  refine lv_iload hx hb dL_law_1442 (lv_at hl 1 rfl) ?_
  refine k_icmp_eq_t (tgt := 1449) hx hb dL_law_1444 (by decide) (by decide) ?_
  refine lv_iload hx hb dL_law_1449 (lv_at hl 1 rfl) ?_
  refine k_if_ne_f (tgt := 1466) hx hb dL_law_1451 (by decide) (by decide) ?_
  refine lv_aload_n hx hb dL_law_1454 rfl (lv_at hl 4 rfl) ?_
  refine lv_iconst (v := 0) hx hb dL_law_1455 (by decide) ?_
  refine k_lald (v := 0) hx hb hK hP 0 rfl 0 (by decide) rfl (by unfold vp_in; decide) dL_law_1456 ?_
  refine lv_iload hx hb dL_law_1457 (lv_at hl 0 rfl) ?_
  refine lv_i2l (v := 0) hx hb dL_law_1459 (by decide +kernel) ?_
  refine k_lcmp (v := 0) hx hb dL_law_1460 (by decide +kernel) ?_
  refine k_if_eq_t (tgt := 1466) hx hb dL_law_1461 (by decide) (by decide) ?_
  refine lv_goto (tgt := 1963) hx hb dL_law_1466 (by decide) ?_
  exact law_tail l hL C0 (Nat.le_of_ble_eq_true rfl) (Nat.le_of_ble_eq_true rfl) hS (lv_sub hl [2, 7] rfl)
set_option maxHeartbeats 4000000 in
set_option maxRecDepth 100000 in
theorem lc_21_0 {p : Program} {e : Env} {s : State} {m : MethodId} {below : List Frame} {meth : Method} {c : Code} (l : Launch) (hfl : l.stackTraces = false) {b L : Nat} {xs : Nat → Int32} (hL : L = 6) (C0 : lw_At p s m meth c b L xs) (D : va_G) (cA : Nat → ClassId) (g : gv_T) (hK : va_K D vwCl (TYS cA) s) (hGV : GV g (fun q : Nat => s.heap.size ≤ q) s s.heap) (a : Nat → Nat) {H : Heap} {locs : List Loc} (hP : va_P D vwCl (WL cA g a) H) (hD : va_D (fun q : Nat => s.heap.size ≤ q) (WL cA g a)) (hS : va_S (fun q : Nat => s.heap.size ≤ q) s.heap H locs) {ls : Array Slot} (hl : lv_has ls 9 [(5, .int 0), (4, .ref (a 72)), (3, .ref (a 71)), (2, .ref (a 52)), (1, .ref (a 0)), (0, .ref b)]) (k0 : (xs 1) < 0) (k1 : (lg_cmp ((xs 1)).toInt64 0) < 0) : W p l e room_1 s m #[Value.ref b] below meth c H locs 73 8292 (lw_Z below #[Value.ref b] s) (F0 m 1469 ls []) := by
  obtain ⟨hx, hb, hr, hml, hown, hts, hX, hbl, hlocks, hgv⟩ := id C0
  have hb : c.code = cL_law := hb
  have hown : s.vm.findClass RL = some m.cls := hown
  have hG : ∀ w ∈ GW, w.before #[Value.ref b] s = true := fun w hw => hts w (List.mem_filter.mp hw).1
  have hA : ∀ q : Nat, s.heap.size ≤ q → (fun q : Nat => s.heap.size ≤ q) q := fun _ h => h
  have hbA : ¬ (fun q : Nat => s.heap.size ≤ q) b := Nat.not_le.mpr hbl
  have hSF : CF p m c cL_law 9 s #[Value.ref b] RL := ⟨hx, hb, hml, hown, hG⟩
  have hP : va_P D vwCl [((a 0), .inr (9, [.ref (a 1), .ref (a 12), .ref (a 32), .ref (a 38), .ref (a 46)])), ((a 52), .inr (15, [.ref (a 53), .ref (a 54), .ref (a 55), .ref (a 56), .ref (a 57), .ref (a 58), .ref (a 59), .ref (a 60), .ref (a 61), .ref (a 62), .ref (a 63), .ref (a 64), .ref (a 65), .ref (a 66), .ref (a 67), .ref (a 68), .ref (a 69), .ref (a 70), .long 0, .int 0, .int 2, .int 0, .int 0, .int 0, .int 0, .int 0, .int 0])), ((a 56), .inr (2, [.int 0, .ref g.1, .int 0]))] H := hP.sub [0, 52, 56] rfl
  have hD : va_D (fun q : Nat => s.heap.size ≤ q) [((a 0), .inr (9, [.ref (a 1), .ref (a 12), .ref (a 32), .ref (a 38), .ref (a 46)])), ((a 52), .inr (15, [.ref (a 53), .ref (a 54), .ref (a 55), .ref (a 56), .ref (a 57), .ref (a 58), .ref (a 59), .ref (a 60), .ref (a 61), .ref (a 62), .ref (a 63), .ref (a 64), .ref (a 65), .ref (a 66), .ref (a 67), .ref (a 68), .ref (a 69), .ref (a 70), .long 0, .int 0, .int 2, .int 0, .int 0, .int 0, .int 0, .int 0, .int 0])), ((a 56), .inr (2, [.int 0, .ref g.1, .int 0]))] := hD.sub [0, 52, 56] (by decide) rfl
  have hl : lv_has ls 9 [(5, .int 0), (4, .ref (a 72)), (3, .ref (a 71)), (2, .ref (a 52)), (1, .ref (a 0)), (0, .ref b)] := hl
  refine lv_aload_n hx hb dL_law_1469 rfl (lv_at hl 4 rfl) ?_
  refine lv_aload_n hx hb dL_law_1470 rfl (lv_at hl 5 rfl) ?_
  refine lv_iload hx hb dL_law_1471 (lv_at hl 0 rfl) ?_
  refine lv_iconst (v := 1) hx hb dL_law_1473 (by decide) ?_
  refine k_iadd (v := 1) hx hb dL_law_1474 (by decide) ?_
  refine k_script (x := (xs 1)) hx hb hX hbl hbA hS 1 (by decide) rfl (by subst hL; unfold vp_in; decide) dL_law_1475 ?_
  refine lv_aload_n hx hb dL_law_1476 rfl (lv_at hl 2 rfl) ?_
  refine ct_SW (wr := [((a 52), .inr (15, [.ref (a 53), .ref (a 54), .ref (a 55), .ref (a 56), .ref (a 57), .ref (a 58), .ref (a 59), .ref (a 60), .ref (a 61), .ref (a 62), .ref (a 63), .ref (a 64), .ref (a 65), .ref (a 66), .ref (a 67), .ref (a 68), .ref (a 69), .ref (a 70), .long 0, .int 0, .int 2, .int 0, .int 0, .int 0, .int 0, .int 0, .int 0])), ((a 56), .inr (2, [.int 0, .ref g.1, .int 0]))]) hSF hl.1 hP hD hS hA hK hGV (c295_L_waste l hfl D cA g (a 0) (a 71) (a 1) (a 12) (a 32) (a 38) (a 46) ((xs 1)) k0) goW_L_198 pd_L_waste.2 ⟨(Nat.le_of_ble_eq_true rfl), (Nat.le_of_ble_eq_true rfl)⟩ ⟨(Nat.le_of_ble_eq_true rfl), (Nat.le_of_ble_eq_true rfl)⟩ dL_law_1477 rfl (Nat.le_of_ble_eq_true rfl) [0] [1, 2] rfl (by decide) rfl (by decide) (by decide) (fun q => [((a 52), .inr (15, [.ref (a 53), .ref (a 54), .ref (a 55), .ref (a 56), .ref (a 57), .ref (a 58), .ref (a 59), .ref (a 60), .ref (a 61), .ref (a 62), .ref (a 63), .ref (a 64), .ref (a 65), .ref (a 66), .ref (a 67), .ref (a 68), .ref (a 69), .ref (a 70), .long 0, .int 0, .int 2, .int 0, .int 0, .int 0, .int 0, .int 0, .int 0])), ((a 56), .inr (2, [.int 0, .ref g.1, .int 0])), ((a 0), .inr (9, [.ref (a 1), .ref (a 12), .ref (a 32), .ref (a 38), .ref (a 46)]))]) (fun _ => rfl) (fun q1 H locs hP hD hS => ?_)
  refine W.eq (g2 := F0 m 1480 ls [.int 1]) rfl ?_
  refine lv_istore (lv' := [(6, .int 1), (5, .int 0), (4, .ref (a 72)), (3, .ref (a 71)), (2, .ref (a 52)), (1, .ref (a 0)), (0, .ref b)]) hx hb dL_law_1480 hl (by decide) rfl (fun ls hl => ?_)
  refine lv_aload_n hx hb dL_law_1482 rfl (lv_at hl 4 rfl) ?_
  refine lv_aload_n hx hb dL_law_1483 rfl (lv_at hl 6 rfl) ?_
  refine lv_iload hx hb dL_law_1484 (lv_at hl 1 rfl) ?_
  refine lv_iconst (v := 1) hx hb dL_law_1486 (by decide) ?_
  refine k_iadd (v := 1) hx hb dL_law_1487 (by decide) ?_
  refine k_script (x := (xs 1)) hx hb hX hbl hbA hS 1 (by decide) rfl (by subst hL; unfold vp_in; decide) dL_law_1488 ?_
  refine ct_V (wr := []) hSF hl.1 hP hD hS hA hK hGV (c296_X12_waste l hfl D cA g (a 52) (a 53) (a 54) (a 55) (a 56) (a 57) (a 58) (a 59) (a 60) (a 61) (a 62) (a 63) (a 64) (a 65) (a 66) (a 67) (a 68) (a 69) (a 70) ((xs 1)) k1) goV_L_200 pd_X12_waste ⟨(Nat.le_of_ble_eq_true rfl), (Nat.le_of_ble_eq_true rfl)⟩ ⟨(Nat.le_of_ble_eq_true rfl), (Nat.le_of_ble_eq_true rfl)⟩ (va_recv hK hP (ci := 15) (q0 := 0) rfl rfl) dL_law_1489 rfl (Nat.le_of_ble_eq_true rfl) [0, 1] [] rfl (by decide) rfl (by decide) (by decide) (fun q => [((a 52), .inr (15, [.ref (a 53), .ref (a 54), .ref (a 55), .ref (a 56), .ref (a 57), .ref (a 58), .ref (a 59), .ref (a 60), .ref (a 61), .ref (a 62), .ref (a 63), .ref (a 64), .ref (a 65), .ref (a 66), .ref (a 67), .ref (a 68), .ref (a 69), .ref (a 70), .long 0, .int 1, .int 2, .int 0, .int 0, .int 0, .int 0, .int 0, .int 0])), ((a 56), .inr (2, [.int 0, .ref g.1, .int 0]))]) (fun _ => rfl) (fun q2 H locs hP hD hS => ?_)
  refine W.eq (g2 := F0 m 1492 ls [.int 0]) rfl ?_
  refine lv_istore (lv' := [(7, .int 0), (6, .int 1), (5, .int 0), (4, .ref (a 72)), (3, .ref (a 71)), (2, .ref (a 52)), (1, .ref (a 0)), (0, .ref b)]) hx hb dL_law_1492 hl (by decide) rfl (fun ls hl => ?_)
  refine lv_aload_n hx hb dL_law_1494 rfl (lv_at hl 5 rfl) ?_
  refine ct_V (wr := []) hSF hl.1 hP hD hS hA hK hGV (c17_X12_thrown l hfl D cA g (a 52) (a 53) (a 54) (a 55) (a 56) (a 57) (a 58) (a 59) (a 60) (a 61) (a 62) (a 63) (a 64) (a 65) (a 66) (a 67) (a 68) (a 69) (a 70)) goV_L_125 pd_X12_thrown ⟨(Nat.le_of_ble_eq_true rfl), (Nat.le_of_ble_eq_true rfl)⟩ ⟨(Nat.le_of_ble_eq_true rfl), (Nat.le_of_ble_eq_true rfl)⟩ (va_recv hK hP (ci := 15) (q0 := 0) rfl rfl) dL_law_1495 rfl (Nat.le_of_ble_eq_true rfl) [0] [] rfl (by decide) rfl (by decide) (by decide) (fun q => [((a 52), .inr (15, [.ref (a 53), .ref (a 54), .ref (a 55), .ref (a 56), .ref (a 57), .ref (a 58), .ref (a 59), .ref (a 60), .ref (a 61), .ref (a 62), .ref (a 63), .ref (a 64), .ref (a 65), .ref (a 66), .ref (a 67), .ref (a 68), .ref (a 69), .ref (a 70), .long 0, .int 1, .int 2, .int 0, .int 0, .int 0, .int 0, .int 0, .int 0]))]) (fun _ => rfl) (fun q3 H locs hP hD hS => ?_)
  refine W.eq (g2 := F0 m 1498 ls [.int 1]) rfl ?_
  refine lv_iload hx hb dL_law_1498 (lv_at hl 1 rfl) ?_
  refine k_icmp_eq_t (tgt := 1505) hx hb dL_law_1500 (by decide) (by decide) ?_
  refine lv_iload hx hb dL_law_1505 (lv_at hl 1 rfl) ?_
  refine k_if_ne_t (tgt := 1522) hx hb dL_law_1507 (by decide) (by decide) ?_
  refine lv_goto (tgt := 1963) hx hb dL_law_1522 (by decide) ?_
  exact law_tail l hL C0 (Nat.le_of_ble_eq_true rfl) (Nat.le_of_ble_eq_true rfl) hS (lv_sub hl [2, 7] rfl)
set_option maxHeartbeats 4000000 in
set_option maxRecDepth 100000 in
theorem lc_21_1 {p : Program} {e : Env} {s : State} {m : MethodId} {below : List Frame} {meth : Method} {c : Code} (l : Launch) (hfl : l.stackTraces = false) {b L : Nat} {xs : Nat → Int32} (hL : L = 6) (C0 : lw_At p s m meth c b L xs) (D : va_G) (cA : Nat → ClassId) (g : gv_T) (hK : va_K D vwCl (TYS cA) s) (hGV : GV g (fun q : Nat => s.heap.size ≤ q) s s.heap) (a : Nat → Nat) {H : Heap} {locs : List Loc} (hP : va_P D vwCl (WL cA g a) H) (hD : va_D (fun q : Nat => s.heap.size ≤ q) (WL cA g a)) (hS : va_S (fun q : Nat => s.heap.size ≤ q) s.heap H locs) {ls : Array Slot} (hl : lv_has ls 9 [(5, .int 0), (4, .ref (a 72)), (3, .ref (a 71)), (2, .ref (a 52)), (1, .ref (a 0)), (0, .ref b)]) (k0 : ¬ (xs 1) < 0) (k1 : ¬ (lg_cmp ((xs 1)).toInt64 0) < 0) (k2 : 0 < (lg_cmp ((xs 1)).toInt64 (-1))) : W p l e room_1 s m #[Value.ref b] below meth c H locs 73 8292 (lw_Z below #[Value.ref b] s) (F0 m 1469 ls []) := by
  obtain ⟨hx, hb, hr, hml, hown, hts, hX, hbl, hlocks, hgv⟩ := id C0
  have hb : c.code = cL_law := hb
  have hown : s.vm.findClass RL = some m.cls := hown
  have hG : ∀ w ∈ GW, w.before #[Value.ref b] s = true := fun w hw => hts w (List.mem_filter.mp hw).1
  have hA : ∀ q : Nat, s.heap.size ≤ q → (fun q : Nat => s.heap.size ≤ q) q := fun _ h => h
  have hbA : ¬ (fun q : Nat => s.heap.size ≤ q) b := Nat.not_le.mpr hbl
  have hSF : CF p m c cL_law 9 s #[Value.ref b] RL := ⟨hx, hb, hml, hown, hG⟩
  have hP : va_P D vwCl [((a 0), .inr (9, [.ref (a 1), .ref (a 12), .ref (a 32), .ref (a 38), .ref (a 46)])), ((a 38), .inr (3, [.int 0, .int 0, .int 0, .int 0, .ref (a 39), .ref (a 40), .ref (a 41), .ref (a 42), .ref (a 43), .ref (a 44), .ref (a 45)])), ((a 52), .inr (15, [.ref (a 53), .ref (a 54), .ref (a 55), .ref (a 56), .ref (a 57), .ref (a 58), .ref (a 59), .ref (a 60), .ref (a 61), .ref (a 62), .ref (a 63), .ref (a 64), .ref (a 65), .ref (a 66), .ref (a 67), .ref (a 68), .ref (a 69), .ref (a 70), .long 0, .int 0, .int 2, .int 0, .int 0, .int 0, .int 0, .int 0, .int 0])), ((a 56), .inr (2, [.int 0, .ref g.1, .int 0]))] H := hP.sub [0, 38, 52, 56] rfl
  have hD : va_D (fun q : Nat => s.heap.size ≤ q) [((a 0), .inr (9, [.ref (a 1), .ref (a 12), .ref (a 32), .ref (a 38), .ref (a 46)])), ((a 38), .inr (3, [.int 0, .int 0, .int 0, .int 0, .ref (a 39), .ref (a 40), .ref (a 41), .ref (a 42), .ref (a 43), .ref (a 44), .ref (a 45)])), ((a 52), .inr (15, [.ref (a 53), .ref (a 54), .ref (a 55), .ref (a 56), .ref (a 57), .ref (a 58), .ref (a 59), .ref (a 60), .ref (a 61), .ref (a 62), .ref (a 63), .ref (a 64), .ref (a 65), .ref (a 66), .ref (a 67), .ref (a 68), .ref (a 69), .ref (a 70), .long 0, .int 0, .int 2, .int 0, .int 0, .int 0, .int 0, .int 0, .int 0])), ((a 56), .inr (2, [.int 0, .ref g.1, .int 0]))] := hD.sub [0, 38, 52, 56] (by decide) rfl
  have hl : lv_has ls 9 [(5, .int 0), (4, .ref (a 72)), (3, .ref (a 71)), (2, .ref (a 52)), (1, .ref (a 0)), (0, .ref b)] := hl
  refine lv_aload_n hx hb dL_law_1469 rfl (lv_at hl 4 rfl) ?_
  refine lv_aload_n hx hb dL_law_1470 rfl (lv_at hl 5 rfl) ?_
  refine lv_iload hx hb dL_law_1471 (lv_at hl 0 rfl) ?_
  refine lv_iconst (v := 1) hx hb dL_law_1473 (by decide) ?_
  refine k_iadd (v := 1) hx hb dL_law_1474 (by decide) ?_
  refine k_script (x := (xs 1)) hx hb hX hbl hbA hS 1 (by decide) rfl (by subst hL; unfold vp_in; decide) dL_law_1475 ?_
  refine lv_aload_n hx hb dL_law_1476 rfl (lv_at hl 2 rfl) ?_
  refine ct_SW (wr := [((a 52), .inr (15, [.ref (a 53), .ref (a 54), .ref (a 55), .ref (a 56), .ref (a 57), .ref (a 58), .ref (a 59), .ref (a 60), .ref (a 61), .ref (a 62), .ref (a 63), .ref (a 64), .ref (a 65), .ref (a 66), .ref (a 67), .ref (a 68), .ref (a 69), .ref (a 70), .long 0, .int 0, .int 2, .int 0, .int 0, .int 0, .int 0, .int 0, .int 0])), ((a 56), .inr (2, [.int 0, .ref g.1, .int 0]))]) hSF hl.1 hP hD hS hA hK hGV (c298_L_waste l hfl D cA g (a 0) (a 71) (a 1) (a 12) (a 32) (a 38) (a 46) (a 39) (a 40) (a 41) (a 42) (a 43) (a 44) (a 45) ((xs 1)) k0) goW_L_198 pd_L_waste.2 ⟨(Nat.le_of_ble_eq_true rfl), (Nat.le_of_ble_eq_true rfl)⟩ ⟨(Nat.le_of_ble_eq_true rfl), (Nat.le_of_ble_eq_true rfl)⟩ dL_law_1477 rfl (Nat.le_of_ble_eq_true rfl) [0, 1] [2, 3] rfl (by decide) rfl (by decide) (by decide) (fun q => [((a 52), .inr (15, [.ref (a 53), .ref (a 54), .ref (a 55), .ref (a 56), .ref (a 57), .ref (a 58), .ref (a 59), .ref (a 60), .ref (a 61), .ref (a 62), .ref (a 63), .ref (a 64), .ref (a 65), .ref (a 66), .ref (a 67), .ref (a 68), .ref (a 69), .ref (a 70), .long 0, .int 0, .int 2, .int 0, .int 0, .int 0, .int 0, .int 0, .int 0])), ((a 56), .inr (2, [.int 0, .ref g.1, .int 0])), ((a 0), .inr (9, [.ref (a 1), .ref (a 12), .ref (a 32), .ref (a 38), .ref (a 46)])), ((a 38), .inr (3, [.int 0, .int 0, .int 0, .int 0, .ref (a 39), .ref (a 40), .ref (a 41), .ref (a 42), .ref (a 43), .ref (a 44), .ref (a 45)]))]) (fun _ => rfl) (fun q1 H locs hP hD hS => ?_)
  refine W.eq (g2 := F0 m 1480 ls [.int 1]) rfl ?_
  refine lv_istore (lv' := [(6, .int 1), (5, .int 0), (4, .ref (a 72)), (3, .ref (a 71)), (2, .ref (a 52)), (1, .ref (a 0)), (0, .ref b)]) hx hb dL_law_1480 hl (by decide) rfl (fun ls hl => ?_)
  refine lv_aload_n hx hb dL_law_1482 rfl (lv_at hl 4 rfl) ?_
  refine lv_aload_n hx hb dL_law_1483 rfl (lv_at hl 6 rfl) ?_
  refine lv_iload hx hb dL_law_1484 (lv_at hl 1 rfl) ?_
  refine lv_iconst (v := 1) hx hb dL_law_1486 (by decide) ?_
  refine k_iadd (v := 1) hx hb dL_law_1487 (by decide) ?_
  refine k_script (x := (xs 1)) hx hb hX hbl hbA hS 1 (by decide) rfl (by subst hL; unfold vp_in; decide) dL_law_1488 ?_
  refine ct_V (wr := []) hSF hl.1 hP hD hS hA hK hGV (c299_X12_waste l hfl D cA g (a 52) (a 53) (a 54) (a 55) (a 56) (a 57) (a 58) (a 59) (a 60) (a 61) (a 62) (a 63) (a 64) (a 65) (a 66) (a 67) (a 68) (a 69) (a 70) ((xs 1)) k1 k2) goV_L_200 pd_X12_waste ⟨(Nat.le_of_ble_eq_true rfl), (Nat.le_of_ble_eq_true rfl)⟩ ⟨(Nat.le_of_ble_eq_true rfl), (Nat.le_of_ble_eq_true rfl)⟩ (va_recv hK hP (ci := 15) (q0 := 0) rfl rfl) dL_law_1489 rfl (Nat.le_of_ble_eq_true rfl) [0, 1] [] rfl (by decide) rfl (by decide) (by decide) (fun q => [((a 52), .inr (15, [.ref (a 53), .ref (a 54), .ref (a 55), .ref (a 56), .ref (a 57), .ref (a 58), .ref (a 59), .ref (a 60), .ref (a 61), .ref (a 62), .ref (a 63), .ref (a 64), .ref (a 65), .ref (a 66), .ref (a 67), .ref (a 68), .ref (a 69), .ref (a 70), .long 0, .int 1, .int 2, .int 0, .int 0, .int 0, .int 0, .int 0, .int 0])), ((a 56), .inr (2, [.int 0, .ref g.1, .int 0]))]) (fun _ => rfl) (fun q2 H locs hP hD hS => ?_)
  refine W.eq (g2 := F0 m 1492 ls [.int 0]) rfl ?_
  refine lv_istore (lv' := [(7, .int 0), (6, .int 1), (5, .int 0), (4, .ref (a 72)), (3, .ref (a 71)), (2, .ref (a 52)), (1, .ref (a 0)), (0, .ref b)]) hx hb dL_law_1492 hl (by decide) rfl (fun ls hl => ?_)
  refine lv_aload_n hx hb dL_law_1494 rfl (lv_at hl 5 rfl) ?_
  refine ct_V (wr := []) hSF hl.1 hP hD hS hA hK hGV (c17_X12_thrown l hfl D cA g (a 52) (a 53) (a 54) (a 55) (a 56) (a 57) (a 58) (a 59) (a 60) (a 61) (a 62) (a 63) (a 64) (a 65) (a 66) (a 67) (a 68) (a 69) (a 70)) goV_L_125 pd_X12_thrown ⟨(Nat.le_of_ble_eq_true rfl), (Nat.le_of_ble_eq_true rfl)⟩ ⟨(Nat.le_of_ble_eq_true rfl), (Nat.le_of_ble_eq_true rfl)⟩ (va_recv hK hP (ci := 15) (q0 := 0) rfl rfl) dL_law_1495 rfl (Nat.le_of_ble_eq_true rfl) [0] [] rfl (by decide) rfl (by decide) (by decide) (fun q => [((a 52), .inr (15, [.ref (a 53), .ref (a 54), .ref (a 55), .ref (a 56), .ref (a 57), .ref (a 58), .ref (a 59), .ref (a 60), .ref (a 61), .ref (a 62), .ref (a 63), .ref (a 64), .ref (a 65), .ref (a 66), .ref (a 67), .ref (a 68), .ref (a 69), .ref (a 70), .long 0, .int 1, .int 2, .int 0, .int 0, .int 0, .int 0, .int 0, .int 0]))]) (fun _ => rfl) (fun q3 H locs hP hD hS => ?_)
  refine W.eq (g2 := F0 m 1498 ls [.int 1]) rfl ?_
  refine lv_iload hx hb dL_law_1498 (lv_at hl 1 rfl) ?_
  refine k_icmp_eq_t (tgt := 1505) hx hb dL_law_1500 (by decide) (by decide) ?_
  refine lv_iload hx hb dL_law_1505 (lv_at hl 1 rfl) ?_
  refine k_if_ne_t (tgt := 1522) hx hb dL_law_1507 (by decide) (by decide) ?_
  refine lv_goto (tgt := 1963) hx hb dL_law_1522 (by decide) ?_
  exact law_tail l hL C0 (Nat.le_of_ble_eq_true rfl) (Nat.le_of_ble_eq_true rfl) hS (lv_sub hl [2, 7] rfl)
set_option maxHeartbeats 4000000 in
set_option maxRecDepth 100000 in
theorem lc_22_0 {p : Program} {e : Env} {s : State} {m : MethodId} {below : List Frame} {meth : Method} {c : Code} (l : Launch) (hfl : l.stackTraces = false) {b L : Nat} {xs : Nat → Int32} (hL : L = 6) (C0 : lw_At p s m meth c b L xs) (D : va_G) (cA : Nat → ClassId) (g : gv_T) (hK : va_K D vwCl (TYS cA) s) (hGV : GV g (fun q : Nat => s.heap.size ≤ q) s s.heap) (a : Nat → Nat) {H : Heap} {locs : List Loc} (hP : va_P D vwCl (WL cA g a) H) (hD : va_D (fun q : Nat => s.heap.size ≤ q) (WL cA g a)) (hS : va_S (fun q : Nat => s.heap.size ≤ q) s.heap H locs) {ls : Array Slot} (hl : lv_has ls 9 [(5, .int 0), (4, .ref (a 72)), (3, .ref (a 71)), (2, .ref (a 52)), (1, .ref (a 0)), (0, .ref b)]) (k0 : (xs 1) < 0) (k1 : (lg_cmp ((xs 1)).toInt64 0) < 0) : W p l e room_1 s m #[Value.ref b] below meth c H locs 73 8292 (lw_Z below #[Value.ref b] s) (F0 m 1525 ls []) := by
  obtain ⟨hx, hb, hr, hml, hown, hts, hX, hbl, hlocks, hgv⟩ := id C0
  have hb : c.code = cL_law := hb
  have hown : s.vm.findClass RL = some m.cls := hown
  have hG : ∀ w ∈ GW, w.before #[Value.ref b] s = true := fun w hw => hts w (List.mem_filter.mp hw).1
  have hA : ∀ q : Nat, s.heap.size ≤ q → (fun q : Nat => s.heap.size ≤ q) q := fun _ h => h
  have hbA : ¬ (fun q : Nat => s.heap.size ≤ q) b := Nat.not_le.mpr hbl
  have hSF : CF p m c cL_law 9 s #[Value.ref b] RL := ⟨hx, hb, hml, hown, hG⟩
  have hP : va_P D vwCl [((a 0), .inr (9, [.ref (a 1), .ref (a 12), .ref (a 32), .ref (a 38), .ref (a 46)])), ((a 52), .inr (15, [.ref (a 53), .ref (a 54), .ref (a 55), .ref (a 56), .ref (a 57), .ref (a 58), .ref (a 59), .ref (a 60), .ref (a 61), .ref (a 62), .ref (a 63), .ref (a 64), .ref (a 65), .ref (a 66), .ref (a 67), .ref (a 68), .ref (a 69), .ref (a 70), .long 0, .int 0, .int 2, .int 0, .int 0, .int 0, .int 0, .int 0, .int 0]))] H := hP.sub [0, 52] rfl
  have hD : va_D (fun q : Nat => s.heap.size ≤ q) [((a 0), .inr (9, [.ref (a 1), .ref (a 12), .ref (a 32), .ref (a 38), .ref (a 46)])), ((a 52), .inr (15, [.ref (a 53), .ref (a 54), .ref (a 55), .ref (a 56), .ref (a 57), .ref (a 58), .ref (a 59), .ref (a 60), .ref (a 61), .ref (a 62), .ref (a 63), .ref (a 64), .ref (a 65), .ref (a 66), .ref (a 67), .ref (a 68), .ref (a 69), .ref (a 70), .long 0, .int 0, .int 2, .int 0, .int 0, .int 0, .int 0, .int 0, .int 0]))] := hD.sub [0, 52] (by decide) rfl
  have hl : lv_has ls 9 [(5, .int 0), (4, .ref (a 72)), (3, .ref (a 71)), (2, .ref (a 52)), (1, .ref (a 0)), (0, .ref b)] := hl
  refine lv_aload_n hx hb dL_law_1525 rfl (lv_at hl 4 rfl) ?_
  refine lv_aload_n hx hb dL_law_1526 rfl (lv_at hl 5 rfl) ?_
  refine lv_iload hx hb dL_law_1527 (lv_at hl 0 rfl) ?_
  refine lv_iconst (v := 1) hx hb dL_law_1529 (by decide) ?_
  refine k_iadd (v := 1) hx hb dL_law_1530 (by decide) ?_
  refine k_script (x := (xs 1)) hx hb hX hbl hbA hS 1 (by decide) rfl (by subst hL; unfold vp_in; decide) dL_law_1531 ?_
  refine lv_aload_n hx hb dL_law_1532 rfl (lv_at hl 2 rfl) ?_
  refine ct_SW (wr := [((a 52), .inr (15, [.ref (a 53), .ref (a 54), .ref (a 55), .ref (a 56), .ref (a 57), .ref (a 58), .ref (a 59), .ref (a 60), .ref (a 61), .ref (a 62), .ref (a 63), .ref (a 64), .ref (a 65), .ref (a 66), .ref (a 67), .ref (a 68), .ref (a 69), .ref (a 70), .long 0, .int 0, .int 2, .int 0, .int 0, .int 0, .int 0, .int 0, .int 0]))]) hSF hl.1 hP hD hS hA hK hGV (c302_L_setProps l hfl D cA g (a 0) (a 71) (a 1) (a 12) (a 32) (a 38) (a 46) ((xs 1)) k0) goW_L_201 pd_L_setProps.2 ⟨(Nat.le_of_ble_eq_true rfl), (Nat.le_of_ble_eq_true rfl)⟩ ⟨(Nat.le_of_ble_eq_true rfl), (Nat.le_of_ble_eq_true rfl)⟩ dL_law_1533 rfl (Nat.le_of_ble_eq_true rfl) [0] [1] rfl (by decide) rfl (by decide) (by decide) (fun q => [((a 52), .inr (15, [.ref (a 53), .ref (a 54), .ref (a 55), .ref (a 56), .ref (a 57), .ref (a 58), .ref (a 59), .ref (a 60), .ref (a 61), .ref (a 62), .ref (a 63), .ref (a 64), .ref (a 65), .ref (a 66), .ref (a 67), .ref (a 68), .ref (a 69), .ref (a 70), .long 0, .int 0, .int 2, .int 0, .int 0, .int 0, .int 0, .int 0, .int 0])), ((a 0), .inr (9, [.ref (a 1), .ref (a 12), .ref (a 32), .ref (a 38), .ref (a 46)]))]) (fun _ => rfl) (fun q1 H locs hP hD hS => ?_)
  refine W.eq (g2 := F0 m 1536 ls [.int 1]) rfl ?_
  refine lv_istore (lv' := [(6, .int 1), (5, .int 0), (4, .ref (a 72)), (3, .ref (a 71)), (2, .ref (a 52)), (1, .ref (a 0)), (0, .ref b)]) hx hb dL_law_1536 hl (by decide) rfl (fun ls hl => ?_)
  refine lv_aload_n hx hb dL_law_1538 rfl (lv_at hl 4 rfl) ?_
  refine lv_aload_n hx hb dL_law_1539 rfl (lv_at hl 6 rfl) ?_
  refine lv_iload hx hb dL_law_1540 (lv_at hl 1 rfl) ?_
  refine lv_iconst (v := 1) hx hb dL_law_1542 (by decide) ?_
  refine k_iadd (v := 1) hx hb dL_law_1543 (by decide) ?_
  refine k_script (x := (xs 1)) hx hb hX hbl hbA hS 1 (by decide) rfl (by subst hL; unfold vp_in; decide) dL_law_1544 ?_
  refine ct_V (wr := []) hSF hl.1 hP hD hS hA hK hGV (c304_X12_setProps l hfl D cA g (a 52) (a 53) (a 54) (a 55) (a 56) (a 57) (a 58) (a 59) (a 60) (a 61) (a 62) (a 63) (a 64) (a 65) (a 66) (a 67) (a 68) (a 69) (a 70) ((xs 1)) k1) goV_L_203 pd_X12_setProps ⟨(Nat.le_of_ble_eq_true rfl), (Nat.le_of_ble_eq_true rfl)⟩ ⟨(Nat.le_of_ble_eq_true rfl), (Nat.le_of_ble_eq_true rfl)⟩ (va_recv hK hP (ci := 15) (q0 := 0) rfl rfl) dL_law_1545 rfl (Nat.le_of_ble_eq_true rfl) [0] [] rfl (by decide) rfl (by decide) (by decide) (fun q => [((a 52), .inr (15, [.ref (a 53), .ref (a 54), .ref (a 55), .ref (a 56), .ref (a 57), .ref (a 58), .ref (a 59), .ref (a 60), .ref (a 61), .ref (a 62), .ref (a 63), .ref (a 64), .ref (a 65), .ref (a 66), .ref (a 67), .ref (a 68), .ref (a 69), .ref (a 70), .long 0, .int 1, .int 2, .int 0, .int 0, .int 0, .int 0, .int 0, .int 0]))]) (fun _ => rfl) (fun q2 H locs hP hD hS => ?_)
  refine W.eq (g2 := F0 m 1548 ls [.int 0]) rfl ?_
  refine lv_istore (lv' := [(7, .int 0), (6, .int 1), (5, .int 0), (4, .ref (a 72)), (3, .ref (a 71)), (2, .ref (a 52)), (1, .ref (a 0)), (0, .ref b)]) hx hb dL_law_1548 hl (by decide) rfl (fun ls hl => ?_)
  refine lv_aload_n hx hb dL_law_1550 rfl (lv_at hl 5 rfl) ?_
  refine ct_V (wr := []) hSF hl.1 hP hD hS hA hK hGV (c17_X12_thrown l hfl D cA g (a 52) (a 53) (a 54) (a 55) (a 56) (a 57) (a 58) (a 59) (a 60) (a 61) (a 62) (a 63) (a 64) (a 65) (a 66) (a 67) (a 68) (a 69) (a 70)) goV_L_125 pd_X12_thrown ⟨(Nat.le_of_ble_eq_true rfl), (Nat.le_of_ble_eq_true rfl)⟩ ⟨(Nat.le_of_ble_eq_true rfl), (Nat.le_of_ble_eq_true rfl)⟩ (va_recv hK hP (ci := 15) (q0 := 0) rfl rfl) dL_law_1551 rfl (Nat.le_of_ble_eq_true rfl) [0] [] rfl (by decide) rfl (by decide) (by decide) (fun q => [((a 52), .inr (15, [.ref (a 53), .ref (a 54), .ref (a 55), .ref (a 56), .ref (a 57), .ref (a 58), .ref (a 59), .ref (a 60), .ref (a 61), .ref (a 62), .ref (a 63), .ref (a 64), .ref (a 65), .ref (a 66), .ref (a 67), .ref (a 68), .ref (a 69), .ref (a 70), .long 0, .int 1, .int 2, .int 0, .int 0, .int 0, .int 0, .int 0, .int 0]))]) (fun _ => rfl) (fun q3 H locs hP hD hS => ?_)
  refine W.eq (g2 := F0 m 1554 ls [.int 1]) rfl ?_
  refine lv_iload hx hb dL_law_1554 (lv_at hl 1 rfl) ?_
  refine k_icmp_eq_t (tgt := 1561) hx hb dL_law_1556 (by decide) (by decide) ?_
  refine lv_iload hx hb dL_law_1561 (lv_at hl 1 rfl) ?_
  refine k_if_ne_t (tgt := 1578) hx hb dL_law_1563 (by decide) (by decide) ?_
  refine lv_goto (tgt := 1963) hx hb dL_law_1578 (by decide) ?_
  exact law_tail l hL C0 (Nat.le_of_ble_eq_true rfl) (Nat.le_of_ble_eq_true rfl) hS (lv_sub hl [2, 7] rfl)
set_option maxHeartbeats 4000000 in
set_option maxRecDepth 100000 in
theorem lc_22_1 {p : Program} {e : Env} {s : State} {m : MethodId} {below : List Frame} {meth : Method} {c : Code} (l : Launch) (hfl : l.stackTraces = false) {b L : Nat} {xs : Nat → Int32} (hL : L = 6) (C0 : lw_At p s m meth c b L xs) (D : va_G) (cA : Nat → ClassId) (g : gv_T) (hK : va_K D vwCl (TYS cA) s) (hGV : GV g (fun q : Nat => s.heap.size ≤ q) s s.heap) (a : Nat → Nat) {H : Heap} {locs : List Loc} (hP : va_P D vwCl (WL cA g a) H) (hD : va_D (fun q : Nat => s.heap.size ≤ q) (WL cA g a)) (hS : va_S (fun q : Nat => s.heap.size ≤ q) s.heap H locs) {ls : Array Slot} (hl : lv_has ls 9 [(5, .int 0), (4, .ref (a 72)), (3, .ref (a 71)), (2, .ref (a 52)), (1, .ref (a 0)), (0, .ref b)]) (k0 : ¬ (xs 1) < 0) (k1 : 9 < (xs 1)) (k2 : ¬ (lg_cmp ((xs 1)).toInt64 0) < 0) (k3 : 0 < (lg_cmp ((xs 1)).toInt64 9)) : W p l e room_1 s m #[Value.ref b] below meth c H locs 73 8292 (lw_Z below #[Value.ref b] s) (F0 m 1525 ls []) := by
  obtain ⟨hx, hb, hr, hml, hown, hts, hX, hbl, hlocks, hgv⟩ := id C0
  have hb : c.code = cL_law := hb
  have hown : s.vm.findClass RL = some m.cls := hown
  have hG : ∀ w ∈ GW, w.before #[Value.ref b] s = true := fun w hw => hts w (List.mem_filter.mp hw).1
  have hA : ∀ q : Nat, s.heap.size ≤ q → (fun q : Nat => s.heap.size ≤ q) q := fun _ h => h
  have hbA : ¬ (fun q : Nat => s.heap.size ≤ q) b := Nat.not_le.mpr hbl
  have hSF : CF p m c cL_law 9 s #[Value.ref b] RL := ⟨hx, hb, hml, hown, hG⟩
  have hP : va_P D vwCl [((a 0), .inr (9, [.ref (a 1), .ref (a 12), .ref (a 32), .ref (a 38), .ref (a 46)])), ((a 52), .inr (15, [.ref (a 53), .ref (a 54), .ref (a 55), .ref (a 56), .ref (a 57), .ref (a 58), .ref (a 59), .ref (a 60), .ref (a 61), .ref (a 62), .ref (a 63), .ref (a 64), .ref (a 65), .ref (a 66), .ref (a 67), .ref (a 68), .ref (a 69), .ref (a 70), .long 0, .int 0, .int 2, .int 0, .int 0, .int 0, .int 0, .int 0, .int 0]))] H := hP.sub [0, 52] rfl
  have hD : va_D (fun q : Nat => s.heap.size ≤ q) [((a 0), .inr (9, [.ref (a 1), .ref (a 12), .ref (a 32), .ref (a 38), .ref (a 46)])), ((a 52), .inr (15, [.ref (a 53), .ref (a 54), .ref (a 55), .ref (a 56), .ref (a 57), .ref (a 58), .ref (a 59), .ref (a 60), .ref (a 61), .ref (a 62), .ref (a 63), .ref (a 64), .ref (a 65), .ref (a 66), .ref (a 67), .ref (a 68), .ref (a 69), .ref (a 70), .long 0, .int 0, .int 2, .int 0, .int 0, .int 0, .int 0, .int 0, .int 0]))] := hD.sub [0, 52] (by decide) rfl
  have hl : lv_has ls 9 [(5, .int 0), (4, .ref (a 72)), (3, .ref (a 71)), (2, .ref (a 52)), (1, .ref (a 0)), (0, .ref b)] := hl
  refine lv_aload_n hx hb dL_law_1525 rfl (lv_at hl 4 rfl) ?_
  refine lv_aload_n hx hb dL_law_1526 rfl (lv_at hl 5 rfl) ?_
  refine lv_iload hx hb dL_law_1527 (lv_at hl 0 rfl) ?_
  refine lv_iconst (v := 1) hx hb dL_law_1529 (by decide) ?_
  refine k_iadd (v := 1) hx hb dL_law_1530 (by decide) ?_
  refine k_script (x := (xs 1)) hx hb hX hbl hbA hS 1 (by decide) rfl (by subst hL; unfold vp_in; decide) dL_law_1531 ?_
  refine lv_aload_n hx hb dL_law_1532 rfl (lv_at hl 2 rfl) ?_
  refine ct_SW (wr := [((a 52), .inr (15, [.ref (a 53), .ref (a 54), .ref (a 55), .ref (a 56), .ref (a 57), .ref (a 58), .ref (a 59), .ref (a 60), .ref (a 61), .ref (a 62), .ref (a 63), .ref (a 64), .ref (a 65), .ref (a 66), .ref (a 67), .ref (a 68), .ref (a 69), .ref (a 70), .long 0, .int 0, .int 2, .int 0, .int 0, .int 0, .int 0, .int 0, .int 0]))]) hSF hl.1 hP hD hS hA hK hGV (c307_L_setProps l hfl D cA g (a 0) (a 71) (a 1) (a 12) (a 32) (a 38) (a 46) ((xs 1)) k0 k1) goW_L_201 pd_L_setProps.2 ⟨(Nat.le_of_ble_eq_true rfl), (Nat.le_of_ble_eq_true rfl)⟩ ⟨(Nat.le_of_ble_eq_true rfl), (Nat.le_of_ble_eq_true rfl)⟩ dL_law_1533 rfl (Nat.le_of_ble_eq_true rfl) [0] [1] rfl (by decide) rfl (by decide) (by decide) (fun q => [((a 52), .inr (15, [.ref (a 53), .ref (a 54), .ref (a 55), .ref (a 56), .ref (a 57), .ref (a 58), .ref (a 59), .ref (a 60), .ref (a 61), .ref (a 62), .ref (a 63), .ref (a 64), .ref (a 65), .ref (a 66), .ref (a 67), .ref (a 68), .ref (a 69), .ref (a 70), .long 0, .int 0, .int 2, .int 0, .int 0, .int 0, .int 0, .int 0, .int 0])), ((a 0), .inr (9, [.ref (a 1), .ref (a 12), .ref (a 32), .ref (a 38), .ref (a 46)]))]) (fun _ => rfl) (fun q1 H locs hP hD hS => ?_)
  refine W.eq (g2 := F0 m 1536 ls [.int 1]) rfl ?_
  refine lv_istore (lv' := [(6, .int 1), (5, .int 0), (4, .ref (a 72)), (3, .ref (a 71)), (2, .ref (a 52)), (1, .ref (a 0)), (0, .ref b)]) hx hb dL_law_1536 hl (by decide) rfl (fun ls hl => ?_)
  refine lv_aload_n hx hb dL_law_1538 rfl (lv_at hl 4 rfl) ?_
  refine lv_aload_n hx hb dL_law_1539 rfl (lv_at hl 6 rfl) ?_
  refine lv_iload hx hb dL_law_1540 (lv_at hl 1 rfl) ?_
  refine lv_iconst (v := 1) hx hb dL_law_1542 (by decide) ?_
  refine k_iadd (v := 1) hx hb dL_law_1543 (by decide) ?_
  refine k_script (x := (xs 1)) hx hb hX hbl hbA hS 1 (by decide) rfl (by subst hL; unfold vp_in; decide) dL_law_1544 ?_
  refine ct_V (wr := []) hSF hl.1 hP hD hS hA hK hGV (c309_X12_setProps l hfl D cA g (a 52) (a 53) (a 54) (a 55) (a 56) (a 57) (a 58) (a 59) (a 60) (a 61) (a 62) (a 63) (a 64) (a 65) (a 66) (a 67) (a 68) (a 69) (a 70) ((xs 1)) k2 k3) goV_L_203 pd_X12_setProps ⟨(Nat.le_of_ble_eq_true rfl), (Nat.le_of_ble_eq_true rfl)⟩ ⟨(Nat.le_of_ble_eq_true rfl), (Nat.le_of_ble_eq_true rfl)⟩ (va_recv hK hP (ci := 15) (q0 := 0) rfl rfl) dL_law_1545 rfl (Nat.le_of_ble_eq_true rfl) [0] [] rfl (by decide) rfl (by decide) (by decide) (fun q => [((a 52), .inr (15, [.ref (a 53), .ref (a 54), .ref (a 55), .ref (a 56), .ref (a 57), .ref (a 58), .ref (a 59), .ref (a 60), .ref (a 61), .ref (a 62), .ref (a 63), .ref (a 64), .ref (a 65), .ref (a 66), .ref (a 67), .ref (a 68), .ref (a 69), .ref (a 70), .long 0, .int 1, .int 2, .int 0, .int 0, .int 0, .int 0, .int 0, .int 0]))]) (fun _ => rfl) (fun q2 H locs hP hD hS => ?_)
  refine W.eq (g2 := F0 m 1548 ls [.int 0]) rfl ?_
  refine lv_istore (lv' := [(7, .int 0), (6, .int 1), (5, .int 0), (4, .ref (a 72)), (3, .ref (a 71)), (2, .ref (a 52)), (1, .ref (a 0)), (0, .ref b)]) hx hb dL_law_1548 hl (by decide) rfl (fun ls hl => ?_)
  refine lv_aload_n hx hb dL_law_1550 rfl (lv_at hl 5 rfl) ?_
  refine ct_V (wr := []) hSF hl.1 hP hD hS hA hK hGV (c17_X12_thrown l hfl D cA g (a 52) (a 53) (a 54) (a 55) (a 56) (a 57) (a 58) (a 59) (a 60) (a 61) (a 62) (a 63) (a 64) (a 65) (a 66) (a 67) (a 68) (a 69) (a 70)) goV_L_125 pd_X12_thrown ⟨(Nat.le_of_ble_eq_true rfl), (Nat.le_of_ble_eq_true rfl)⟩ ⟨(Nat.le_of_ble_eq_true rfl), (Nat.le_of_ble_eq_true rfl)⟩ (va_recv hK hP (ci := 15) (q0 := 0) rfl rfl) dL_law_1551 rfl (Nat.le_of_ble_eq_true rfl) [0] [] rfl (by decide) rfl (by decide) (by decide) (fun q => [((a 52), .inr (15, [.ref (a 53), .ref (a 54), .ref (a 55), .ref (a 56), .ref (a 57), .ref (a 58), .ref (a 59), .ref (a 60), .ref (a 61), .ref (a 62), .ref (a 63), .ref (a 64), .ref (a 65), .ref (a 66), .ref (a 67), .ref (a 68), .ref (a 69), .ref (a 70), .long 0, .int 1, .int 2, .int 0, .int 0, .int 0, .int 0, .int 0, .int 0]))]) (fun _ => rfl) (fun q3 H locs hP hD hS => ?_)
  refine W.eq (g2 := F0 m 1554 ls [.int 1]) rfl ?_
  refine lv_iload hx hb dL_law_1554 (lv_at hl 1 rfl) ?_
  refine k_icmp_eq_t (tgt := 1561) hx hb dL_law_1556 (by decide) (by decide) ?_
  refine lv_iload hx hb dL_law_1561 (lv_at hl 1 rfl) ?_
  refine k_if_ne_t (tgt := 1578) hx hb dL_law_1563 (by decide) (by decide) ?_
  refine lv_goto (tgt := 1963) hx hb dL_law_1578 (by decide) ?_
  exact law_tail l hL C0 (Nat.le_of_ble_eq_true rfl) (Nat.le_of_ble_eq_true rfl) hS (lv_sub hl [2, 7] rfl)
set_option maxHeartbeats 4000000 in
set_option maxRecDepth 100000 in
theorem lc_22_2 {p : Program} {e : Env} {s : State} {m : MethodId} {below : List Frame} {meth : Method} {c : Code} (l : Launch) (hfl : l.stackTraces = false) {b L : Nat} {xs : Nat → Int32} (hL : L = 6) (C0 : lw_At p s m meth c b L xs) (D : va_G) (cA : Nat → ClassId) (g : gv_T) (hK : va_K D vwCl (TYS cA) s) (hGV : GV g (fun q : Nat => s.heap.size ≤ q) s s.heap) (a : Nat → Nat) {H : Heap} {locs : List Loc} (hP : va_P D vwCl (WL cA g a) H) (hD : va_D (fun q : Nat => s.heap.size ≤ q) (WL cA g a)) (hS : va_S (fun q : Nat => s.heap.size ≤ q) s.heap H locs) {ls : Array Slot} (hl : lv_has ls 9 [(5, .int 0), (4, .ref (a 72)), (3, .ref (a 71)), (2, .ref (a 52)), (1, .ref (a 0)), (0, .ref b)]) (k0 : ¬ (xs 1) < 0) (k1 : ¬ 9 < (xs 1)) (k2 : ¬ (lg_cmp ((xs 1)).toInt64 0) < 0) (k3 : ¬ 0 < (lg_cmp ((xs 1)).toInt64 9)) : W p l e room_1 s m #[Value.ref b] below meth c H locs 73 8292 (lw_Z below #[Value.ref b] s) (F0 m 1525 ls []) := by
  obtain ⟨hx, hb, hr, hml, hown, hts, hX, hbl, hlocks, hgv⟩ := id C0
  have hb : c.code = cL_law := hb
  have hown : s.vm.findClass RL = some m.cls := hown
  have hG : ∀ w ∈ GW, w.before #[Value.ref b] s = true := fun w hw => hts w (List.mem_filter.mp hw).1
  have hA : ∀ q : Nat, s.heap.size ≤ q → (fun q : Nat => s.heap.size ≤ q) q := fun _ h => h
  have hbA : ¬ (fun q : Nat => s.heap.size ≤ q) b := Nat.not_le.mpr hbl
  have hSF : CF p m c cL_law 9 s #[Value.ref b] RL := ⟨hx, hb, hml, hown, hG⟩
  have hP : va_P D vwCl [((a 0), .inr (9, [.ref (a 1), .ref (a 12), .ref (a 32), .ref (a 38), .ref (a 46)])), ((a 46), .inr (7, [.int 2, .int 0, .int 0, .int 0, .ref (a 47), .ref (a 48), .ref (a 49), .ref (a 50), .ref (a 51)])), ((a 52), .inr (15, [.ref (a 53), .ref (a 54), .ref (a 55), .ref (a 56), .ref (a 57), .ref (a 58), .ref (a 59), .ref (a 60), .ref (a 61), .ref (a 62), .ref (a 63), .ref (a 64), .ref (a 65), .ref (a 66), .ref (a 67), .ref (a 68), .ref (a 69), .ref (a 70), .long 0, .int 0, .int 2, .int 0, .int 0, .int 0, .int 0, .int 0, .int 0])), ((a 71), .inl (cA 1, 1, .inr (.inl (fun _ => 0))))] H := hP.sub [0, 46, 52, 71] rfl
  have hD : va_D (fun q : Nat => s.heap.size ≤ q) [((a 0), .inr (9, [.ref (a 1), .ref (a 12), .ref (a 32), .ref (a 38), .ref (a 46)])), ((a 46), .inr (7, [.int 2, .int 0, .int 0, .int 0, .ref (a 47), .ref (a 48), .ref (a 49), .ref (a 50), .ref (a 51)])), ((a 52), .inr (15, [.ref (a 53), .ref (a 54), .ref (a 55), .ref (a 56), .ref (a 57), .ref (a 58), .ref (a 59), .ref (a 60), .ref (a 61), .ref (a 62), .ref (a 63), .ref (a 64), .ref (a 65), .ref (a 66), .ref (a 67), .ref (a 68), .ref (a 69), .ref (a 70), .long 0, .int 0, .int 2, .int 0, .int 0, .int 0, .int 0, .int 0, .int 0])), ((a 71), .inl (cA 1, 1, .inr (.inl (fun _ => 0))))] := hD.sub [0, 46, 52, 71] (by decide) rfl
  have hl : lv_has ls 9 [(5, .int 0), (4, .ref (a 72)), (3, .ref (a 71)), (2, .ref (a 52)), (1, .ref (a 0)), (0, .ref b)] := hl
  refine lv_aload_n hx hb dL_law_1525 rfl (lv_at hl 4 rfl) ?_
  refine lv_aload_n hx hb dL_law_1526 rfl (lv_at hl 5 rfl) ?_
  refine lv_iload hx hb dL_law_1527 (lv_at hl 0 rfl) ?_
  refine lv_iconst (v := 1) hx hb dL_law_1529 (by decide) ?_
  refine k_iadd (v := 1) hx hb dL_law_1530 (by decide) ?_
  refine k_script (x := (xs 1)) hx hb hX hbl hbA hS 1 (by decide) rfl (by subst hL; unfold vp_in; decide) dL_law_1531 ?_
  refine lv_aload_n hx hb dL_law_1532 rfl (lv_at hl 2 rfl) ?_
  refine ct_SW (wr := [((a 52), .inr (15, [.ref (a 53), .ref (a 54), .ref (a 55), .ref (a 56), .ref (a 57), .ref (a 58), .ref (a 59), .ref (a 60), .ref (a 61), .ref (a 62), .ref (a 63), .ref (a 64), .ref (a 65), .ref (a 66), .ref (a 67), .ref (a 68), .ref (a 69), .ref (a 70), .long 0, .int 0, .int 2, .int 0, .int 0, .int 0, .int 0, .int 0, .int 0]))]) hSF hl.1 hP hD hS hA hK hGV (c312_L_setProps l hfl D cA g (a 0) (a 71) (a 1) (a 12) (a 32) (a 38) (a 46) (a 47) (a 48) (a 49) (a 50) (a 51) ((xs 1)) k0 k1) goW_L_201 pd_L_setProps.2 ⟨(Nat.le_of_ble_eq_true rfl), (Nat.le_of_ble_eq_true rfl)⟩ ⟨(Nat.le_of_ble_eq_true rfl), (Nat.le_of_ble_eq_true rfl)⟩ dL_law_1533 rfl (Nat.le_of_ble_eq_true rfl) [0, 1, 3] [2] rfl (by decide) rfl (by decide) (by decide) (fun q => [((a 52), .inr (15, [.ref (a 53), .ref (a 54), .ref (a 55), .ref (a 56), .ref (a 57), .ref (a 58), .ref (a 59), .ref (a 60), .ref (a 61), .ref (a 62), .ref (a 63), .ref (a 64), .ref (a 65), .ref (a 66), .ref (a 67), .ref (a 68), .ref (a 69), .ref (a 70), .long 0, .int 0, .int 2, .int 0, .int 0, .int 0, .int 0, .int 0, .int 0])), ((a 0), .inr (9, [.ref (a 1), .ref (a 12), .ref (a 32), .ref (a 38), .ref (a 46)])), ((a 46), .inr (7, [.int (xs 1), .int 0, .int 0, .int 0, .ref (a 47), .ref (a 48), .ref (a 49), .ref (a 50), .ref (a 51)])), ((a 71), .inl (cA 1, 1, .inr (.inl (vp_updL (fun _ => 0) 0 2))))]) (fun _ => rfl) (fun q1 H locs hP hD hS => ?_)
  refine W.eq (g2 := F0 m 1536 ls [.int 0]) rfl ?_
  refine lv_istore (lv' := [(6, .int 0), (5, .int 0), (4, .ref (a 72)), (3, .ref (a 71)), (2, .ref (a 52)), (1, .ref (a 0)), (0, .ref b)]) hx hb dL_law_1536 hl (by decide) rfl (fun ls hl => ?_)
  refine lv_aload_n hx hb dL_law_1538 rfl (lv_at hl 4 rfl) ?_
  refine lv_aload_n hx hb dL_law_1539 rfl (lv_at hl 6 rfl) ?_
  refine lv_iload hx hb dL_law_1540 (lv_at hl 1 rfl) ?_
  refine lv_iconst (v := 1) hx hb dL_law_1542 (by decide) ?_
  refine k_iadd (v := 1) hx hb dL_law_1543 (by decide) ?_
  refine k_script (x := (xs 1)) hx hb hX hbl hbA hS 1 (by decide) rfl (by subst hL; unfold vp_in; decide) dL_law_1544 ?_
  refine ct_V (wr := [((a 71), .inl (cA 1, 1, .inr (.inl (vp_updL (fun _ => 0) 0 2))))]) hSF hl.1 hP hD hS hA hK hGV (c315_X12_setProps l hfl D cA g (a 52) (a 53) (a 54) (a 55) (a 56) (a 57) (a 58) (a 59) (a 60) (a 61) (a 62) (a 63) (a 64) (a 65) (a 66) (a 67) (a 68) (a 69) (a 70) ((xs 1)) k2 k3) goV_L_203 pd_X12_setProps ⟨(Nat.le_of_ble_eq_true rfl), (Nat.le_of_ble_eq_true rfl)⟩ ⟨(Nat.le_of_ble_eq_true rfl), (Nat.le_of_ble_eq_true rfl)⟩ (va_recv hK hP (ci := 15) (q0 := 0) rfl rfl) dL_law_1545 rfl (Nat.le_of_ble_eq_true rfl) [0] [3] rfl (by decide) rfl (by decide) (by decide) (fun q => [((a 71), .inl (cA 1, 1, .inr (.inl (vp_updL (fun _ => 0) 0 2)))), ((a 52), .inr (15, [.ref (a 53), .ref (a 54), .ref (a 55), .ref (a 56), .ref (a 57), .ref (a 58), .ref (a 59), .ref (a 60), .ref (a 61), .ref (a 62), .ref (a 63), .ref (a 64), .ref (a 65), .ref (a 66), .ref (a 67), .ref (a 68), .ref (a 69), .ref (a 70), .long 0, .int 0, .int (xs 1), .int 0, .int 0, .int 0, .int 0, .int 0, .int 0]))]) (fun _ => rfl) (fun q2 H locs hP hD hS => ?_)
  refine W.eq (g2 := F0 m 1548 ls [.int 2]) rfl ?_
  refine lv_istore (lv' := [(7, .int 2), (6, .int 0), (5, .int 0), (4, .ref (a 72)), (3, .ref (a 71)), (2, .ref (a 52)), (1, .ref (a 0)), (0, .ref b)]) hx hb dL_law_1548 hl (by decide) rfl (fun ls hl => ?_)
  refine lv_aload_n hx hb dL_law_1550 rfl (lv_at hl 5 rfl) ?_
  refine ct_V (wr := [((a 71), .inl (cA 1, 1, .inr (.inl (vp_updL (fun _ => 0) 0 2))))]) hSF hl.1 hP hD hS hA hK hGV (c316_X12_thrown l hfl D cA g (a 52) (a 53) (a 54) (a 55) (a 56) (a 57) (a 58) (a 59) (a 60) (a 61) (a 62) (a 63) (a 64) (a 65) (a 66) (a 67) (a 68) (a 69) (a 70) ((xs 1))) goV_L_125 pd_X12_thrown ⟨(Nat.le_of_ble_eq_true rfl), (Nat.le_of_ble_eq_true rfl)⟩ ⟨(Nat.le_of_ble_eq_true rfl), (Nat.le_of_ble_eq_true rfl)⟩ (va_recv hK hP (ci := 15) (q0 := 1) rfl rfl) dL_law_1551 rfl (Nat.le_of_ble_eq_true rfl) [1] [0] rfl (by decide) rfl (by decide) (by decide) (fun q => [((a 71), .inl (cA 1, 1, .inr (.inl (vp_updL (fun _ => 0) 0 2)))), ((a 52), .inr (15, [.ref (a 53), .ref (a 54), .ref (a 55), .ref (a 56), .ref (a 57), .ref (a 58), .ref (a 59), .ref (a 60), .ref (a 61), .ref (a 62), .ref (a 63), .ref (a 64), .ref (a 65), .ref (a 66), .ref (a 67), .ref (a 68), .ref (a 69), .ref (a 70), .long 0, .int 0, .int (xs 1), .int 0, .int 0, .int 0, .int 0, .int 0, .int 0]))]) (fun _ => rfl) (fun q3 H locs hP hD hS => ?_)
  refine W.eq (g2 := F0 m 1554 ls [.int 0]) rfl ?_
  refine lv_iload hx hb dL_law_1554 (lv_at hl 1 rfl) ?_
  refine k_icmp_eq_t (tgt := 1561) hx hb dL_law_1556 (by decide) (by decide) ?_
  refine lv_iload hx hb dL_law_1561 (lv_at hl 1 rfl) ?_
  refine k_if_ne_f (tgt := 1578) hx hb dL_law_1563 (by decide) (by decide) ?_
  refine lv_aload_n hx hb dL_law_1566 rfl (lv_at hl 4 rfl) ?_
  refine lv_iconst (v := 0) hx hb dL_law_1567 (by decide) ?_
  refine k_lald (v := 2) hx hb hK hP 0 rfl 0 (by decide) rfl (by unfold vp_in; decide) dL_law_1568 ?_
  refine lv_iload hx hb dL_law_1569 (lv_at hl 0 rfl) ?_
  refine lv_i2l (v := 2) hx hb dL_law_1571 (by decide +kernel) ?_
  refine k_lcmp (v := 0) hx hb dL_law_1572 (by decide +kernel) ?_
  refine k_if_eq_t (tgt := 1578) hx hb dL_law_1573 (by decide) (by decide) ?_
  refine lv_goto (tgt := 1963) hx hb dL_law_1578 (by decide) ?_
  exact law_tail l hL C0 (Nat.le_of_ble_eq_true rfl) (Nat.le_of_ble_eq_true rfl) hS (lv_sub hl [2, 7] rfl)
