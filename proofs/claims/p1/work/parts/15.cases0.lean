set_option maxHeartbeats 4000000 in
set_option maxRecDepth 100000 in
theorem lc_0_0 {p : Program} {e : Env} {s : State} {m : MethodId} {below : List Frame} {meth : Method} {c : Code} (l : Launch) (hfl : l.stackTraces = false) {b L : Nat} {xs : Nat → Int32} (hL : L = 6) (C0 : lw_At p s m meth c b L xs) (D : va_G) (cA : Nat → ClassId) (g : gv_T) (hK : va_K D vwCl (TYS cA) s) (hGV : GV g (fun q : Nat => s.heap.size ≤ q) s s.heap) (a : Nat → Nat) {H : Heap} {locs : List Loc} (hP : va_P D vwCl (WL cA g a) H) (hD : va_D (fun q : Nat => s.heap.size ≤ q) (WL cA g a)) (hS : va_S (fun q : Nat => s.heap.size ≤ q) s.heap H locs) {ls : Array Slot} (hl : lv_has ls 9 [(5, .int 0), (4, .ref (a 72)), (3, .ref (a 71)), (2, .ref (a 52)), (1, .ref (a 0)), (0, .ref b)]) (kk : Int32) (hk : (((xs 3)).toUInt32 % 65536).toInt32 = kk) (k0 : (xs 1) < 0) (k1 : (lg_cmp ((xs 1)).toInt64 0) < 0) : W p l e room_1 s m #[Value.ref b] below meth c H locs 73 8292 (lw_Z below #[Value.ref b] s) (F0 m 192 ls []) := by
  obtain ⟨hx, hb, hr, hml, hown, hts, hX, hbl, hlocks, hgv⟩ := id C0
  have hb : c.code = cL_law := hb
  have hown : s.vm.findClass RL = some m.cls := hown
  have hG : ∀ w ∈ GW, w.before #[Value.ref b] s = true := fun w hw => hts w (List.mem_filter.mp hw).1
  have hA : ∀ q : Nat, s.heap.size ≤ q → (fun q : Nat => s.heap.size ≤ q) q := fun _ h => h
  have hbA : ¬ (fun q : Nat => s.heap.size ≤ q) b := Nat.not_le.mpr hbl
  have hSF : CF p m c cL_law 9 s #[Value.ref b] RL := ⟨hx, hb, hml, hown, hG⟩
  have hP : va_P D vwCl [((a 0), .inr (9, [.ref (a 1), .ref (a 12), .ref (a 32), .ref (a 38), .ref (a 46)])), ((a 52), .inr (15, [.ref (a 53), .ref (a 54), .ref (a 55), .ref (a 56), .ref (a 57), .ref (a 58), .ref (a 59), .ref (a 60), .ref (a 61), .ref (a 62), .ref (a 63), .ref (a 64), .ref (a 65), .ref (a 66), .ref (a 67), .ref (a 68), .ref (a 69), .ref (a 70), .long 0, .int 0, .int 2, .int 0, .int 0, .int 0, .int 0, .int 0, .int 0]))] H := hP.sub [0, 52] rfl
  have hD : va_D (fun q : Nat => s.heap.size ≤ q) [((a 0), .inr (9, [.ref (a 1), .ref (a 12), .ref (a 32), .ref (a 38), .ref (a 46)])), ((a 52), .inr (15, [.ref (a 53), .ref (a 54), .ref (a 55), .ref (a 56), .ref (a 57), .ref (a 58), .ref (a 59), .ref (a 60), .ref (a 61), .ref (a 62), .ref (a 63), .ref (a 64), .ref (a 65), .ref (a 66), .ref (a 67), .ref (a 68), .ref (a 69), .ref (a 70), .long 0, .int 0, .int 2, .int 0, .int 0, .int 0, .int 0, .int 0, .int 0]))] := hD.sub [0, 52] (by decide) rfl
  have hl : lv_has ls 9 [(5, .int 0), (4, .ref (a 72)), (3, .ref (a 71)), (2, .ref (a 52)), (1, .ref (a 0)), (0, .ref b)] := hl
  refine lv_aload_n hx hb dL_law_192 rfl (lv_at hl 4 rfl) ?_
  refine lv_aload_n hx hb dL_law_193 rfl (lv_at hl 5 rfl) ?_
  refine lv_iload hx hb dL_law_194 (lv_at hl 0 rfl) ?_
  refine lv_iconst (v := 1) hx hb dL_law_196 (by decide) ?_
  refine k_iadd (v := 1) hx hb dL_law_197 (by decide) ?_
  refine k_script (x := (xs 1)) hx hb hX hbl hbA hS 1 (by decide) rfl (by subst hL; unfold vp_in; decide) dL_law_198 ?_
  refine lv_aload_n hx hb dL_law_199 rfl (lv_at hl 5 rfl) ?_
  refine lv_iload hx hb dL_law_200 (lv_at hl 0 rfl) ?_
  refine lv_iconst (v := 2) hx hb dL_law_202 (by decide) ?_
  refine k_iadd (v := 2) hx hb dL_law_203 (by decide) ?_
  refine k_script (x := (xs 2)) hx hb hX hbl hbA hS 2 (by decide) rfl (by subst hL; unfold vp_in; decide) dL_law_204 ?_
  refine lv_aload_n hx hb dL_law_205 rfl (lv_at hl 5 rfl) ?_
  refine lv_iload hx hb dL_law_206 (lv_at hl 0 rfl) ?_
  refine lv_iconst (v := 3) hx hb dL_law_208 (by decide) ?_
  refine k_iadd (v := 3) hx hb dL_law_209 (by decide) ?_
  refine k_script (x := (xs 3)) hx hb hX hbl hbA hS 3 (by decide) rfl (by subst hL; unfold vp_in; decide) dL_law_210 ?_
  refine lv_i2c (v := kk) hx hb dL_law_211 hk ?_
  refine lv_aload_n hx hb dL_law_212 rfl (lv_at hl 2 rfl) ?_
  refine ct_SW (wr := [((a 52), .inr (15, [.ref (a 53), .ref (a 54), .ref (a 55), .ref (a 56), .ref (a 57), .ref (a 58), .ref (a 59), .ref (a 60), .ref (a 61), .ref (a 62), .ref (a 63), .ref (a 64), .ref (a 65), .ref (a 66), .ref (a 67), .ref (a 68), .ref (a 69), .ref (a 70), .long 0, .int 0, .int 2, .int 0, .int 0, .int 0, .int 0, .int 0, .int 0]))]) hSF hl.1 hP hD hS hA hK hGV (c13_L_node l hfl D cA g (a 0) (a 71) (a 1) (a 12) (a 32) (a 38) (a 46) ((xs 1)) ((xs 2)) (kk) k0) goW_L_119 pd_L_node.2 ⟨(Nat.le_of_ble_eq_true rfl), (Nat.le_of_ble_eq_true rfl)⟩ ⟨(Nat.le_of_ble_eq_true rfl), (Nat.le_of_ble_eq_true rfl)⟩ dL_law_213 rfl (Nat.le_of_ble_eq_true rfl) [0] [1] rfl (by decide) rfl (by decide) (by decide) (fun q => [((a 52), .inr (15, [.ref (a 53), .ref (a 54), .ref (a 55), .ref (a 56), .ref (a 57), .ref (a 58), .ref (a 59), .ref (a 60), .ref (a 61), .ref (a 62), .ref (a 63), .ref (a 64), .ref (a 65), .ref (a 66), .ref (a 67), .ref (a 68), .ref (a 69), .ref (a 70), .long 0, .int 0, .int 2, .int 0, .int 0, .int 0, .int 0, .int 0, .int 0])), ((a 0), .inr (9, [.ref (a 1), .ref (a 12), .ref (a 32), .ref (a 38), .ref (a 46)]))]) (fun _ => rfl) (fun q1 H locs hP hD hS => ?_)
  refine W.eq (g2 := F0 m 216 ls [.int 1]) rfl ?_
  refine lv_istore (lv' := [(6, .int 1), (5, .int 0), (4, .ref (a 72)), (3, .ref (a 71)), (2, .ref (a 52)), (1, .ref (a 0)), (0, .ref b)]) hx hb dL_law_216 hl (by decide) rfl (fun ls hl => ?_)
  refine lv_aload_n hx hb dL_law_218 rfl (lv_at hl 4 rfl) ?_
  refine lv_aload_n hx hb dL_law_219 rfl (lv_at hl 6 rfl) ?_
  refine lv_iload hx hb dL_law_220 (lv_at hl 1 rfl) ?_
  refine lv_iconst (v := 1) hx hb dL_law_222 (by decide) ?_
  refine k_iadd (v := 1) hx hb dL_law_223 (by decide) ?_
  refine k_script (x := (xs 1)) hx hb hX hbl hbA hS 1 (by decide) rfl (by subst hL; unfold vp_in; decide) dL_law_224 ?_
  refine lv_aload_n hx hb dL_law_225 rfl (lv_at hl 6 rfl) ?_
  refine lv_iload hx hb dL_law_226 (lv_at hl 1 rfl) ?_
  refine lv_iconst (v := 2) hx hb dL_law_228 (by decide) ?_
  refine k_iadd (v := 2) hx hb dL_law_229 (by decide) ?_
  refine k_script (x := (xs 2)) hx hb hX hbl hbA hS 2 (by decide) rfl (by subst hL; unfold vp_in; decide) dL_law_230 ?_
  refine lv_aload_n hx hb dL_law_231 rfl (lv_at hl 6 rfl) ?_
  refine lv_iload hx hb dL_law_232 (lv_at hl 1 rfl) ?_
  refine lv_iconst (v := 3) hx hb dL_law_234 (by decide) ?_
  refine k_iadd (v := 3) hx hb dL_law_235 (by decide) ?_
  refine k_script (x := (xs 3)) hx hb hX hbl hbA hS 3 (by decide) rfl (by subst hL; unfold vp_in; decide) dL_law_236 ?_
  refine lv_i2c (v := kk) hx hb dL_law_237 hk ?_
  refine ct_V (wr := []) hSF hl.1 hP hD hS hA hK hGV (c16_X12_node l hfl D cA g (a 52) (a 53) (a 54) (a 55) (a 56) (a 57) (a 58) (a 59) (a 60) (a 61) (a 62) (a 63) (a 64) (a 65) (a 66) (a 67) (a 68) (a 69) (a 70) ((xs 1)) ((xs 2)) (kk) k1) goV_L_124 pd_X12_node ⟨(Nat.le_of_ble_eq_true rfl), (Nat.le_of_ble_eq_true rfl)⟩ ⟨(Nat.le_of_ble_eq_true rfl), (Nat.le_of_ble_eq_true rfl)⟩ (va_recv hK hP (ci := 15) (q0 := 0) rfl rfl) dL_law_238 rfl (Nat.le_of_ble_eq_true rfl) [0] [] rfl (by decide) rfl (by decide) (by decide) (fun q => [((a 52), .inr (15, [.ref (a 53), .ref (a 54), .ref (a 55), .ref (a 56), .ref (a 57), .ref (a 58), .ref (a 59), .ref (a 60), .ref (a 61), .ref (a 62), .ref (a 63), .ref (a 64), .ref (a 65), .ref (a 66), .ref (a 67), .ref (a 68), .ref (a 69), .ref (a 70), .long 0, .int 1, .int 2, .int 0, .int 0, .int 0, .int 0, .int 0, .int 0]))]) (fun _ => rfl) (fun q2 H locs hP hD hS => ?_)
  refine W.eq (g2 := F0 m 241 ls [.int 0]) rfl ?_
  refine lv_istore (lv' := [(7, .int 0), (6, .int 1), (5, .int 0), (4, .ref (a 72)), (3, .ref (a 71)), (2, .ref (a 52)), (1, .ref (a 0)), (0, .ref b)]) hx hb dL_law_241 hl (by decide) rfl (fun ls hl => ?_)
  refine lv_aload_n hx hb dL_law_243 rfl (lv_at hl 5 rfl) ?_
  refine ct_V (wr := []) hSF hl.1 hP hD hS hA hK hGV (c17_X12_thrown l hfl D cA g (a 52) (a 53) (a 54) (a 55) (a 56) (a 57) (a 58) (a 59) (a 60) (a 61) (a 62) (a 63) (a 64) (a 65) (a 66) (a 67) (a 68) (a 69) (a 70)) goV_L_125 pd_X12_thrown ⟨(Nat.le_of_ble_eq_true rfl), (Nat.le_of_ble_eq_true rfl)⟩ ⟨(Nat.le_of_ble_eq_true rfl), (Nat.le_of_ble_eq_true rfl)⟩ (va_recv hK hP (ci := 15) (q0 := 0) rfl rfl) dL_law_244 rfl (Nat.le_of_ble_eq_true rfl) [0] [] rfl (by decide) rfl (by decide) (by decide) (fun q => [((a 52), .inr (15, [.ref (a 53), .ref (a 54), .ref (a 55), .ref (a 56), .ref (a 57), .ref (a 58), .ref (a 59), .ref (a 60), .ref (a 61), .ref (a 62), .ref (a 63), .ref (a 64), .ref (a 65), .ref (a 66), .ref (a 67), .ref (a 68), .ref (a 69), .ref (a 70), .long 0, .int 1, .int 2, .int 0, .int 0, .int 0, .int 0, .int 0, .int 0]))]) (fun _ => rfl) (fun q3 H locs hP hD hS => ?_)
  refine W.eq (g2 := F0 m 247 ls [.int 1]) rfl ?_
  refine lv_iload hx hb dL_law_247 (lv_at hl 1 rfl) ?_
  refine k_icmp_eq_t (tgt := 254) hx hb dL_law_249 (by decide) (by decide) ?_
  refine lv_iload hx hb dL_law_254 (lv_at hl 1 rfl) ?_
  refine k_if_ne_t (tgt := 271) hx hb dL_law_256 (by decide) (by decide) ?_
  refine lv_goto (tgt := 1963) hx hb dL_law_271 (by decide) ?_
  exact law_tail l hL C0 (Nat.le_of_ble_eq_true rfl) (Nat.le_of_ble_eq_true rfl) hS (lv_sub hl [2, 7] rfl)
set_option maxHeartbeats 4000000 in
set_option maxRecDepth 100000 in
theorem lc_0_1 {p : Program} {e : Env} {s : State} {m : MethodId} {below : List Frame} {meth : Method} {c : Code} (l : Launch) (hfl : l.stackTraces = false) {b L : Nat} {xs : Nat → Int32} (hL : L = 6) (C0 : lw_At p s m meth c b L xs) (D : va_G) (cA : Nat → ClassId) (g : gv_T) (hK : va_K D vwCl (TYS cA) s) (hGV : GV g (fun q : Nat => s.heap.size ≤ q) s s.heap) (a : Nat → Nat) {H : Heap} {locs : List Loc} (hP : va_P D vwCl (WL cA g a) H) (hD : va_D (fun q : Nat => s.heap.size ≤ q) (WL cA g a)) (hS : va_S (fun q : Nat => s.heap.size ≤ q) s.heap H locs) {ls : Array Slot} (hl : lv_has ls 9 [(5, .int 0), (4, .ref (a 72)), (3, .ref (a 71)), (2, .ref (a 52)), (1, .ref (a 0)), (0, .ref b)]) (kk : Int32) (hk : (((xs 3)).toUInt32 % 65536).toInt32 = kk) (k0 : ¬ (xs 1) < 0) (k1 : 30 < (xs 1)) (k2 : ¬ (lg_cmp ((xs 1)).toInt64 0) < 0) (k3 : 0 < (lg_cmp ((xs 1)).toInt64 30)) : W p l e room_1 s m #[Value.ref b] below meth c H locs 73 8292 (lw_Z below #[Value.ref b] s) (F0 m 192 ls []) := by
  obtain ⟨hx, hb, hr, hml, hown, hts, hX, hbl, hlocks, hgv⟩ := id C0
  have hb : c.code = cL_law := hb
  have hown : s.vm.findClass RL = some m.cls := hown
  have hG : ∀ w ∈ GW, w.before #[Value.ref b] s = true := fun w hw => hts w (List.mem_filter.mp hw).1
  have hA : ∀ q : Nat, s.heap.size ≤ q → (fun q : Nat => s.heap.size ≤ q) q := fun _ h => h
  have hbA : ¬ (fun q : Nat => s.heap.size ≤ q) b := Nat.not_le.mpr hbl
  have hSF : CF p m c cL_law 9 s #[Value.ref b] RL := ⟨hx, hb, hml, hown, hG⟩
  have hP : va_P D vwCl [((a 0), .inr (9, [.ref (a 1), .ref (a 12), .ref (a 32), .ref (a 38), .ref (a 46)])), ((a 52), .inr (15, [.ref (a 53), .ref (a 54), .ref (a 55), .ref (a 56), .ref (a 57), .ref (a 58), .ref (a 59), .ref (a 60), .ref (a 61), .ref (a 62), .ref (a 63), .ref (a 64), .ref (a 65), .ref (a 66), .ref (a 67), .ref (a 68), .ref (a 69), .ref (a 70), .long 0, .int 0, .int 2, .int 0, .int 0, .int 0, .int 0, .int 0, .int 0]))] H := hP.sub [0, 52] rfl
  have hD : va_D (fun q : Nat => s.heap.size ≤ q) [((a 0), .inr (9, [.ref (a 1), .ref (a 12), .ref (a 32), .ref (a 38), .ref (a 46)])), ((a 52), .inr (15, [.ref (a 53), .ref (a 54), .ref (a 55), .ref (a 56), .ref (a 57), .ref (a 58), .ref (a 59), .ref (a 60), .ref (a 61), .ref (a 62), .ref (a 63), .ref (a 64), .ref (a 65), .ref (a 66), .ref (a 67), .ref (a 68), .ref (a 69), .ref (a 70), .long 0, .int 0, .int 2, .int 0, .int 0, .int 0, .int 0, .int 0, .int 0]))] := hD.sub [0, 52] (by decide) rfl
  have hl : lv_has ls 9 [(5, .int 0), (4, .ref (a 72)), (3, .ref (a 71)), (2, .ref (a 52)), (1, .ref (a 0)), (0, .ref b)] := hl
  refine lv_aload_n hx hb dL_law_192 rfl (lv_at hl 4 rfl) ?_
  refine lv_aload_n hx hb dL_law_193 rfl (lv_at hl 5 rfl) ?_
  refine lv_iload hx hb dL_law_194 (lv_at hl 0 rfl) ?_
  refine lv_iconst (v := 1) hx hb dL_law_196 (by decide) ?_
  refine k_iadd (v := 1) hx hb dL_law_197 (by decide) ?_
  refine k_script (x := (xs 1)) hx hb hX hbl hbA hS 1 (by decide) rfl (by subst hL; unfold vp_in; decide) dL_law_198 ?_
  refine lv_aload_n hx hb dL_law_199 rfl (lv_at hl 5 rfl) ?_
  refine lv_iload hx hb dL_law_200 (lv_at hl 0 rfl) ?_
  refine lv_iconst (v := 2) hx hb dL_law_202 (by decide) ?_
  refine k_iadd (v := 2) hx hb dL_law_203 (by decide) ?_
  refine k_script (x := (xs 2)) hx hb hX hbl hbA hS 2 (by decide) rfl (by subst hL; unfold vp_in; decide) dL_law_204 ?_
  refine lv_aload_n hx hb dL_law_205 rfl (lv_at hl 5 rfl) ?_
  refine lv_iload hx hb dL_law_206 (lv_at hl 0 rfl) ?_
  refine lv_iconst (v := 3) hx hb dL_law_208 (by decide) ?_
  refine k_iadd (v := 3) hx hb dL_law_209 (by decide) ?_
  refine k_script (x := (xs 3)) hx hb hX hbl hbA hS 3 (by decide) rfl (by subst hL; unfold vp_in; decide) dL_law_210 ?_
  refine lv_i2c (v := kk) hx hb dL_law_211 hk ?_
  refine lv_aload_n hx hb dL_law_212 rfl (lv_at hl 2 rfl) ?_
  refine ct_SW (wr := [((a 52), .inr (15, [.ref (a 53), .ref (a 54), .ref (a 55), .ref (a 56), .ref (a 57), .ref (a 58), .ref (a 59), .ref (a 60), .ref (a 61), .ref (a 62), .ref (a 63), .ref (a 64), .ref (a 65), .ref (a 66), .ref (a 67), .ref (a 68), .ref (a 69), .ref (a 70), .long 0, .int 0, .int 2, .int 0, .int 0, .int 0, .int 0, .int 0, .int 0]))]) hSF hl.1 hP hD hS hA hK hGV (c20_L_node l hfl D cA g (a 0) (a 71) (a 1) (a 12) (a 32) (a 38) (a 46) ((xs 1)) ((xs 2)) (kk) k0 k1) goW_L_119 pd_L_node.2 ⟨(Nat.le_of_ble_eq_true rfl), (Nat.le_of_ble_eq_true rfl)⟩ ⟨(Nat.le_of_ble_eq_true rfl), (Nat.le_of_ble_eq_true rfl)⟩ dL_law_213 rfl (Nat.le_of_ble_eq_true rfl) [0] [1] rfl (by decide) rfl (by decide) (by decide) (fun q => [((a 52), .inr (15, [.ref (a 53), .ref (a 54), .ref (a 55), .ref (a 56), .ref (a 57), .ref (a 58), .ref (a 59), .ref (a 60), .ref (a 61), .ref (a 62), .ref (a 63), .ref (a 64), .ref (a 65), .ref (a 66), .ref (a 67), .ref (a 68), .ref (a 69), .ref (a 70), .long 0, .int 0, .int 2, .int 0, .int 0, .int 0, .int 0, .int 0, .int 0])), ((a 0), .inr (9, [.ref (a 1), .ref (a 12), .ref (a 32), .ref (a 38), .ref (a 46)]))]) (fun _ => rfl) (fun q1 H locs hP hD hS => ?_)
  refine W.eq (g2 := F0 m 216 ls [.int 1]) rfl ?_
  refine lv_istore (lv' := [(6, .int 1), (5, .int 0), (4, .ref (a 72)), (3, .ref (a 71)), (2, .ref (a 52)), (1, .ref (a 0)), (0, .ref b)]) hx hb dL_law_216 hl (by decide) rfl (fun ls hl => ?_)
  refine lv_aload_n hx hb dL_law_218 rfl (lv_at hl 4 rfl) ?_
  refine lv_aload_n hx hb dL_law_219 rfl (lv_at hl 6 rfl) ?_
  refine lv_iload hx hb dL_law_220 (lv_at hl 1 rfl) ?_
  refine lv_iconst (v := 1) hx hb dL_law_222 (by decide) ?_
  refine k_iadd (v := 1) hx hb dL_law_223 (by decide) ?_
  refine k_script (x := (xs 1)) hx hb hX hbl hbA hS 1 (by decide) rfl (by subst hL; unfold vp_in; decide) dL_law_224 ?_
  refine lv_aload_n hx hb dL_law_225 rfl (lv_at hl 6 rfl) ?_
  refine lv_iload hx hb dL_law_226 (lv_at hl 1 rfl) ?_
  refine lv_iconst (v := 2) hx hb dL_law_228 (by decide) ?_
  refine k_iadd (v := 2) hx hb dL_law_229 (by decide) ?_
  refine k_script (x := (xs 2)) hx hb hX hbl hbA hS 2 (by decide) rfl (by subst hL; unfold vp_in; decide) dL_law_230 ?_
  refine lv_aload_n hx hb dL_law_231 rfl (lv_at hl 6 rfl) ?_
  refine lv_iload hx hb dL_law_232 (lv_at hl 1 rfl) ?_
  refine lv_iconst (v := 3) hx hb dL_law_234 (by decide) ?_
  refine k_iadd (v := 3) hx hb dL_law_235 (by decide) ?_
  refine k_script (x := (xs 3)) hx hb hX hbl hbA hS 3 (by decide) rfl (by subst hL; unfold vp_in; decide) dL_law_236 ?_
  refine lv_i2c (v := kk) hx hb dL_law_237 hk ?_
  refine ct_V (wr := []) hSF hl.1 hP hD hS hA hK hGV (c22_X12_node l hfl D cA g (a 52) (a 53) (a 54) (a 55) (a 56) (a 57) (a 58) (a 59) (a 60) (a 61) (a 62) (a 63) (a 64) (a 65) (a 66) (a 67) (a 68) (a 69) (a 70) ((xs 1)) ((xs 2)) (kk) k2 k3) goV_L_124 pd_X12_node ⟨(Nat.le_of_ble_eq_true rfl), (Nat.le_of_ble_eq_true rfl)⟩ ⟨(Nat.le_of_ble_eq_true rfl), (Nat.le_of_ble_eq_true rfl)⟩ (va_recv hK hP (ci := 15) (q0 := 0) rfl rfl) dL_law_238 rfl (Nat.le_of_ble_eq_true rfl) [0] [] rfl (by decide) rfl (by decide) (by decide) (fun q => [((a 52), .inr (15, [.ref (a 53), .ref (a 54), .ref (a 55), .ref (a 56), .ref (a 57), .ref (a 58), .ref (a 59), .ref (a 60), .ref (a 61), .ref (a 62), .ref (a 63), .ref (a 64), .ref (a 65), .ref (a 66), .ref (a 67), .ref (a 68), .ref (a 69), .ref (a 70), .long 0, .int 1, .int 2, .int 0, .int 0, .int 0, .int 0, .int 0, .int 0]))]) (fun _ => rfl) (fun q2 H locs hP hD hS => ?_)
  refine W.eq (g2 := F0 m 241 ls [.int 0]) rfl ?_
  refine lv_istore (lv' := [(7, .int 0), (6, .int 1), (5, .int 0), (4, .ref (a 72)), (3, .ref (a 71)), (2, .ref (a 52)), (1, .ref (a 0)), (0, .ref b)]) hx hb dL_law_241 hl (by decide) rfl (fun ls hl => ?_)
  refine lv_aload_n hx hb dL_law_243 rfl (lv_at hl 5 rfl) ?_
  refine ct_V (wr := []) hSF hl.1 hP hD hS hA hK hGV (c17_X12_thrown l hfl D cA g (a 52) (a 53) (a 54) (a 55) (a 56) (a 57) (a 58) (a 59) (a 60) (a 61) (a 62) (a 63) (a 64) (a 65) (a 66) (a 67) (a 68) (a 69) (a 70)) goV_L_125 pd_X12_thrown ⟨(Nat.le_of_ble_eq_true rfl), (Nat.le_of_ble_eq_true rfl)⟩ ⟨(Nat.le_of_ble_eq_true rfl), (Nat.le_of_ble_eq_true rfl)⟩ (va_recv hK hP (ci := 15) (q0 := 0) rfl rfl) dL_law_244 rfl (Nat.le_of_ble_eq_true rfl) [0] [] rfl (by decide) rfl (by decide) (by decide) (fun q => [((a 52), .inr (15, [.ref (a 53), .ref (a 54), .ref (a 55), .ref (a 56), .ref (a 57), .ref (a 58), .ref (a 59), .ref (a 60), .ref (a 61), .ref (a 62), .ref (a 63), .ref (a 64), .ref (a 65), .ref (a 66), .ref (a 67), .ref (a 68), .ref (a 69), .ref (a 70), .long 0, .int 1, .int 2, .int 0, .int 0, .int 0, .int 0, .int 0, .int 0]))]) (fun _ => rfl) (fun q3 H locs hP hD hS => ?_)
  refine W.eq (g2 := F0 m 247 ls [.int 1]) rfl ?_
  refine lv_iload hx hb dL_law_247 (lv_at hl 1 rfl) ?_
  refine k_icmp_eq_t (tgt := 254) hx hb dL_law_249 (by decide) (by decide) ?_
  refine lv_iload hx hb dL_law_254 (lv_at hl 1 rfl) ?_
  refine k_if_ne_t (tgt := 271) hx hb dL_law_256 (by decide) (by decide) ?_
  refine lv_goto (tgt := 1963) hx hb dL_law_271 (by decide) ?_
  exact law_tail l hL C0 (Nat.le_of_ble_eq_true rfl) (Nat.le_of_ble_eq_true rfl) hS (lv_sub hl [2, 7] rfl)
set_option maxHeartbeats 4000000 in
set_option maxRecDepth 100000 in
theorem lc_0_2 {p : Program} {e : Env} {s : State} {m : MethodId} {below : List Frame} {meth : Method} {c : Code} (l : Launch) (hfl : l.stackTraces = false) {b L : Nat} {xs : Nat → Int32} (hL : L = 6) (C0 : lw_At p s m meth c b L xs) (D : va_G) (cA : Nat → ClassId) (g : gv_T) (hK : va_K D vwCl (TYS cA) s) (hGV : GV g (fun q : Nat => s.heap.size ≤ q) s s.heap) (a : Nat → Nat) {H : Heap} {locs : List Loc} (hP : va_P D vwCl (WL cA g a) H) (hD : va_D (fun q : Nat => s.heap.size ≤ q) (WL cA g a)) (hS : va_S (fun q : Nat => s.heap.size ≤ q) s.heap H locs) {ls : Array Slot} (hl : lv_has ls 9 [(5, .int 0), (4, .ref (a 72)), (3, .ref (a 71)), (2, .ref (a 52)), (1, .ref (a 0)), (0, .ref b)]) (kk : Int32) (hk : (((xs 3)).toUInt32 % 65536).toInt32 = kk) (k0 : ¬ (xs 1) < 0) (k1 : ¬ 30 < (xs 1)) (k2 : (xs 2) < 0) (k3 : ¬ (lg_cmp ((xs 1)).toInt64 0) < 0) (k4 : ¬ 0 < (lg_cmp ((xs 1)).toInt64 30)) (k5 : (lg_cmp ((xs 2)).toInt64 0) < 0) : W p l e room_1 s m #[Value.ref b] below meth c H locs 73 8292 (lw_Z below #[Value.ref b] s) (F0 m 192 ls []) := by
  obtain ⟨hx, hb, hr, hml, hown, hts, hX, hbl, hlocks, hgv⟩ := id C0
  have hb : c.code = cL_law := hb
  have hown : s.vm.findClass RL = some m.cls := hown
  have hG : ∀ w ∈ GW, w.before #[Value.ref b] s = true := fun w hw => hts w (List.mem_filter.mp hw).1
  have hA : ∀ q : Nat, s.heap.size ≤ q → (fun q : Nat => s.heap.size ≤ q) q := fun _ h => h
  have hbA : ¬ (fun q : Nat => s.heap.size ≤ q) b := Nat.not_le.mpr hbl
  have hSF : CF p m c cL_law 9 s #[Value.ref b] RL := ⟨hx, hb, hml, hown, hG⟩
  have hP : va_P D vwCl [((a 0), .inr (9, [.ref (a 1), .ref (a 12), .ref (a 32), .ref (a 38), .ref (a 46)])), ((a 52), .inr (15, [.ref (a 53), .ref (a 54), .ref (a 55), .ref (a 56), .ref (a 57), .ref (a 58), .ref (a 59), .ref (a 60), .ref (a 61), .ref (a 62), .ref (a 63), .ref (a 64), .ref (a 65), .ref (a 66), .ref (a 67), .ref (a 68), .ref (a 69), .ref (a 70), .long 0, .int 0, .int 2, .int 0, .int 0, .int 0, .int 0, .int 0, .int 0]))] H := hP.sub [0, 52] rfl
  have hD : va_D (fun q : Nat => s.heap.size ≤ q) [((a 0), .inr (9, [.ref (a 1), .ref (a 12), .ref (a 32), .ref (a 38), .ref (a 46)])), ((a 52), .inr (15, [.ref (a 53), .ref (a 54), .ref (a 55), .ref (a 56), .ref (a 57), .ref (a 58), .ref (a 59), .ref (a 60), .ref (a 61), .ref (a 62), .ref (a 63), .ref (a 64), .ref (a 65), .ref (a 66), .ref (a 67), .ref (a 68), .ref (a 69), .ref (a 70), .long 0, .int 0, .int 2, .int 0, .int 0, .int 0, .int 0, .int 0, .int 0]))] := hD.sub [0, 52] (by decide) rfl
  have hl : lv_has ls 9 [(5, .int 0), (4, .ref (a 72)), (3, .ref (a 71)), (2, .ref (a 52)), (1, .ref (a 0)), (0, .ref b)] := hl
  refine lv_aload_n hx hb dL_law_192 rfl (lv_at hl 4 rfl) ?_
  refine lv_aload_n hx hb dL_law_193 rfl (lv_at hl 5 rfl) ?_
  refine lv_iload hx hb dL_law_194 (lv_at hl 0 rfl) ?_
  refine lv_iconst (v := 1) hx hb dL_law_196 (by decide) ?_
  refine k_iadd (v := 1) hx hb dL_law_197 (by decide) ?_
  refine k_script (x := (xs 1)) hx hb hX hbl hbA hS 1 (by decide) rfl (by subst hL; unfold vp_in; decide) dL_law_198 ?_
  refine lv_aload_n hx hb dL_law_199 rfl (lv_at hl 5 rfl) ?_
  refine lv_iload hx hb dL_law_200 (lv_at hl 0 rfl) ?_
  refine lv_iconst (v := 2) hx hb dL_law_202 (by decide) ?_
  refine k_iadd (v := 2) hx hb dL_law_203 (by decide) ?_
  refine k_script (x := (xs 2)) hx hb hX hbl hbA hS 2 (by decide) rfl (by subst hL; unfold vp_in; decide) dL_law_204 ?_
  refine lv_aload_n hx hb dL_law_205 rfl (lv_at hl 5 rfl) ?_
  refine lv_iload hx hb dL_law_206 (lv_at hl 0 rfl) ?_
  refine lv_iconst (v := 3) hx hb dL_law_208 (by decide) ?_
  refine k_iadd (v := 3) hx hb dL_law_209 (by decide) ?_
  refine k_script (x := (xs 3)) hx hb hX hbl hbA hS 3 (by decide) rfl (by subst hL; unfold vp_in; decide) dL_law_210 ?_
  refine lv_i2c (v := kk) hx hb dL_law_211 hk ?_
  refine lv_aload_n hx hb dL_law_212 rfl (lv_at hl 2 rfl) ?_
  refine ct_SW (wr := [((a 52), .inr (15, [.ref (a 53), .ref (a 54), .ref (a 55), .ref (a 56), .ref (a 57), .ref (a 58), .ref (a 59), .ref (a 60), .ref (a 61), .ref (a 62), .ref (a 63), .ref (a 64), .ref (a 65), .ref (a 66), .ref (a 67), .ref (a 68), .ref (a 69), .ref (a 70), .long 0, .int 0, .int 2, .int 0, .int 0, .int 0, .int 0, .int 0, .int 0]))]) hSF hl.1 hP hD hS hA hK hGV (c25_L_node l hfl D cA g (a 0) (a 71) (a 1) (a 12) (a 32) (a 38) (a 46) ((xs 1)) ((xs 2)) (kk) k0 k1 k2) goW_L_119 pd_L_node.2 ⟨(Nat.le_of_ble_eq_true rfl), (Nat.le_of_ble_eq_true rfl)⟩ ⟨(Nat.le_of_ble_eq_true rfl), (Nat.le_of_ble_eq_true rfl)⟩ dL_law_213 rfl (Nat.le_of_ble_eq_true rfl) [0] [1] rfl (by decide) rfl (by decide) (by decide) (fun q => [((a 52), .inr (15, [.ref (a 53), .ref (a 54), .ref (a 55), .ref (a 56), .ref (a 57), .ref (a 58), .ref (a 59), .ref (a 60), .ref (a 61), .ref (a 62), .ref (a 63), .ref (a 64), .ref (a 65), .ref (a 66), .ref (a 67), .ref (a 68), .ref (a 69), .ref (a 70), .long 0, .int 0, .int 2, .int 0, .int 0, .int 0, .int 0, .int 0, .int 0])), ((a 0), .inr (9, [.ref (a 1), .ref (a 12), .ref (a 32), .ref (a 38), .ref (a 46)]))]) (fun _ => rfl) (fun q1 H locs hP hD hS => ?_)
  refine W.eq (g2 := F0 m 216 ls [.int 1]) rfl ?_
  refine lv_istore (lv' := [(6, .int 1), (5, .int 0), (4, .ref (a 72)), (3, .ref (a 71)), (2, .ref (a 52)), (1, .ref (a 0)), (0, .ref b)]) hx hb dL_law_216 hl (by decide) rfl (fun ls hl => ?_)
  refine lv_aload_n hx hb dL_law_218 rfl (lv_at hl 4 rfl) ?_
  refine lv_aload_n hx hb dL_law_219 rfl (lv_at hl 6 rfl) ?_
  refine lv_iload hx hb dL_law_220 (lv_at hl 1 rfl) ?_
  refine lv_iconst (v := 1) hx hb dL_law_222 (by decide) ?_
  refine k_iadd (v := 1) hx hb dL_law_223 (by decide) ?_
  refine k_script (x := (xs 1)) hx hb hX hbl hbA hS 1 (by decide) rfl (by subst hL; unfold vp_in; decide) dL_law_224 ?_
  refine lv_aload_n hx hb dL_law_225 rfl (lv_at hl 6 rfl) ?_
  refine lv_iload hx hb dL_law_226 (lv_at hl 1 rfl) ?_
  refine lv_iconst (v := 2) hx hb dL_law_228 (by decide) ?_
  refine k_iadd (v := 2) hx hb dL_law_229 (by decide) ?_
  refine k_script (x := (xs 2)) hx hb hX hbl hbA hS 2 (by decide) rfl (by subst hL; unfold vp_in; decide) dL_law_230 ?_
  refine lv_aload_n hx hb dL_law_231 rfl (lv_at hl 6 rfl) ?_
  refine lv_iload hx hb dL_law_232 (lv_at hl 1 rfl) ?_
  refine lv_iconst (v := 3) hx hb dL_law_234 (by decide) ?_
  refine k_iadd (v := 3) hx hb dL_law_235 (by decide) ?_
  refine k_script (x := (xs 3)) hx hb hX hbl hbA hS 3 (by decide) rfl (by subst hL; unfold vp_in; decide) dL_law_236 ?_
  refine lv_i2c (v := kk) hx hb dL_law_237 hk ?_
  refine ct_V (wr := []) hSF hl.1 hP hD hS hA hK hGV (c27_X12_node l hfl D cA g (a 52) (a 53) (a 54) (a 55) (a 56) (a 57) (a 58) (a 59) (a 60) (a 61) (a 62) (a 63) (a 64) (a 65) (a 66) (a 67) (a 68) (a 69) (a 70) ((xs 1)) ((xs 2)) (kk) k3 k4 k5) goV_L_124 pd_X12_node ⟨(Nat.le_of_ble_eq_true rfl), (Nat.le_of_ble_eq_true rfl)⟩ ⟨(Nat.le_of_ble_eq_true rfl), (Nat.le_of_ble_eq_true rfl)⟩ (va_recv hK hP (ci := 15) (q0 := 0) rfl rfl) dL_law_238 rfl (Nat.le_of_ble_eq_true rfl) [0] [] rfl (by decide) rfl (by decide) (by decide) (fun q => [((a 52), .inr (15, [.ref (a 53), .ref (a 54), .ref (a 55), .ref (a 56), .ref (a 57), .ref (a 58), .ref (a 59), .ref (a 60), .ref (a 61), .ref (a 62), .ref (a 63), .ref (a 64), .ref (a 65), .ref (a 66), .ref (a 67), .ref (a 68), .ref (a 69), .ref (a 70), .long 0, .int 1, .int 2, .int 0, .int 0, .int 0, .int 0, .int 0, .int 0]))]) (fun _ => rfl) (fun q2 H locs hP hD hS => ?_)
  refine W.eq (g2 := F0 m 241 ls [.int 0]) rfl ?_
  refine lv_istore (lv' := [(7, .int 0), (6, .int 1), (5, .int 0), (4, .ref (a 72)), (3, .ref (a 71)), (2, .ref (a 52)), (1, .ref (a 0)), (0, .ref b)]) hx hb dL_law_241 hl (by decide) rfl (fun ls hl => ?_)
  refine lv_aload_n hx hb dL_law_243 rfl (lv_at hl 5 rfl) ?_
  refine ct_V (wr := []) hSF hl.1 hP hD hS hA hK hGV (c17_X12_thrown l hfl D cA g (a 52) (a 53) (a 54) (a 55) (a 56) (a 57) (a 58) (a 59) (a 60) (a 61) (a 62) (a 63) (a 64) (a 65) (a 66) (a 67) (a 68) (a 69) (a 70)) goV_L_125 pd_X12_thrown ⟨(Nat.le_of_ble_eq_true rfl), (Nat.le_of_ble_eq_true rfl)⟩ ⟨(Nat.le_of_ble_eq_true rfl), (Nat.le_of_ble_eq_true rfl)⟩ (va_recv hK hP (ci := 15) (q0 := 0) rfl rfl) dL_law_244 rfl (Nat.le_of_ble_eq_true rfl) [0] [] rfl (by decide) rfl (by decide) (by decide) (fun q => [((a 52), .inr (15, [.ref (a 53), .ref (a 54), .ref (a 55), .ref (a 56), .ref (a 57), .ref (a 58), .ref (a 59), .ref (a 60), .ref (a 61), .ref (a 62), .ref (a 63), .ref (a 64), .ref (a 65), .ref (a 66), .ref (a 67), .ref (a 68), .ref (a 69), .ref (a 70), .long 0, .int 1, .int 2, .int 0, .int 0, .int 0, .int 0, .int 0, .int 0]))]) (fun _ => rfl) (fun q3 H locs hP hD hS => ?_)
  refine W.eq (g2 := F0 m 247 ls [.int 1]) rfl ?_
  refine lv_iload hx hb dL_law_247 (lv_at hl 1 rfl) ?_
  refine k_icmp_eq_t (tgt := 254) hx hb dL_law_249 (by decide) (by decide) ?_
  refine lv_iload hx hb dL_law_254 (lv_at hl 1 rfl) ?_
  refine k_if_ne_t (tgt := 271) hx hb dL_law_256 (by decide) (by decide) ?_
  refine lv_goto (tgt := 1963) hx hb dL_law_271 (by decide) ?_
  exact law_tail l hL C0 (Nat.le_of_ble_eq_true rfl) (Nat.le_of_ble_eq_true rfl) hS (lv_sub hl [2, 7] rfl)
set_option maxHeartbeats 4000000 in
set_option maxRecDepth 100000 in
theorem lc_0_3 {p : Program} {e : Env} {s : State} {m : MethodId} {below : List Frame} {meth : Method} {c : Code} (l : Launch) (hfl : l.stackTraces = false) {b L : Nat} {xs : Nat → Int32} (hL : L = 6) (C0 : lw_At p s m meth c b L xs) (D : va_G) (cA : Nat → ClassId) (g : gv_T) (hK : va_K D vwCl (TYS cA) s) (hGV : GV g (fun q : Nat => s.heap.size ≤ q) s s.heap) (a : Nat → Nat) {H : Heap} {locs : List Loc} (hP : va_P D vwCl (WL cA g a) H) (hD : va_D (fun q : Nat => s.heap.size ≤ q) (WL cA g a)) (hS : va_S (fun q : Nat => s.heap.size ≤ q) s.heap H locs) {ls : Array Slot} (hl : lv_has ls 9 [(5, .int 0), (4, .ref (a 72)), (3, .ref (a 71)), (2, .ref (a 52)), (1, .ref (a 0)), (0, .ref b)]) (kk : Int32) (hk : (((xs 3)).toUInt32 % 65536).toInt32 = kk) (k0 : ¬ (xs 1) < 0) (k1 : ¬ 30 < (xs 1)) (k2 : ¬ (xs 2) < 0) (k3 : 30 < (xs 2)) (k4 : ¬ (lg_cmp ((xs 1)).toInt64 0) < 0) (k5 : ¬ 0 < (lg_cmp ((xs 1)).toInt64 30)) (k6 : ¬ (lg_cmp ((xs 2)).toInt64 0) < 0) (k7 : 0 < (lg_cmp ((xs 2)).toInt64 30)) : W p l e room_1 s m #[Value.ref b] below meth c H locs 73 8292 (lw_Z below #[Value.ref b] s) (F0 m 192 ls []) := by
  obtain ⟨hx, hb, hr, hml, hown, hts, hX, hbl, hlocks, hgv⟩ := id C0
  have hb : c.code = cL_law := hb
  have hown : s.vm.findClass RL = some m.cls := hown
  have hG : ∀ w ∈ GW, w.before #[Value.ref b] s = true := fun w hw => hts w (List.mem_filter.mp hw).1
  have hA : ∀ q : Nat, s.heap.size ≤ q → (fun q : Nat => s.heap.size ≤ q) q := fun _ h => h
  have hbA : ¬ (fun q : Nat => s.heap.size ≤ q) b := Nat.not_le.mpr hbl
  have hSF : CF p m c cL_law 9 s #[Value.ref b] RL := ⟨hx, hb, hml, hown, hG⟩
  have hP : va_P D vwCl [((a 0), .inr (9, [.ref (a 1), .ref (a 12), .ref (a 32), .ref (a 38), .ref (a 46)])), ((a 52), .inr (15, [.ref (a 53), .ref (a 54), .ref (a 55), .ref (a 56), .ref (a 57), .ref (a 58), .ref (a 59), .ref (a 60), .ref (a 61), .ref (a 62), .ref (a 63), .ref (a 64), .ref (a 65), .ref (a 66), .ref (a 67), .ref (a 68), .ref (a 69), .ref (a 70), .long 0, .int 0, .int 2, .int 0, .int 0, .int 0, .int 0, .int 0, .int 0]))] H := hP.sub [0, 52] rfl
  have hD : va_D (fun q : Nat => s.heap.size ≤ q) [((a 0), .inr (9, [.ref (a 1), .ref (a 12), .ref (a 32), .ref (a 38), .ref (a 46)])), ((a 52), .inr (15, [.ref (a 53), .ref (a 54), .ref (a 55), .ref (a 56), .ref (a 57), .ref (a 58), .ref (a 59), .ref (a 60), .ref (a 61), .ref (a 62), .ref (a 63), .ref (a 64), .ref (a 65), .ref (a 66), .ref (a 67), .ref (a 68), .ref (a 69), .ref (a 70), .long 0, .int 0, .int 2, .int 0, .int 0, .int 0, .int 0, .int 0, .int 0]))] := hD.sub [0, 52] (by decide) rfl
  have hl : lv_has ls 9 [(5, .int 0), (4, .ref (a 72)), (3, .ref (a 71)), (2, .ref (a 52)), (1, .ref (a 0)), (0, .ref b)] := hl
  refine lv_aload_n hx hb dL_law_192 rfl (lv_at hl 4 rfl) ?_
  refine lv_aload_n hx hb dL_law_193 rfl (lv_at hl 5 rfl) ?_
  refine lv_iload hx hb dL_law_194 (lv_at hl 0 rfl) ?_
  refine lv_iconst (v := 1) hx hb dL_law_196 (by decide) ?_
  refine k_iadd (v := 1) hx hb dL_law_197 (by decide) ?_
  refine k_script (x := (xs 1)) hx hb hX hbl hbA hS 1 (by decide) rfl (by subst hL; unfold vp_in; decide) dL_law_198 ?_
  refine lv_aload_n hx hb dL_law_199 rfl (lv_at hl 5 rfl) ?_
  refine lv_iload hx hb dL_law_200 (lv_at hl 0 rfl) ?_
  refine lv_iconst (v := 2) hx hb dL_law_202 (by decide) ?_
  refine k_iadd (v := 2) hx hb dL_law_203 (by decide) ?_
  refine k_script (x := (xs 2)) hx hb hX hbl hbA hS 2 (by decide) rfl (by subst hL; unfold vp_in; decide) dL_law_204 ?_
  refine lv_aload_n hx hb dL_law_205 rfl (lv_at hl 5 rfl) ?_
  refine lv_iload hx hb dL_law_206 (lv_at hl 0 rfl) ?_
  refine lv_iconst (v := 3) hx hb dL_law_208 (by decide) ?_
  refine k_iadd (v := 3) hx hb dL_law_209 (by decide) ?_
  refine k_script (x := (xs 3)) hx hb hX hbl hbA hS 3 (by decide) rfl (by subst hL; unfold vp_in; decide) dL_law_210 ?_
  refine lv_i2c (v := kk) hx hb dL_law_211 hk ?_
  refine lv_aload_n hx hb dL_law_212 rfl (lv_at hl 2 rfl) ?_
  refine ct_SW (wr := [((a 52), .inr (15, [.ref (a 53), .ref (a 54), .ref (a 55), .ref (a 56), .ref (a 57), .ref (a 58), .ref (a 59), .ref (a 60), .ref (a 61), .ref (a 62), .ref (a 63), .ref (a 64), .ref (a 65), .ref (a 66), .ref (a 67), .ref (a 68), .ref (a 69), .ref (a 70), .long 0, .int 0, .int 2, .int 0, .int 0, .int 0, .int 0, .int 0, .int 0]))]) hSF hl.1 hP hD hS hA hK hGV (c29_L_node l hfl D cA g (a 0) (a 71) (a 1) (a 12) (a 32) (a 38) (a 46) ((xs 1)) ((xs 2)) (kk) k0 k1 k2 k3) goW_L_119 pd_L_node.2 ⟨(Nat.le_of_ble_eq_true rfl), (Nat.le_of_ble_eq_true rfl)⟩ ⟨(Nat.le_of_ble_eq_true rfl), (Nat.le_of_ble_eq_true rfl)⟩ dL_law_213 rfl (Nat.le_of_ble_eq_true rfl) [0] [1] rfl (by decide) rfl (by decide) (by decide) (fun q => [((a 52), .inr (15, [.ref (a 53), .ref (a 54), .ref (a 55), .ref (a 56), .ref (a 57), .ref (a 58), .ref (a 59), .ref (a 60), .ref (a 61), .ref (a 62), .ref (a 63), .ref (a 64), .ref (a 65), .ref (a 66), .ref (a 67), .ref (a 68), .ref (a 69), .ref (a 70), .long 0, .int 0, .int 2, .int 0, .int 0, .int 0, .int 0, .int 0, .int 0])), ((a 0), .inr (9, [.ref (a 1), .ref (a 12), .ref (a 32), .ref (a 38), .ref (a 46)]))]) (fun _ => rfl) (fun q1 H locs hP hD hS => ?_)
  refine W.eq (g2 := F0 m 216 ls [.int 1]) rfl ?_
  refine lv_istore (lv' := [(6, .int 1), (5, .int 0), (4, .ref (a 72)), (3, .ref (a 71)), (2, .ref (a 52)), (1, .ref (a 0)), (0, .ref b)]) hx hb dL_law_216 hl (by decide) rfl (fun ls hl => ?_)
  refine lv_aload_n hx hb dL_law_218 rfl (lv_at hl 4 rfl) ?_
  refine lv_aload_n hx hb dL_law_219 rfl (lv_at hl 6 rfl) ?_
  refine lv_iload hx hb dL_law_220 (lv_at hl 1 rfl) ?_
  refine lv_iconst (v := 1) hx hb dL_law_222 (by decide) ?_
  refine k_iadd (v := 1) hx hb dL_law_223 (by decide) ?_
  refine k_script (x := (xs 1)) hx hb hX hbl hbA hS 1 (by decide) rfl (by subst hL; unfold vp_in; decide) dL_law_224 ?_
  refine lv_aload_n hx hb dL_law_225 rfl (lv_at hl 6 rfl) ?_
  refine lv_iload hx hb dL_law_226 (lv_at hl 1 rfl) ?_
  refine lv_iconst (v := 2) hx hb dL_law_228 (by decide) ?_
  refine k_iadd (v := 2) hx hb dL_law_229 (by decide) ?_
  refine k_script (x := (xs 2)) hx hb hX hbl hbA hS 2 (by decide) rfl (by subst hL; unfold vp_in; decide) dL_law_230 ?_
  refine lv_aload_n hx hb dL_law_231 rfl (lv_at hl 6 rfl) ?_
  refine lv_iload hx hb dL_law_232 (lv_at hl 1 rfl) ?_
  refine lv_iconst (v := 3) hx hb dL_law_234 (by decide) ?_
  refine k_iadd (v := 3) hx hb dL_law_235 (by decide) ?_
  refine k_script (x := (xs 3)) hx hb hX hbl hbA hS 3 (by decide) rfl (by subst hL; unfold vp_in; decide) dL_law_236 ?_
  refine lv_i2c (v := kk) hx hb dL_law_237 hk ?_
  refine ct_V (wr := []) hSF hl.1 hP hD hS hA hK hGV (c30_X12_node l hfl D cA g (a 52) (a 53) (a 54) (a 55) (a 56) (a 57) (a 58) (a 59) (a 60) (a 61) (a 62) (a 63) (a 64) (a 65) (a 66) (a 67) (a 68) (a 69) (a 70) ((xs 1)) ((xs 2)) (kk) k4 k5 k6 k7) goV_L_124 pd_X12_node ⟨(Nat.le_of_ble_eq_true rfl), (Nat.le_of_ble_eq_true rfl)⟩ ⟨(Nat.le_of_ble_eq_true rfl), (Nat.le_of_ble_eq_true rfl)⟩ (va_recv hK hP (ci := 15) (q0 := 0) rfl rfl) dL_law_238 rfl (Nat.le_of_ble_eq_true rfl) [0] [] rfl (by decide) rfl (by decide) (by decide) (fun q => [((a 52), .inr (15, [.ref (a 53), .ref (a 54), .ref (a 55), .ref (a 56), .ref (a 57), .ref (a 58), .ref (a 59), .ref (a 60), .ref (a 61), .ref (a 62), .ref (a 63), .ref (a 64), .ref (a 65), .ref (a 66), .ref (a 67), .ref (a 68), .ref (a 69), .ref (a 70), .long 0, .int 1, .int 2, .int 0, .int 0, .int 0, .int 0, .int 0, .int 0]))]) (fun _ => rfl) (fun q2 H locs hP hD hS => ?_)
  refine W.eq (g2 := F0 m 241 ls [.int 0]) rfl ?_
  refine lv_istore (lv' := [(7, .int 0), (6, .int 1), (5, .int 0), (4, .ref (a 72)), (3, .ref (a 71)), (2, .ref (a 52)), (1, .ref (a 0)), (0, .ref b)]) hx hb dL_law_241 hl (by decide) rfl (fun ls hl => ?_)
  refine lv_aload_n hx hb dL_law_243 rfl (lv_at hl 5 rfl) ?_
  refine ct_V (wr := []) hSF hl.1 hP hD hS hA hK hGV (c17_X12_thrown l hfl D cA g (a 52) (a 53) (a 54) (a 55) (a 56) (a 57) (a 58) (a 59) (a 60) (a 61) (a 62) (a 63) (a 64) (a 65) (a 66) (a 67) (a 68) (a 69) (a 70)) goV_L_125 pd_X12_thrown ⟨(Nat.le_of_ble_eq_true rfl), (Nat.le_of_ble_eq_true rfl)⟩ ⟨(Nat.le_of_ble_eq_true rfl), (Nat.le_of_ble_eq_true rfl)⟩ (va_recv hK hP (ci := 15) (q0 := 0) rfl rfl) dL_law_244 rfl (Nat.le_of_ble_eq_true rfl) [0] [] rfl (by decide) rfl (by decide) (by decide) (fun q => [((a 52), .inr (15, [.ref (a 53), .ref (a 54), .ref (a 55), .ref (a 56), .ref (a 57), .ref (a 58), .ref (a 59), .ref (a 60), .ref (a 61), .ref (a 62), .ref (a 63), .ref (a 64), .ref (a 65), .ref (a 66), .ref (a 67), .ref (a 68), .ref (a 69), .ref (a 70), .long 0, .int 1, .int 2, .int 0, .int 0, .int 0, .int 0, .int 0, .int 0]))]) (fun _ => rfl) (fun q3 H locs hP hD hS => ?_)
  refine W.eq (g2 := F0 m 247 ls [.int 1]) rfl ?_
  refine lv_iload hx hb dL_law_247 (lv_at hl 1 rfl) ?_
  refine k_icmp_eq_t (tgt := 254) hx hb dL_law_249 (by decide) (by decide) ?_
  refine lv_iload hx hb dL_law_254 (lv_at hl 1 rfl) ?_
  refine k_if_ne_t (tgt := 271) hx hb dL_law_256 (by decide) (by decide) ?_
  refine lv_goto (tgt := 1963) hx hb dL_law_271 (by decide) ?_
  exact law_tail l hL C0 (Nat.le_of_ble_eq_true rfl) (Nat.le_of_ble_eq_true rfl) hS (lv_sub hl [2, 7] rfl)
set_option maxHeartbeats 4000000 in
set_option maxRecDepth 100000 in
theorem lc_0_4 {p : Program} {e : Env} {s : State} {m : MethodId} {below : List Frame} {meth : Method} {c : Code} (l : Launch) (hfl : l.stackTraces = false) {b L : Nat} {xs : Nat → Int32} (hL : L = 6) (C0 : lw_At p s m meth c b L xs) (D : va_G) (cA : Nat → ClassId) (g : gv_T) (hK : va_K D vwCl (TYS cA) s) (hGV : GV g (fun q : Nat => s.heap.size ≤ q) s s.heap) (a : Nat → Nat) {H : Heap} {locs : List Loc} (hP : va_P D vwCl (WL cA g a) H) (hD : va_D (fun q : Nat => s.heap.size ≤ q) (WL cA g a)) (hS : va_S (fun q : Nat => s.heap.size ≤ q) s.heap H locs) {ls : Array Slot} (hl : lv_has ls 9 [(5, .int 0), (4, .ref (a 72)), (3, .ref (a 71)), (2, .ref (a 52)), (1, .ref (a 0)), (0, .ref b)]) (kk : Int32) (hk : (((xs 3)).toUInt32 % 65536).toInt32 = kk) (k0 : ¬ (xs 1) < 0) (k1 : ¬ 30 < (xs 1)) (k2 : ¬ (xs 2) < 0) (k3 : ¬ 30 < (xs 2)) (k4 : ¬ kk < 0) (k5 : 255 < kk) (k6 : ¬ (lg_cmp ((xs 1)).toInt64 0) < 0) (k7 : ¬ 0 < (lg_cmp ((xs 1)).toInt64 30)) (k8 : ¬ (lg_cmp ((xs 2)).toInt64 0) < 0) (k9 : ¬ 0 < (lg_cmp ((xs 2)).toInt64 30)) (k10 : ¬ kk = 45) (k11 : ¬ kk = 112) (k12 : ¬ kk = 114) : W p l e room_1 s m #[Value.ref b] below meth c H locs 73 8292 (lw_Z below #[Value.ref b] s) (F0 m 192 ls []) := by
  obtain ⟨hx, hb, hr, hml, hown, hts, hX, hbl, hlocks, hgv⟩ := id C0
  have hb : c.code = cL_law := hb
  have hown : s.vm.findClass RL = some m.cls := hown
  have hG : ∀ w ∈ GW, w.before #[Value.ref b] s = true := fun w hw => hts w (List.mem_filter.mp hw).1
  have hA : ∀ q : Nat, s.heap.size ≤ q → (fun q : Nat => s.heap.size ≤ q) q := fun _ h => h
  have hbA : ¬ (fun q : Nat => s.heap.size ≤ q) b := Nat.not_le.mpr hbl
  have hSF : CF p m c cL_law 9 s #[Value.ref b] RL := ⟨hx, hb, hml, hown, hG⟩
  have hP : va_P D vwCl [((a 0), .inr (9, [.ref (a 1), .ref (a 12), .ref (a 32), .ref (a 38), .ref (a 46)])), ((a 52), .inr (15, [.ref (a 53), .ref (a 54), .ref (a 55), .ref (a 56), .ref (a 57), .ref (a 58), .ref (a 59), .ref (a 60), .ref (a 61), .ref (a 62), .ref (a 63), .ref (a 64), .ref (a 65), .ref (a 66), .ref (a 67), .ref (a 68), .ref (a 69), .ref (a 70), .long 0, .int 0, .int 2, .int 0, .int 0, .int 0, .int 0, .int 0, .int 0]))] H := hP.sub [0, 52] rfl
  have hD : va_D (fun q : Nat => s.heap.size ≤ q) [((a 0), .inr (9, [.ref (a 1), .ref (a 12), .ref (a 32), .ref (a 38), .ref (a 46)])), ((a 52), .inr (15, [.ref (a 53), .ref (a 54), .ref (a 55), .ref (a 56), .ref (a 57), .ref (a 58), .ref (a 59), .ref (a 60), .ref (a 61), .ref (a 62), .ref (a 63), .ref (a 64), .ref (a 65), .ref (a 66), .ref (a 67), .ref (a 68), .ref (a 69), .ref (a 70), .long 0, .int 0, .int 2, .int 0, .int 0, .int 0, .int 0, .int 0, .int 0]))] := hD.sub [0, 52] (by decide) rfl
  have hl : lv_has ls 9 [(5, .int 0), (4, .ref (a 72)), (3, .ref (a 71)), (2, .ref (a 52)), (1, .ref (a 0)), (0, .ref b)] := hl
  refine lv_aload_n hx hb dL_law_192 rfl (lv_at hl 4 rfl) ?_
  refine lv_aload_n hx hb dL_law_193 rfl (lv_at hl 5 rfl) ?_
  refine lv_iload hx hb dL_law_194 (lv_at hl 0 rfl) ?_
  refine lv_iconst (v := 1) hx hb dL_law_196 (by decide) ?_
  refine k_iadd (v := 1) hx hb dL_law_197 (by decide) ?_
  refine k_script (x := (xs 1)) hx hb hX hbl hbA hS 1 (by decide) rfl (by subst hL; unfold vp_in; decide) dL_law_198 ?_
  refine lv_aload_n hx hb dL_law_199 rfl (lv_at hl 5 rfl) ?_
  refine lv_iload hx hb dL_law_200 (lv_at hl 0 rfl) ?_
  refine lv_iconst (v := 2) hx hb dL_law_202 (by decide) ?_
  refine k_iadd (v := 2) hx hb dL_law_203 (by decide) ?_
  refine k_script (x := (xs 2)) hx hb hX hbl hbA hS 2 (by decide) rfl (by subst hL; unfold vp_in; decide) dL_law_204 ?_
  refine lv_aload_n hx hb dL_law_205 rfl (lv_at hl 5 rfl) ?_
  refine lv_iload hx hb dL_law_206 (lv_at hl 0 rfl) ?_
  refine lv_iconst (v := 3) hx hb dL_law_208 (by decide) ?_
  refine k_iadd (v := 3) hx hb dL_law_209 (by decide) ?_
  refine k_script (x := (xs 3)) hx hb hX hbl hbA hS 3 (by decide) rfl (by subst hL; unfold vp_in; decide) dL_law_210 ?_
  refine lv_i2c (v := kk) hx hb dL_law_211 hk ?_
  refine lv_aload_n hx hb dL_law_212 rfl (lv_at hl 2 rfl) ?_
  refine ct_SW (wr := [((a 52), .inr (15, [.ref (a 53), .ref (a 54), .ref (a 55), .ref (a 56), .ref (a 57), .ref (a 58), .ref (a 59), .ref (a 60), .ref (a 61), .ref (a 62), .ref (a 63), .ref (a 64), .ref (a 65), .ref (a 66), .ref (a 67), .ref (a 68), .ref (a 69), .ref (a 70), .long 0, .int 0, .int 2, .int 0, .int 0, .int 0, .int 0, .int 0, .int 0]))]) hSF hl.1 hP hD hS hA hK hGV (c39_L_node l hfl D cA g (a 0) (a 71) (a 1) (a 12) (a 32) (a 38) (a 46) ((xs 1)) ((xs 2)) (kk) k0 k1 k2 k3 k4 k5) goW_L_119 pd_L_node.2 ⟨(Nat.le_of_ble_eq_true rfl), (Nat.le_of_ble_eq_true rfl)⟩ ⟨(Nat.le_of_ble_eq_true rfl), (Nat.le_of_ble_eq_true rfl)⟩ dL_law_213 rfl (Nat.le_of_ble_eq_true rfl) [0] [1] rfl (by decide) rfl (by decide) (by decide) (fun q => [((a 52), .inr (15, [.ref (a 53), .ref (a 54), .ref (a 55), .ref (a 56), .ref (a 57), .ref (a 58), .ref (a 59), .ref (a 60), .ref (a 61), .ref (a 62), .ref (a 63), .ref (a 64), .ref (a 65), .ref (a 66), .ref (a 67), .ref (a 68), .ref (a 69), .ref (a 70), .long 0, .int 0, .int 2, .int 0, .int 0, .int 0, .int 0, .int 0, .int 0])), ((a 0), .inr (9, [.ref (a 1), .ref (a 12), .ref (a 32), .ref (a 38), .ref (a 46)]))]) (fun _ => rfl) (fun q1 H locs hP hD hS => ?_)
  refine W.eq (g2 := F0 m 216 ls [.int 1]) rfl ?_
  refine lv_istore (lv' := [(6, .int 1), (5, .int 0), (4, .ref (a 72)), (3, .ref (a 71)), (2, .ref (a 52)), (1, .ref (a 0)), (0, .ref b)]) hx hb dL_law_216 hl (by decide) rfl (fun ls hl => ?_)
  refine lv_aload_n hx hb dL_law_218 rfl (lv_at hl 4 rfl) ?_
  refine lv_aload_n hx hb dL_law_219 rfl (lv_at hl 6 rfl) ?_
  refine lv_iload hx hb dL_law_220 (lv_at hl 1 rfl) ?_
  refine lv_iconst (v := 1) hx hb dL_law_222 (by decide) ?_
  refine k_iadd (v := 1) hx hb dL_law_223 (by decide) ?_
  refine k_script (x := (xs 1)) hx hb hX hbl hbA hS 1 (by decide) rfl (by subst hL; unfold vp_in; decide) dL_law_224 ?_
  refine lv_aload_n hx hb dL_law_225 rfl (lv_at hl 6 rfl) ?_
  refine lv_iload hx hb dL_law_226 (lv_at hl 1 rfl) ?_
  refine lv_iconst (v := 2) hx hb dL_law_228 (by decide) ?_
  refine k_iadd (v := 2) hx hb dL_law_229 (by decide) ?_
  refine k_script (x := (xs 2)) hx hb hX hbl hbA hS 2 (by decide) rfl (by subst hL; unfold vp_in; decide) dL_law_230 ?_
  refine lv_aload_n hx hb dL_law_231 rfl (lv_at hl 6 rfl) ?_
  refine lv_iload hx hb dL_law_232 (lv_at hl 1 rfl) ?_
  refine lv_iconst (v := 3) hx hb dL_law_234 (by decide) ?_
  refine k_iadd (v := 3) hx hb dL_law_235 (by decide) ?_
  refine k_script (x := (xs 3)) hx hb hX hbl hbA hS 3 (by decide) rfl (by subst hL; unfold vp_in; decide) dL_law_236 ?_
  refine lv_i2c (v := kk) hx hb dL_law_237 hk ?_
  refine ct_V (wr := []) hSF hl.1 hP hD hS hA hK hGV (c40_X12_node l hfl D cA g (a 52) (a 53) (a 54) (a 55) (a 56) (a 57) (a 58) (a 59) (a 60) (a 61) (a 62) (a 63) (a 64) (a 65) (a 66) (a 67) (a 68) (a 69) (a 70) ((xs 1)) ((xs 2)) (kk) k6 k7 k8 k9 k10 k11 k12) goV_L_124 pd_X12_node ⟨(Nat.le_of_ble_eq_true rfl), (Nat.le_of_ble_eq_true rfl)⟩ ⟨(Nat.le_of_ble_eq_true rfl), (Nat.le_of_ble_eq_true rfl)⟩ (va_recv hK hP (ci := 15) (q0 := 0) rfl rfl) dL_law_238 rfl (Nat.le_of_ble_eq_true rfl) [0] [] rfl (by decide) rfl (by decide) (by decide) (fun q => [((a 52), .inr (15, [.ref (a 53), .ref (a 54), .ref (a 55), .ref (a 56), .ref (a 57), .ref (a 58), .ref (a 59), .ref (a 60), .ref (a 61), .ref (a 62), .ref (a 63), .ref (a 64), .ref (a 65), .ref (a 66), .ref (a 67), .ref (a 68), .ref (a 69), .ref (a 70), .long 0, .int 1, .int 2, .int 0, .int 0, .int 0, .int 0, .int 0, .int 0]))]) (fun _ => rfl) (fun q2 H locs hP hD hS => ?_)
  refine W.eq (g2 := F0 m 241 ls [.int 0]) rfl ?_
  refine lv_istore (lv' := [(7, .int 0), (6, .int 1), (5, .int 0), (4, .ref (a 72)), (3, .ref (a 71)), (2, .ref (a 52)), (1, .ref (a 0)), (0, .ref b)]) hx hb dL_law_241 hl (by decide) rfl (fun ls hl => ?_)
  refine lv_aload_n hx hb dL_law_243 rfl (lv_at hl 5 rfl) ?_
  refine ct_V (wr := []) hSF hl.1 hP hD hS hA hK hGV (c17_X12_thrown l hfl D cA g (a 52) (a 53) (a 54) (a 55) (a 56) (a 57) (a 58) (a 59) (a 60) (a 61) (a 62) (a 63) (a 64) (a 65) (a 66) (a 67) (a 68) (a 69) (a 70)) goV_L_125 pd_X12_thrown ⟨(Nat.le_of_ble_eq_true rfl), (Nat.le_of_ble_eq_true rfl)⟩ ⟨(Nat.le_of_ble_eq_true rfl), (Nat.le_of_ble_eq_true rfl)⟩ (va_recv hK hP (ci := 15) (q0 := 0) rfl rfl) dL_law_244 rfl (Nat.le_of_ble_eq_true rfl) [0] [] rfl (by decide) rfl (by decide) (by decide) (fun q => [((a 52), .inr (15, [.ref (a 53), .ref (a 54), .ref (a 55), .ref (a 56), .ref (a 57), .ref (a 58), .ref (a 59), .ref (a 60), .ref (a 61), .ref (a 62), .ref (a 63), .ref (a 64), .ref (a 65), .ref (a 66), .ref (a 67), .ref (a 68), .ref (a 69), .ref (a 70), .long 0, .int 1, .int 2, .int 0, .int 0, .int 0, .int 0, .int 0, .int 0]))]) (fun _ => rfl) (fun q3 H locs hP hD hS => ?_)
  refine W.eq (g2 := F0 m 247 ls [.int 1]) rfl ?_
  refine lv_iload hx hb dL_law_247 (lv_at hl 1 rfl) ?_
  refine k_icmp_eq_t (tgt := 254) hx hb dL_law_249 (by decide) (by decide) ?_
  refine lv_iload hx hb dL_law_254 (lv_at hl 1 rfl) ?_
  refine k_if_ne_t (tgt := 271) hx hb dL_law_256 (by decide) (by decide) ?_
  refine lv_goto (tgt := 1963) hx hb dL_law_271 (by decide) ?_
  exact law_tail l hL C0 (Nat.le_of_ble_eq_true rfl) (Nat.le_of_ble_eq_true rfl) hS (lv_sub hl [2, 7] rfl)
set_option maxHeartbeats 4000000 in
set_option maxRecDepth 100000 in
theorem lc_0_5 {p : Program} {e : Env} {s : State} {m : MethodId} {below : List Frame} {meth : Method} {c : Code} (l : Launch) (hfl : l.stackTraces = false) {b L : Nat} {xs : Nat → Int32} (hL : L = 6) (C0 : lw_At p s m meth c b L xs) (D : va_G) (cA : Nat → ClassId) (g : gv_T) (hK : va_K D vwCl (TYS cA) s) (hGV : GV g (fun q : Nat => s.heap.size ≤ q) s s.heap) (a : Nat → Nat) {H : Heap} {locs : List Loc} (hP : va_P D vwCl (WL cA g a) H) (hD : va_D (fun q : Nat => s.heap.size ≤ q) (WL cA g a)) (hS : va_S (fun q : Nat => s.heap.size ≤ q) s.heap H locs) {ls : Array Slot} (hl : lv_has ls 9 [(5, .int 0), (4, .ref (a 72)), (3, .ref (a 71)), (2, .ref (a 52)), (1, .ref (a 0)), (0, .ref b)]) (kk : Int32) (hk : (((xs 3)).toUInt32 % 65536).toInt32 = kk) (k0 : ¬ (xs 1) < 0) (k1 : ¬ 30 < (xs 1)) (k2 : ¬ (xs 2) < 0) (k3 : ¬ 30 < (xs 2)) (k4 : ¬ kk < 0) (k5 : ¬ 255 < kk) (k6 : ¬ 45 = (kk).toInt8.toInt32) (k7 : ¬ 112 = (kk).toInt8.toInt32) (k8 : ¬ 114 = (kk).toInt8.toInt32) (k9 : ¬ (lg_cmp ((xs 1)).toInt64 0) < 0) (k10 : ¬ 0 < (lg_cmp ((xs 1)).toInt64 30)) (k11 : ¬ (lg_cmp ((xs 2)).toInt64 0) < 0) (k12 : ¬ 0 < (lg_cmp ((xs 2)).toInt64 30)) (k13 : ¬ kk = 45) (k14 : ¬ kk = 112) (k15 : ¬ kk = 114) : W p l e room_1 s m #[Value.ref b] below meth c H locs 73 8292 (lw_Z below #[Value.ref b] s) (F0 m 192 ls []) := by
  obtain ⟨hx, hb, hr, hml, hown, hts, hX, hbl, hlocks, hgv⟩ := id C0
  have hb : c.code = cL_law := hb
  have hown : s.vm.findClass RL = some m.cls := hown
  have hG : ∀ w ∈ GW, w.before #[Value.ref b] s = true := fun w hw => hts w (List.mem_filter.mp hw).1
  have hA : ∀ q : Nat, s.heap.size ≤ q → (fun q : Nat => s.heap.size ≤ q) q := fun _ h => h
  have hbA : ¬ (fun q : Nat => s.heap.size ≤ q) b := Nat.not_le.mpr hbl
  have hSF : CF p m c cL_law 9 s #[Value.ref b] RL := ⟨hx, hb, hml, hown, hG⟩
  have hP : va_P D vwCl [((a 0), .inr (9, [.ref (a 1), .ref (a 12), .ref (a 32), .ref (a 38), .ref (a 46)])), ((a 52), .inr (15, [.ref (a 53), .ref (a 54), .ref (a 55), .ref (a 56), .ref (a 57), .ref (a 58), .ref (a 59), .ref (a 60), .ref (a 61), .ref (a 62), .ref (a 63), .ref (a 64), .ref (a 65), .ref (a 66), .ref (a 67), .ref (a 68), .ref (a 69), .ref (a 70), .long 0, .int 0, .int 2, .int 0, .int 0, .int 0, .int 0, .int 0, .int 0]))] H := hP.sub [0, 52] rfl
  have hD : va_D (fun q : Nat => s.heap.size ≤ q) [((a 0), .inr (9, [.ref (a 1), .ref (a 12), .ref (a 32), .ref (a 38), .ref (a 46)])), ((a 52), .inr (15, [.ref (a 53), .ref (a 54), .ref (a 55), .ref (a 56), .ref (a 57), .ref (a 58), .ref (a 59), .ref (a 60), .ref (a 61), .ref (a 62), .ref (a 63), .ref (a 64), .ref (a 65), .ref (a 66), .ref (a 67), .ref (a 68), .ref (a 69), .ref (a 70), .long 0, .int 0, .int 2, .int 0, .int 0, .int 0, .int 0, .int 0, .int 0]))] := hD.sub [0, 52] (by decide) rfl
  have hl : lv_has ls 9 [(5, .int 0), (4, .ref (a 72)), (3, .ref (a 71)), (2, .ref (a 52)), (1, .ref (a 0)), (0, .ref b)] := hl
  refine lv_aload_n hx hb dL_law_192 rfl (lv_at hl 4 rfl) ?_
  refine lv_aload_n hx hb dL_law_193 rfl (lv_at hl 5 rfl) ?_
  refine lv_iload hx hb dL_law_194 (lv_at hl 0 rfl) ?_
  refine lv_iconst (v := 1) hx hb dL_law_196 (by decide) ?_
  refine k_iadd (v := 1) hx hb dL_law_197 (by decide) ?_
  refine k_script (x := (xs 1)) hx hb hX hbl hbA hS 1 (by decide) rfl (by subst hL; unfold vp_in; decide) dL_law_198 ?_
  refine lv_aload_n hx hb dL_law_199 rfl (lv_at hl 5 rfl) ?_
  refine lv_iload hx hb dL_law_200 (lv_at hl 0 rfl) ?_
  refine lv_iconst (v := 2) hx hb dL_law_202 (by decide) ?_
  refine k_iadd (v := 2) hx hb dL_law_203 (by decide) ?_
  refine k_script (x := (xs 2)) hx hb hX hbl hbA hS 2 (by decide) rfl (by subst hL; unfold vp_in; decide) dL_law_204 ?_
  refine lv_aload_n hx hb dL_law_205 rfl (lv_at hl 5 rfl) ?_
  refine lv_iload hx hb dL_law_206 (lv_at hl 0 rfl) ?_
  refine lv_iconst (v := 3) hx hb dL_law_208 (by decide) ?_
  refine k_iadd (v := 3) hx hb dL_law_209 (by decide) ?_
  refine k_script (x := (xs 3)) hx hb hX hbl hbA hS 3 (by decide) rfl (by subst hL; unfold vp_in; decide) dL_law_210 ?_
  refine lv_i2c (v := kk) hx hb dL_law_211 hk ?_
  refine lv_aload_n hx hb dL_law_212 rfl (lv_at hl 2 rfl) ?_
  refine ct_SW (wr := [((a 52), .inr (15, [.ref (a 53), .ref (a 54), .ref (a 55), .ref (a 56), .ref (a 57), .ref (a 58), .ref (a 59), .ref (a 60), .ref (a 61), .ref (a 62), .ref (a 63), .ref (a 64), .ref (a 65), .ref (a 66), .ref (a 67), .ref (a 68), .ref (a 69), .ref (a 70), .long 0, .int 0, .int 2, .int 0, .int 0, .int 0, .int 0, .int 0, .int 0]))]) hSF hl.1 hP hD hS hA hK hGV (c47_L_node l hfl D cA g (a 0) (a 71) (a 1) (a 12) (a 32) (a 38) (a 46) ((xs 1)) ((xs 2)) (kk) k0 k1 k2 k3 k4 k5 k6 k7 k8) goW_L_119 pd_L_node.2 ⟨(Nat.le_of_ble_eq_true rfl), (Nat.le_of_ble_eq_true rfl)⟩ ⟨(Nat.le_of_ble_eq_true rfl), (Nat.le_of_ble_eq_true rfl)⟩ dL_law_213 rfl (Nat.le_of_ble_eq_true rfl) [0] [1] rfl (by decide) rfl (by decide) (by decide) (fun q => [((a 52), .inr (15, [.ref (a 53), .ref (a 54), .ref (a 55), .ref (a 56), .ref (a 57), .ref (a 58), .ref (a 59), .ref (a 60), .ref (a 61), .ref (a 62), .ref (a 63), .ref (a 64), .ref (a 65), .ref (a 66), .ref (a 67), .ref (a 68), .ref (a 69), .ref (a 70), .long 0, .int 0, .int 2, .int 0, .int 0, .int 0, .int 0, .int 0, .int 0])), ((a 0), .inr (9, [.ref (a 1), .ref (a 12), .ref (a 32), .ref (a 38), .ref (a 46)]))]) (fun _ => rfl) (fun q1 H locs hP hD hS => ?_)
  refine W.eq (g2 := F0 m 216 ls [.int 1]) rfl ?_
  refine lv_istore (lv' := [(6, .int 1), (5, .int 0), (4, .ref (a 72)), (3, .ref (a 71)), (2, .ref (a 52)), (1, .ref (a 0)), (0, .ref b)]) hx hb dL_law_216 hl (by decide) rfl (fun ls hl => ?_)
  refine lv_aload_n hx hb dL_law_218 rfl (lv_at hl 4 rfl) ?_
  refine lv_aload_n hx hb dL_law_219 rfl (lv_at hl 6 rfl) ?_
  refine lv_iload hx hb dL_law_220 (lv_at hl 1 rfl) ?_
  refine lv_iconst (v := 1) hx hb dL_law_222 (by decide) ?_
  refine k_iadd (v := 1) hx hb dL_law_223 (by decide) ?_
  refine k_script (x := (xs 1)) hx hb hX hbl hbA hS 1 (by decide) rfl (by subst hL; unfold vp_in; decide) dL_law_224 ?_
  refine lv_aload_n hx hb dL_law_225 rfl (lv_at hl 6 rfl) ?_
  refine lv_iload hx hb dL_law_226 (lv_at hl 1 rfl) ?_
  refine lv_iconst (v := 2) hx hb dL_law_228 (by decide) ?_
  refine k_iadd (v := 2) hx hb dL_law_229 (by decide) ?_
  refine k_script (x := (xs 2)) hx hb hX hbl hbA hS 2 (by decide) rfl (by subst hL; unfold vp_in; decide) dL_law_230 ?_
  refine lv_aload_n hx hb dL_law_231 rfl (lv_at hl 6 rfl) ?_
  refine lv_iload hx hb dL_law_232 (lv_at hl 1 rfl) ?_
  refine lv_iconst (v := 3) hx hb dL_law_234 (by decide) ?_
  refine k_iadd (v := 3) hx hb dL_law_235 (by decide) ?_
  refine k_script (x := (xs 3)) hx hb hX hbl hbA hS 3 (by decide) rfl (by subst hL; unfold vp_in; decide) dL_law_236 ?_
  refine lv_i2c (v := kk) hx hb dL_law_237 hk ?_
  refine ct_V (wr := []) hSF hl.1 hP hD hS hA hK hGV (c40_X12_node l hfl D cA g (a 52) (a 53) (a 54) (a 55) (a 56) (a 57) (a 58) (a 59) (a 60) (a 61) (a 62) (a 63) (a 64) (a 65) (a 66) (a 67) (a 68) (a 69) (a 70) ((xs 1)) ((xs 2)) (kk) k9 k10 k11 k12 k13 k14 k15) goV_L_124 pd_X12_node ⟨(Nat.le_of_ble_eq_true rfl), (Nat.le_of_ble_eq_true rfl)⟩ ⟨(Nat.le_of_ble_eq_true rfl), (Nat.le_of_ble_eq_true rfl)⟩ (va_recv hK hP (ci := 15) (q0 := 0) rfl rfl) dL_law_238 rfl (Nat.le_of_ble_eq_true rfl) [0] [] rfl (by decide) rfl (by decide) (by decide) (fun q => [((a 52), .inr (15, [.ref (a 53), .ref (a 54), .ref (a 55), .ref (a 56), .ref (a 57), .ref (a 58), .ref (a 59), .ref (a 60), .ref (a 61), .ref (a 62), .ref (a 63), .ref (a 64), .ref (a 65), .ref (a 66), .ref (a 67), .ref (a 68), .ref (a 69), .ref (a 70), .long 0, .int 1, .int 2, .int 0, .int 0, .int 0, .int 0, .int 0, .int 0]))]) (fun _ => rfl) (fun q2 H locs hP hD hS => ?_)
  refine W.eq (g2 := F0 m 241 ls [.int 0]) rfl ?_
  refine lv_istore (lv' := [(7, .int 0), (6, .int 1), (5, .int 0), (4, .ref (a 72)), (3, .ref (a 71)), (2, .ref (a 52)), (1, .ref (a 0)), (0, .ref b)]) hx hb dL_law_241 hl (by decide) rfl (fun ls hl => ?_)
  refine lv_aload_n hx hb dL_law_243 rfl (lv_at hl 5 rfl) ?_
  refine ct_V (wr := []) hSF hl.1 hP hD hS hA hK hGV (c17_X12_thrown l hfl D cA g (a 52) (a 53) (a 54) (a 55) (a 56) (a 57) (a 58) (a 59) (a 60) (a 61) (a 62) (a 63) (a 64) (a 65) (a 66) (a 67) (a 68) (a 69) (a 70)) goV_L_125 pd_X12_thrown ⟨(Nat.le_of_ble_eq_true rfl), (Nat.le_of_ble_eq_true rfl)⟩ ⟨(Nat.le_of_ble_eq_true rfl), (Nat.le_of_ble_eq_true rfl)⟩ (va_recv hK hP (ci := 15) (q0 := 0) rfl rfl) dL_law_244 rfl (Nat.le_of_ble_eq_true rfl) [0] [] rfl (by decide) rfl (by decide) (by decide) (fun q => [((a 52), .inr (15, [.ref (a 53), .ref (a 54), .ref (a 55), .ref (a 56), .ref (a 57), .ref (a 58), .ref (a 59), .ref (a 60), .ref (a 61), .ref (a 62), .ref (a 63), .ref (a 64), .ref (a 65), .ref (a 66), .ref (a 67), .ref (a 68), .ref (a 69), .ref (a 70), .long 0, .int 1, .int 2, .int 0, .int 0, .int 0, .int 0, .int 0, .int 0]))]) (fun _ => rfl) (fun q3 H locs hP hD hS => ?_)
  refine W.eq (g2 := F0 m 247 ls [.int 1]) rfl ?_
  refine lv_iload hx hb dL_law_247 (lv_at hl 1 rfl) ?_
  refine k_icmp_eq_t (tgt := 254) hx hb dL_law_249 (by decide) (by decide) ?_
  refine lv_iload hx hb dL_law_254 (lv_at hl 1 rfl) ?_
  refine k_if_ne_t (tgt := 271) hx hb dL_law_256 (by decide) (by decide) ?_
  refine lv_goto (tgt := 1963) hx hb dL_law_271 (by decide) ?_
  exact law_tail l hL C0 (Nat.le_of_ble_eq_true rfl) (Nat.le_of_ble_eq_true rfl) hS (lv_sub hl [2, 7] rfl)
set_option maxHeartbeats 4000000 in
set_option maxRecDepth 100000 in
theorem lc_0_6 {p : Program} {e : Env} {s : State} {m : MethodId} {below : List Frame} {meth : Method} {c : Code} (l : Launch) (hfl : l.stackTraces = false) {b L : Nat} {xs : Nat → Int32} (hL : L = 6) (C0 : lw_At p s m meth c b L xs) (D : va_G) (cA : Nat → ClassId) (g : gv_T) (hK : va_K D vwCl (TYS cA) s) (hGV : GV g (fun q : Nat => s.heap.size ≤ q) s s.heap) (a : Nat → Nat) {H : Heap} {locs : List Loc} (hP : va_P D vwCl (WL cA g a) H) (hD : va_D (fun q : Nat => s.heap.size ≤ q) (WL cA g a)) (hS : va_S (fun q : Nat => s.heap.size ≤ q) s.heap H locs) {ls : Array Slot} (hl : lv_has ls 9 [(5, .int 0), (4, .ref (a 72)), (3, .ref (a 71)), (2, .ref (a 52)), (1, .ref (a 0)), (0, .ref b)]) (hk : (((xs 3)).toUInt32 % 65536).toInt32 = 45) (k0 : ¬ (xs 1) < 0) (k1 : ¬ 30 < (xs 1)) (k2 : ¬ (xs 2) < 0) (k3 : ¬ 30 < (xs 2)) (k4 : ¬ (lg_cmp ((xs 1)).toInt64 0) < 0) (k5 : ¬ 0 < (lg_cmp ((xs 1)).toInt64 30)) (k6 : ¬ (lg_cmp ((xs 2)).toInt64 0) < 0) (k7 : ¬ 0 < (lg_cmp ((xs 2)).toInt64 30)) : W p l e room_1 s m #[Value.ref b] below meth c H locs 73 8292 (lw_Z below #[Value.ref b] s) (F0 m 192 ls []) := by
  obtain ⟨hx, hb, hr, hml, hown, hts, hX, hbl, hlocks, hgv⟩ := id C0
  have hb : c.code = cL_law := hb
  have hown : s.vm.findClass RL = some m.cls := hown
  have hG : ∀ w ∈ GW, w.before #[Value.ref b] s = true := fun w hw => hts w (List.mem_filter.mp hw).1
  have hA : ∀ q : Nat, s.heap.size ≤ q → (fun q : Nat => s.heap.size ≤ q) q := fun _ h => h
  have hbA : ¬ (fun q : Nat => s.heap.size ≤ q) b := Nat.not_le.mpr hbl
  have hSF : CF p m c cL_law 9 s #[Value.ref b] RL := ⟨hx, hb, hml, hown, hG⟩
  have hP : va_P D vwCl [((a 0), .inr (9, [.ref (a 1), .ref (a 12), .ref (a 32), .ref (a 38), .ref (a 46)])), ((a 1), .inr (5, [.int 0, .int 0, .ref (a 2), .ref (a 3), .ref (a 4), .ref (a 5), .ref (a 6), .ref (a 7), .ref (a 8), .ref (a 9), .ref (a 10), .ref (a 11)])), ((a 2), .inl (cA 0, 16, .inl (fun _ => 0))), ((a 5), .inl (cA 2, 8, .inl (fun _ => 0))), ((a 12), .inr (4, [.int 0, .int 0, .long 0, .ref (a 13), .ref (a 14), .ref (a 15), .ref (a 16), .ref (a 17), .ref (a 18), .ref (a 19), .ref (a 20), .ref (a 21), .ref (a 22), .ref (a 24), .ref (a 26), .ref (a 28), .ref (a 30)])), ((a 52), .inr (15, [.ref (a 53), .ref (a 54), .ref (a 55), .ref (a 56), .ref (a 57), .ref (a 58), .ref (a 59), .ref (a 60), .ref (a 61), .ref (a 62), .ref (a 63), .ref (a 64), .ref (a 65), .ref (a 66), .ref (a 67), .ref (a 68), .ref (a 69), .ref (a 70), .long 0, .int 0, .int 2, .int 0, .int 0, .int 0, .int 0, .int 0, .int 0])), ((a 53), .inr (2, [.int 0, .ref g.1, .int 0])), ((a 71), .inl (cA 1, 1, .inr (.inl (fun _ => 0))))] H := hP.sub [0, 1, 2, 5, 12, 52, 53, 71] rfl
  have hD : va_D (fun q : Nat => s.heap.size ≤ q) [((a 0), .inr (9, [.ref (a 1), .ref (a 12), .ref (a 32), .ref (a 38), .ref (a 46)])), ((a 1), .inr (5, [.int 0, .int 0, .ref (a 2), .ref (a 3), .ref (a 4), .ref (a 5), .ref (a 6), .ref (a 7), .ref (a 8), .ref (a 9), .ref (a 10), .ref (a 11)])), ((a 2), .inl (cA 0, 16, .inl (fun _ => 0))), ((a 5), .inl (cA 2, 8, .inl (fun _ => 0))), ((a 12), .inr (4, [.int 0, .int 0, .long 0, .ref (a 13), .ref (a 14), .ref (a 15), .ref (a 16), .ref (a 17), .ref (a 18), .ref (a 19), .ref (a 20), .ref (a 21), .ref (a 22), .ref (a 24), .ref (a 26), .ref (a 28), .ref (a 30)])), ((a 52), .inr (15, [.ref (a 53), .ref (a 54), .ref (a 55), .ref (a 56), .ref (a 57), .ref (a 58), .ref (a 59), .ref (a 60), .ref (a 61), .ref (a 62), .ref (a 63), .ref (a 64), .ref (a 65), .ref (a 66), .ref (a 67), .ref (a 68), .ref (a 69), .ref (a 70), .long 0, .int 0, .int 2, .int 0, .int 0, .int 0, .int 0, .int 0, .int 0])), ((a 53), .inr (2, [.int 0, .ref g.1, .int 0])), ((a 71), .inl (cA 1, 1, .inr (.inl (fun _ => 0))))] := hD.sub [0, 1, 2, 5, 12, 52, 53, 71] (by decide) rfl
  have hl : lv_has ls 9 [(5, .int 0), (4, .ref (a 72)), (3, .ref (a 71)), (2, .ref (a 52)), (1, .ref (a 0)), (0, .ref b)] := hl
  refine lv_aload_n hx hb dL_law_192 rfl (lv_at hl 4 rfl) ?_
  refine lv_aload_n hx hb dL_law_193 rfl (lv_at hl 5 rfl) ?_
  refine lv_iload hx hb dL_law_194 (lv_at hl 0 rfl) ?_
  refine lv_iconst (v := 1) hx hb dL_law_196 (by decide) ?_
  refine k_iadd (v := 1) hx hb dL_law_197 (by decide) ?_
  refine k_script (x := (xs 1)) hx hb hX hbl hbA hS 1 (by decide) rfl (by subst hL; unfold vp_in; decide) dL_law_198 ?_
  refine lv_aload_n hx hb dL_law_199 rfl (lv_at hl 5 rfl) ?_
  refine lv_iload hx hb dL_law_200 (lv_at hl 0 rfl) ?_
  refine lv_iconst (v := 2) hx hb dL_law_202 (by decide) ?_
  refine k_iadd (v := 2) hx hb dL_law_203 (by decide) ?_
  refine k_script (x := (xs 2)) hx hb hX hbl hbA hS 2 (by decide) rfl (by subst hL; unfold vp_in; decide) dL_law_204 ?_
  refine lv_aload_n hx hb dL_law_205 rfl (lv_at hl 5 rfl) ?_
  refine lv_iload hx hb dL_law_206 (lv_at hl 0 rfl) ?_
  refine lv_iconst (v := 3) hx hb dL_law_208 (by decide) ?_
  refine k_iadd (v := 3) hx hb dL_law_209 (by decide) ?_
  refine k_script (x := (xs 3)) hx hb hX hbl hbA hS 3 (by decide) rfl (by subst hL; unfold vp_in; decide) dL_law_210 ?_
  refine lv_i2c (v := 45) hx hb dL_law_211 hk ?_
  refine lv_aload_n hx hb dL_law_212 rfl (lv_at hl 2 rfl) ?_
  refine ct_SW (wr := [((a 52), .inr (15, [.ref (a 53), .ref (a 54), .ref (a 55), .ref (a 56), .ref (a 57), .ref (a 58), .ref (a 59), .ref (a 60), .ref (a 61), .ref (a 62), .ref (a 63), .ref (a 64), .ref (a 65), .ref (a 66), .ref (a 67), .ref (a 68), .ref (a 69), .ref (a 70), .long 0, .int 0, .int 2, .int 0, .int 0, .int 0, .int 0, .int 0, .int 0])), ((a 53), .inr (2, [.int 0, .ref g.1, .int 0]))]) hSF hl.1 hP hD hS hA hK hGV (c55_L_node l hfl D cA g (a 0) (a 71) (a 1) (a 12) (a 32) (a 38) (a 46) (a 2) (a 3) (a 4) (a 5) (a 6) (a 7) (a 8) (a 9) (a 10) (a 11) (a 13) (a 14) (a 15) (a 16) (a 17) (a 18) (a 19) (a 20) (a 21) (a 22) (a 24) (a 26) (a 28) (a 30) ((xs 1)) ((xs 2)) k0 k1 k2 k3) goW_L_119 pd_L_node.2 ⟨(Nat.le_of_ble_eq_true rfl), (Nat.le_of_ble_eq_true rfl)⟩ ⟨(Nat.le_of_ble_eq_true rfl), (Nat.le_of_ble_eq_true rfl)⟩ dL_law_213 rfl (Nat.le_of_ble_eq_true rfl) [0, 1, 4, 2, 3, 7] [5, 6] rfl (by decide) rfl (by decide) (by decide) (fun q => [((a 52), .inr (15, [.ref (a 53), .ref (a 54), .ref (a 55), .ref (a 56), .ref (a 57), .ref (a 58), .ref (a 59), .ref (a 60), .ref (a 61), .ref (a 62), .ref (a 63), .ref (a 64), .ref (a 65), .ref (a 66), .ref (a 67), .ref (a 68), .ref (a 69), .ref (a 70), .long 0, .int 0, .int 2, .int 0, .int 0, .int 0, .int 0, .int 0, .int 0])), ((a 53), .inr (2, [.int 0, .ref g.1, .int 0])), ((a 0), .inr (9, [.ref (a 1), .ref (a 12), .ref (a 32), .ref (a 38), .ref (a 46)])), ((a 1), .inr (5, [.int 1, .int 0, .ref (a 2), .ref (a 3), .ref (a 4), .ref (a 5), .ref (a 6), .ref (a 7), .ref (a 8), .ref (a 9), .ref (a 10), .ref (a 11)])), ((a 12), .inr (4, [.int 0, .int 0, .long 0, .ref (a 13), .ref (a 14), .ref (a 15), .ref (a 16), .ref (a 17), .ref (a 18), .ref (a 19), .ref (a 20), .ref (a 21), .ref (a 22), .ref (a 24), .ref (a 26), .ref (a 28), .ref (a 30)])), ((a 2), .inl (cA 0, 16, .inl (upd (upd (fun _ => 0) 0 (xs 1)) 1 (xs 2)))), ((a 5), .inl (cA 2, 8, .inl (upd (fun _ => 0) 0 45))), ((a 71), .inl (cA 1, 1, .inr (.inl (vp_updL (fun _ => 0) 0 0))))]) (fun _ => rfl) (fun q1 H locs hP hD hS => ?_)
  refine W.eq (g2 := F0 m 216 ls [.int 0]) rfl ?_
  refine lv_istore (lv' := [(6, .int 0), (5, .int 0), (4, .ref (a 72)), (3, .ref (a 71)), (2, .ref (a 52)), (1, .ref (a 0)), (0, .ref b)]) hx hb dL_law_216 hl (by decide) rfl (fun ls hl => ?_)
  refine lv_aload_n hx hb dL_law_218 rfl (lv_at hl 4 rfl) ?_
  refine lv_aload_n hx hb dL_law_219 rfl (lv_at hl 6 rfl) ?_
  refine lv_iload hx hb dL_law_220 (lv_at hl 1 rfl) ?_
  refine lv_iconst (v := 1) hx hb dL_law_222 (by decide) ?_
  refine k_iadd (v := 1) hx hb dL_law_223 (by decide) ?_
  refine k_script (x := (xs 1)) hx hb hX hbl hbA hS 1 (by decide) rfl (by subst hL; unfold vp_in; decide) dL_law_224 ?_
  refine lv_aload_n hx hb dL_law_225 rfl (lv_at hl 6 rfl) ?_
  refine lv_iload hx hb dL_law_226 (lv_at hl 1 rfl) ?_
  refine lv_iconst (v := 2) hx hb dL_law_228 (by decide) ?_
  refine k_iadd (v := 2) hx hb dL_law_229 (by decide) ?_
  refine k_script (x := (xs 2)) hx hb hX hbl hbA hS 2 (by decide) rfl (by subst hL; unfold vp_in; decide) dL_law_230 ?_
  refine lv_aload_n hx hb dL_law_231 rfl (lv_at hl 6 rfl) ?_
  refine lv_iload hx hb dL_law_232 (lv_at hl 1 rfl) ?_
  refine lv_iconst (v := 3) hx hb dL_law_234 (by decide) ?_
  refine k_iadd (v := 3) hx hb dL_law_235 (by decide) ?_
  refine k_script (x := (xs 3)) hx hb hX hbl hbA hS 3 (by decide) rfl (by subst hL; unfold vp_in; decide) dL_law_236 ?_
  refine lv_i2c (v := 45) hx hb dL_law_237 hk ?_
  refine ct_V (wr := [((a 71), .inl (cA 1, 1, .inr (.inl (vp_updL (fun _ => 0) 0 0))))]) hSF hl.1 hP hD hS hA hK hGV (c65_X12_node l hfl D cA g (a 52) (a 53) (a 54) (a 55) (a 56) (a 57) (a 58) (a 59) (a 60) (a 61) (a 62) (a 63) (a 64) (a 65) (a 66) (a 67) (a 68) (a 69) (a 70) ((xs 1)) ((xs 2)) k4 k5 k6 k7) goV_L_124 pd_X12_node ⟨(Nat.le_of_ble_eq_true rfl), (Nat.le_of_ble_eq_true rfl)⟩ ⟨(Nat.le_of_ble_eq_true rfl), (Nat.le_of_ble_eq_true rfl)⟩ (va_recv hK hP (ci := 15) (q0 := 0) rfl rfl) dL_law_238 rfl (Nat.le_of_ble_eq_true rfl) [0, 1] [7] rfl (by decide) rfl (by decide) (by decide) (fun q => [((a 71), .inl (cA 1, 1, .inr (.inl (vp_updL (fun _ => 0) 0 0)))), ((a 52), .inr (15, [.ref (a 53), .ref (a 54), .ref (a 55), .ref (a 56), .ref (a 57), .ref (a 58), .ref (a 59), .ref (a 60), .ref (a 61), .ref (a 62), .ref (a 63), .ref (a 64), .ref (a 65), .ref (a 66), .ref (a 67), .ref (a 68), .ref (a 69), .ref (a 70), .long 0, .int 0, .int 2, .int 0, .int 0, .int 0, .int 0, .int 0, .int 0])), ((a 53), .inr (2, [.int 1, .ref (q 1), .int 1])), ((q 0), .inr (12, [.int (xs 1), .int (xs 2), .int 45, .long 0, .long 0, .int 0])), ((q 1), .inl (cA 4, 10, .inr (.inr (.inr (.inr (va_up (fun _ => none) 0 (some (q 0))))))))]) (fun _ => rfl) (fun q2 H locs hP hD hS => ?_)
  refine W.eq (g2 := F0 m 241 ls [.int 0]) rfl ?_
  refine lv_istore (lv' := [(7, .int 0), (6, .int 0), (5, .int 0), (4, .ref (a 72)), (3, .ref (a 71)), (2, .ref (a 52)), (1, .ref (a 0)), (0, .ref b)]) hx hb dL_law_241 hl (by decide) rfl (fun ls hl => ?_)
  refine lv_aload_n hx hb dL_law_243 rfl (lv_at hl 5 rfl) ?_
  refine ct_V (wr := [((a 71), .inl (cA 1, 1, .inr (.inl (vp_updL (fun _ => 0) 0 0))))]) hSF hl.1 hP hD hS hA hK hGV (c66_X12_thrown l hfl D cA g (a 52) (a 53) (a 54) (a 55) (a 56) (a 57) (a 58) (a 59) (a 60) (a 61) (a 62) (a 63) (a 64) (a 65) (a 66) (a 67) (a 68) (a 69) (a 70)) goV_L_125 pd_X12_thrown ⟨(Nat.le_of_ble_eq_true rfl), (Nat.le_of_ble_eq_true rfl)⟩ ⟨(Nat.le_of_ble_eq_true rfl), (Nat.le_of_ble_eq_true rfl)⟩ (va_recv hK hP (ci := 15) (q0 := 1) rfl rfl) dL_law_244 rfl (Nat.le_of_ble_eq_true rfl) [1] [0] rfl (by decide) rfl (by decide) (by decide) (fun q => [((a 71), .inl (cA 1, 1, .inr (.inl (vp_updL (fun _ => 0) 0 0)))), ((a 52), .inr (15, [.ref (a 53), .ref (a 54), .ref (a 55), .ref (a 56), .ref (a 57), .ref (a 58), .ref (a 59), .ref (a 60), .ref (a 61), .ref (a 62), .ref (a 63), .ref (a 64), .ref (a 65), .ref (a 66), .ref (a 67), .ref (a 68), .ref (a 69), .ref (a 70), .long 0, .int 0, .int 2, .int 0, .int 0, .int 0, .int 0, .int 0, .int 0]))]) (fun _ => rfl) (fun q3 H locs hP hD hS => ?_)
  refine W.eq (g2 := F0 m 247 ls [.int 0]) rfl ?_
  refine lv_iload hx hb dL_law_247 (lv_at hl 1 rfl) ?_
  refine k_icmp_eq_t (tgt := 254) hx hb dL_law_249 (by decide) (by decide) ?_
  refine lv_iload hx hb dL_law_254 (lv_at hl 1 rfl) ?_
  refine k_if_ne_f (tgt := 271) hx hb dL_law_256 (by decide) (by decide) ?_
  refine lv_aload_n hx hb dL_law_259 rfl (lv_at hl 4 rfl) ?_
  refine lv_iconst (v := 0) hx hb dL_law_260 (by decide) ?_
  refine k_lald (v := 0) hx hb hK hP 0 rfl 0 (by decide) rfl (by unfold vp_in; decide) dL_law_261 ?_
  refine lv_iload hx hb dL_law_262 (lv_at hl 0 rfl) ?_
  refine lv_i2l (v := 0) hx hb dL_law_264 (by decide +kernel) ?_
  refine k_lcmp (v := 0) hx hb dL_law_265 (by decide +kernel) ?_
  refine k_if_eq_t (tgt := 271) hx hb dL_law_266 (by decide) (by decide) ?_
  refine lv_goto (tgt := 1963) hx hb dL_law_271 (by decide) ?_
  exact law_tail l hL C0 (Nat.le_of_ble_eq_true rfl) (Nat.le_of_ble_eq_true rfl) hS (lv_sub hl [2, 7] rfl)
set_option maxHeartbeats 4000000 in
set_option maxRecDepth 100000 in
theorem lc_0_7 {p : Program} {e : Env} {s : State} {m : MethodId} {below : List Frame} {meth : Method} {c : Code} (l : Launch) (hfl : l.stackTraces = false) {b L : Nat} {xs : Nat → Int32} (hL : L = 6) (C0 : lw_At p s m meth c b L xs) (D : va_G) (cA : Nat → ClassId) (g : gv_T) (hK : va_K D vwCl (TYS cA) s) (hGV : GV g (fun q : Nat => s.heap.size ≤ q) s s.heap) (a : Nat → Nat) {H : Heap} {locs : List Loc} (hP : va_P D vwCl (WL cA g a) H) (hD : va_D (fun q : Nat => s.heap.size ≤ q) (WL cA g a)) (hS : va_S (fun q : Nat => s.heap.size ≤ q) s.heap H locs) {ls : Array Slot} (hl : lv_has ls 9 [(5, .int 0), (4, .ref (a 72)), (3, .ref (a 71)), (2, .ref (a 52)), (1, .ref (a 0)), (0, .ref b)]) (hk : (((xs 3)).toUInt32 % 65536).toInt32 = 112) (k0 : ¬ (xs 1) < 0) (k1 : ¬ 30 < (xs 1)) (k2 : ¬ (xs 2) < 0) (k3 : ¬ 30 < (xs 2)) (k4 : ¬ (lg_cmp ((xs 1)).toInt64 0) < 0) (k5 : ¬ 0 < (lg_cmp ((xs 1)).toInt64 30)) (k6 : ¬ (lg_cmp ((xs 2)).toInt64 0) < 0) (k7 : ¬ 0 < (lg_cmp ((xs 2)).toInt64 30)) : W p l e room_1 s m #[Value.ref b] below meth c H locs 73 8292 (lw_Z below #[Value.ref b] s) (F0 m 192 ls []) := by
  obtain ⟨hx, hb, hr, hml, hown, hts, hX, hbl, hlocks, hgv⟩ := id C0
  have hb : c.code = cL_law := hb
  have hown : s.vm.findClass RL = some m.cls := hown
  have hG : ∀ w ∈ GW, w.before #[Value.ref b] s = true := fun w hw => hts w (List.mem_filter.mp hw).1
  have hA : ∀ q : Nat, s.heap.size ≤ q → (fun q : Nat => s.heap.size ≤ q) q := fun _ h => h
  have hbA : ¬ (fun q : Nat => s.heap.size ≤ q) b := Nat.not_le.mpr hbl
  have hSF : CF p m c cL_law 9 s #[Value.ref b] RL := ⟨hx, hb, hml, hown, hG⟩
  have hP : va_P D vwCl [((a 0), .inr (9, [.ref (a 1), .ref (a 12), .ref (a 32), .ref (a 38), .ref (a 46)])), ((a 1), .inr (5, [.int 0, .int 0, .ref (a 2), .ref (a 3), .ref (a 4), .ref (a 5), .ref (a 6), .ref (a 7), .ref (a 8), .ref (a 9), .ref (a 10), .ref (a 11)])), ((a 2), .inl (cA 0, 16, .inl (fun _ => 0))), ((a 5), .inl (cA 2, 8, .inl (fun _ => 0))), ((a 12), .inr (4, [.int 0, .int 0, .long 0, .ref (a 13), .ref (a 14), .ref (a 15), .ref (a 16), .ref (a 17), .ref (a 18), .ref (a 19), .ref (a 20), .ref (a 21), .ref (a 22), .ref (a 24), .ref (a 26), .ref (a 28), .ref (a 30)])), ((a 52), .inr (15, [.ref (a 53), .ref (a 54), .ref (a 55), .ref (a 56), .ref (a 57), .ref (a 58), .ref (a 59), .ref (a 60), .ref (a 61), .ref (a 62), .ref (a 63), .ref (a 64), .ref (a 65), .ref (a 66), .ref (a 67), .ref (a 68), .ref (a 69), .ref (a 70), .long 0, .int 0, .int 2, .int 0, .int 0, .int 0, .int 0, .int 0, .int 0])), ((a 53), .inr (2, [.int 0, .ref g.1, .int 0])), ((a 71), .inl (cA 1, 1, .inr (.inl (fun _ => 0))))] H := hP.sub [0, 1, 2, 5, 12, 52, 53, 71] rfl
  have hD : va_D (fun q : Nat => s.heap.size ≤ q) [((a 0), .inr (9, [.ref (a 1), .ref (a 12), .ref (a 32), .ref (a 38), .ref (a 46)])), ((a 1), .inr (5, [.int 0, .int 0, .ref (a 2), .ref (a 3), .ref (a 4), .ref (a 5), .ref (a 6), .ref (a 7), .ref (a 8), .ref (a 9), .ref (a 10), .ref (a 11)])), ((a 2), .inl (cA 0, 16, .inl (fun _ => 0))), ((a 5), .inl (cA 2, 8, .inl (fun _ => 0))), ((a 12), .inr (4, [.int 0, .int 0, .long 0, .ref (a 13), .ref (a 14), .ref (a 15), .ref (a 16), .ref (a 17), .ref (a 18), .ref (a 19), .ref (a 20), .ref (a 21), .ref (a 22), .ref (a 24), .ref (a 26), .ref (a 28), .ref (a 30)])), ((a 52), .inr (15, [.ref (a 53), .ref (a 54), .ref (a 55), .ref (a 56), .ref (a 57), .ref (a 58), .ref (a 59), .ref (a 60), .ref (a 61), .ref (a 62), .ref (a 63), .ref (a 64), .ref (a 65), .ref (a 66), .ref (a 67), .ref (a 68), .ref (a 69), .ref (a 70), .long 0, .int 0, .int 2, .int 0, .int 0, .int 0, .int 0, .int 0, .int 0])), ((a 53), .inr (2, [.int 0, .ref g.1, .int 0])), ((a 71), .inl (cA 1, 1, .inr (.inl (fun _ => 0))))] := hD.sub [0, 1, 2, 5, 12, 52, 53, 71] (by decide) rfl
  have hl : lv_has ls 9 [(5, .int 0), (4, .ref (a 72)), (3, .ref (a 71)), (2, .ref (a 52)), (1, .ref (a 0)), (0, .ref b)] := hl
  refine lv_aload_n hx hb dL_law_192 rfl (lv_at hl 4 rfl) ?_
  refine lv_aload_n hx hb dL_law_193 rfl (lv_at hl 5 rfl) ?_
  refine lv_iload hx hb dL_law_194 (lv_at hl 0 rfl) ?_
  refine lv_iconst (v := 1) hx hb dL_law_196 (by decide) ?_
  refine k_iadd (v := 1) hx hb dL_law_197 (by decide) ?_
  refine k_script (x := (xs 1)) hx hb hX hbl hbA hS 1 (by decide) rfl (by subst hL; unfold vp_in; decide) dL_law_198 ?_
  refine lv_aload_n hx hb dL_law_199 rfl (lv_at hl 5 rfl) ?_
  refine lv_iload hx hb dL_law_200 (lv_at hl 0 rfl) ?_
  refine lv_iconst (v := 2) hx hb dL_law_202 (by decide) ?_
  refine k_iadd (v := 2) hx hb dL_law_203 (by decide) ?_
  refine k_script (x := (xs 2)) hx hb hX hbl hbA hS 2 (by decide) rfl (by subst hL; unfold vp_in; decide) dL_law_204 ?_
  refine lv_aload_n hx hb dL_law_205 rfl (lv_at hl 5 rfl) ?_
  refine lv_iload hx hb dL_law_206 (lv_at hl 0 rfl) ?_
  refine lv_iconst (v := 3) hx hb dL_law_208 (by decide) ?_
  refine k_iadd (v := 3) hx hb dL_law_209 (by decide) ?_
  refine k_script (x := (xs 3)) hx hb hX hbl hbA hS 3 (by decide) rfl (by subst hL; unfold vp_in; decide) dL_law_210 ?_
  refine lv_i2c (v := 112) hx hb dL_law_211 hk ?_
  refine lv_aload_n hx hb dL_law_212 rfl (lv_at hl 2 rfl) ?_
  refine ct_SW (wr := [((a 52), .inr (15, [.ref (a 53), .ref (a 54), .ref (a 55), .ref (a 56), .ref (a 57), .ref (a 58), .ref (a 59), .ref (a 60), .ref (a 61), .ref (a 62), .ref (a 63), .ref (a 64), .ref (a 65), .ref (a 66), .ref (a 67), .ref (a 68), .ref (a 69), .ref (a 70), .long 0, .int 0, .int 2, .int 0, .int 0, .int 0, .int 0, .int 0, .int 0])), ((a 53), .inr (2, [.int 0, .ref g.1, .int 0]))]) hSF hl.1 hP hD hS hA hK hGV (c74_L_node l hfl D cA g (a 0) (a 71) (a 1) (a 12) (a 32) (a 38) (a 46) (a 2) (a 3) (a 4) (a 5) (a 6) (a 7) (a 8) (a 9) (a 10) (a 11) (a 13) (a 14) (a 15) (a 16) (a 17) (a 18) (a 19) (a 20) (a 21) (a 22) (a 24) (a 26) (a 28) (a 30) ((xs 1)) ((xs 2)) k0 k1 k2 k3) goW_L_119 pd_L_node.2 ⟨(Nat.le_of_ble_eq_true rfl), (Nat.le_of_ble_eq_true rfl)⟩ ⟨(Nat.le_of_ble_eq_true rfl), (Nat.le_of_ble_eq_true rfl)⟩ dL_law_213 rfl (Nat.le_of_ble_eq_true rfl) [0, 1, 4, 2, 3, 7] [5, 6] rfl (by decide) rfl (by decide) (by decide) (fun q => [((a 52), .inr (15, [.ref (a 53), .ref (a 54), .ref (a 55), .ref (a 56), .ref (a 57), .ref (a 58), .ref (a 59), .ref (a 60), .ref (a 61), .ref (a 62), .ref (a 63), .ref (a 64), .ref (a 65), .ref (a 66), .ref (a 67), .ref (a 68), .ref (a 69), .ref (a 70), .long 0, .int 0, .int 2, .int 0, .int 0, .int 0, .int 0, .int 0, .int 0])), ((a 53), .inr (2, [.int 0, .ref g.1, .int 0])), ((a 0), .inr (9, [.ref (a 1), .ref (a 12), .ref (a 32), .ref (a 38), .ref (a 46)])), ((a 1), .inr (5, [.int 1, .int 0, .ref (a 2), .ref (a 3), .ref (a 4), .ref (a 5), .ref (a 6), .ref (a 7), .ref (a 8), .ref (a 9), .ref (a 10), .ref (a 11)])), ((a 12), .inr (4, [.int 0, .int 0, .long 0, .ref (a 13), .ref (a 14), .ref (a 15), .ref (a 16), .ref (a 17), .ref (a 18), .ref (a 19), .ref (a 20), .ref (a 21), .ref (a 22), .ref (a 24), .ref (a 26), .ref (a 28), .ref (a 30)])), ((a 2), .inl (cA 0, 16, .inl (upd (upd (fun _ => 0) 0 (xs 1)) 1 (xs 2)))), ((a 5), .inl (cA 2, 8, .inl (upd (fun _ => 0) 0 112))), ((a 71), .inl (cA 1, 1, .inr (.inl (vp_updL (fun _ => 0) 0 0))))]) (fun _ => rfl) (fun q1 H locs hP hD hS => ?_)
  refine W.eq (g2 := F0 m 216 ls [.int 0]) rfl ?_
  refine lv_istore (lv' := [(6, .int 0), (5, .int 0), (4, .ref (a 72)), (3, .ref (a 71)), (2, .ref (a 52)), (1, .ref (a 0)), (0, .ref b)]) hx hb dL_law_216 hl (by decide) rfl (fun ls hl => ?_)
  refine lv_aload_n hx hb dL_law_218 rfl (lv_at hl 4 rfl) ?_
  refine lv_aload_n hx hb dL_law_219 rfl (lv_at hl 6 rfl) ?_
  refine lv_iload hx hb dL_law_220 (lv_at hl 1 rfl) ?_
  refine lv_iconst (v := 1) hx hb dL_law_222 (by decide) ?_
  refine k_iadd (v := 1) hx hb dL_law_223 (by decide) ?_
  refine k_script (x := (xs 1)) hx hb hX hbl hbA hS 1 (by decide) rfl (by subst hL; unfold vp_in; decide) dL_law_224 ?_
  refine lv_aload_n hx hb dL_law_225 rfl (lv_at hl 6 rfl) ?_
  refine lv_iload hx hb dL_law_226 (lv_at hl 1 rfl) ?_
  refine lv_iconst (v := 2) hx hb dL_law_228 (by decide) ?_
  refine k_iadd (v := 2) hx hb dL_law_229 (by decide) ?_
  refine k_script (x := (xs 2)) hx hb hX hbl hbA hS 2 (by decide) rfl (by subst hL; unfold vp_in; decide) dL_law_230 ?_
  refine lv_aload_n hx hb dL_law_231 rfl (lv_at hl 6 rfl) ?_
  refine lv_iload hx hb dL_law_232 (lv_at hl 1 rfl) ?_
  refine lv_iconst (v := 3) hx hb dL_law_234 (by decide) ?_
  refine k_iadd (v := 3) hx hb dL_law_235 (by decide) ?_
  refine k_script (x := (xs 3)) hx hb hX hbl hbA hS 3 (by decide) rfl (by subst hL; unfold vp_in; decide) dL_law_236 ?_
  refine lv_i2c (v := 112) hx hb dL_law_237 hk ?_
  refine ct_V (wr := [((a 71), .inl (cA 1, 1, .inr (.inl (vp_updL (fun _ => 0) 0 0))))]) hSF hl.1 hP hD hS hA hK hGV (c78_X12_node l hfl D cA g (a 52) (a 53) (a 54) (a 55) (a 56) (a 57) (a 58) (a 59) (a 60) (a 61) (a 62) (a 63) (a 64) (a 65) (a 66) (a 67) (a 68) (a 69) (a 70) ((xs 1)) ((xs 2)) k4 k5 k6 k7) goV_L_124 pd_X12_node ⟨(Nat.le_of_ble_eq_true rfl), (Nat.le_of_ble_eq_true rfl)⟩ ⟨(Nat.le_of_ble_eq_true rfl), (Nat.le_of_ble_eq_true rfl)⟩ (va_recv hK hP (ci := 15) (q0 := 0) rfl rfl) dL_law_238 rfl (Nat.le_of_ble_eq_true rfl) [0, 1] [7] rfl (by decide) rfl (by decide) (by decide) (fun q => [((a 71), .inl (cA 1, 1, .inr (.inl (vp_updL (fun _ => 0) 0 0)))), ((a 52), .inr (15, [.ref (a 53), .ref (a 54), .ref (a 55), .ref (a 56), .ref (a 57), .ref (a 58), .ref (a 59), .ref (a 60), .ref (a 61), .ref (a 62), .ref (a 63), .ref (a 64), .ref (a 65), .ref (a 66), .ref (a 67), .ref (a 68), .ref (a 69), .ref (a 70), .long 0, .int 0, .int 2, .int 0, .int 0, .int 0, .int 0, .int 0, .int 0])), ((a 53), .inr (2, [.int 1, .ref (q 1), .int 1])), ((q 0), .inr (12, [.int (xs 1), .int (xs 2), .int 112, .long 0, .long 0, .int 0])), ((q 1), .inl (cA 4, 10, .inr (.inr (.inr (.inr (va_up (fun _ => none) 0 (some (q 0))))))))]) (fun _ => rfl) (fun q2 H locs hP hD hS => ?_)
  refine W.eq (g2 := F0 m 241 ls [.int 0]) rfl ?_
  refine lv_istore (lv' := [(7, .int 0), (6, .int 0), (5, .int 0), (4, .ref (a 72)), (3, .ref (a 71)), (2, .ref (a 52)), (1, .ref (a 0)), (0, .ref b)]) hx hb dL_law_241 hl (by decide) rfl (fun ls hl => ?_)
  refine lv_aload_n hx hb dL_law_243 rfl (lv_at hl 5 rfl) ?_
  refine ct_V (wr := [((a 71), .inl (cA 1, 1, .inr (.inl (vp_updL (fun _ => 0) 0 0))))]) hSF hl.1 hP hD hS hA hK hGV (c66_X12_thrown l hfl D cA g (a 52) (a 53) (a 54) (a 55) (a 56) (a 57) (a 58) (a 59) (a 60) (a 61) (a 62) (a 63) (a 64) (a 65) (a 66) (a 67) (a 68) (a 69) (a 70)) goV_L_125 pd_X12_thrown ⟨(Nat.le_of_ble_eq_true rfl), (Nat.le_of_ble_eq_true rfl)⟩ ⟨(Nat.le_of_ble_eq_true rfl), (Nat.le_of_ble_eq_true rfl)⟩ (va_recv hK hP (ci := 15) (q0 := 1) rfl rfl) dL_law_244 rfl (Nat.le_of_ble_eq_true rfl) [1] [0] rfl (by decide) rfl (by decide) (by decide) (fun q => [((a 71), .inl (cA 1, 1, .inr (.inl (vp_updL (fun _ => 0) 0 0)))), ((a 52), .inr (15, [.ref (a 53), .ref (a 54), .ref (a 55), .ref (a 56), .ref (a 57), .ref (a 58), .ref (a 59), .ref (a 60), .ref (a 61), .ref (a 62), .ref (a 63), .ref (a 64), .ref (a 65), .ref (a 66), .ref (a 67), .ref (a 68), .ref (a 69), .ref (a 70), .long 0, .int 0, .int 2, .int 0, .int 0, .int 0, .int 0, .int 0, .int 0]))]) (fun _ => rfl) (fun q3 H locs hP hD hS => ?_)
  refine W.eq (g2 := F0 m 247 ls [.int 0]) rfl ?_
  refine lv_iload hx hb dL_law_247 (lv_at hl 1 rfl) ?_
  refine k_icmp_eq_t (tgt := 254) hx hb dL_law_249 (by decide) (by decide) ?_
  refine lv_iload hx hb dL_law_254 (lv_at hl 1 rfl) ?_
  refine k_if_ne_f (tgt := 271) hx hb dL_law_256 (by decide) (by decide) ?_
  refine lv_aload_n hx hb dL_law_259 rfl (lv_at hl 4 rfl) ?_
  refine lv_iconst (v := 0) hx hb dL_law_260 (by decide) ?_
  refine k_lald (v := 0) hx hb hK hP 0 rfl 0 (by decide) rfl (by unfold vp_in; decide) dL_law_261 ?_
  refine lv_iload hx hb dL_law_262 (lv_at hl 0 rfl) ?_
  refine lv_i2l (v := 0) hx hb dL_law_264 (by decide +kernel) ?_
  refine k_lcmp (v := 0) hx hb dL_law_265 (by decide +kernel) ?_
  refine k_if_eq_t (tgt := 271) hx hb dL_law_266 (by decide) (by decide) ?_
  refine lv_goto (tgt := 1963) hx hb dL_law_271 (by decide) ?_
  exact law_tail l hL C0 (Nat.le_of_ble_eq_true rfl) (Nat.le_of_ble_eq_true rfl) hS (lv_sub hl [2, 7] rfl)
set_option maxHeartbeats 4000000 in
set_option maxRecDepth 100000 in
theorem lc_0_8 {p : Program} {e : Env} {s : State} {m : MethodId} {below : List Frame} {meth : Method} {c : Code} (l : Launch) (hfl : l.stackTraces = false) {b L : Nat} {xs : Nat → Int32} (hL : L = 6) (C0 : lw_At p s m meth c b L xs) (D : va_G) (cA : Nat → ClassId) (g : gv_T) (hK : va_K D vwCl (TYS cA) s) (hGV : GV g (fun q : Nat => s.heap.size ≤ q) s s.heap) (a : Nat → Nat) {H : Heap} {locs : List Loc} (hP : va_P D vwCl (WL cA g a) H) (hD : va_D (fun q : Nat => s.heap.size ≤ q) (WL cA g a)) (hS : va_S (fun q : Nat => s.heap.size ≤ q) s.heap H locs) {ls : Array Slot} (hl : lv_has ls 9 [(5, .int 0), (4, .ref (a 72)), (3, .ref (a 71)), (2, .ref (a 52)), (1, .ref (a 0)), (0, .ref b)]) (hk : (((xs 3)).toUInt32 % 65536).toInt32 = 114) (k0 : ¬ (xs 1) < 0) (k1 : ¬ 30 < (xs 1)) (k2 : ¬ (xs 2) < 0) (k3 : ¬ 30 < (xs 2)) (k4 : ¬ (lg_cmp ((xs 1)).toInt64 0) < 0) (k5 : ¬ 0 < (lg_cmp ((xs 1)).toInt64 30)) (k6 : ¬ (lg_cmp ((xs 2)).toInt64 0) < 0) (k7 : ¬ 0 < (lg_cmp ((xs 2)).toInt64 30)) : W p l e room_1 s m #[Value.ref b] below meth c H locs 73 8292 (lw_Z below #[Value.ref b] s) (F0 m 192 ls []) := by
  obtain ⟨hx, hb, hr, hml, hown, hts, hX, hbl, hlocks, hgv⟩ := id C0
  have hb : c.code = cL_law := hb
  have hown : s.vm.findClass RL = some m.cls := hown
  have hG : ∀ w ∈ GW, w.before #[Value.ref b] s = true := fun w hw => hts w (List.mem_filter.mp hw).1
  have hA : ∀ q : Nat, s.heap.size ≤ q → (fun q : Nat => s.heap.size ≤ q) q := fun _ h => h
  have hbA : ¬ (fun q : Nat => s.heap.size ≤ q) b := Nat.not_le.mpr hbl
  have hSF : CF p m c cL_law 9 s #[Value.ref b] RL := ⟨hx, hb, hml, hown, hG⟩
  have hP : va_P D vwCl [((a 0), .inr (9, [.ref (a 1), .ref (a 12), .ref (a 32), .ref (a 38), .ref (a 46)])), ((a 1), .inr (5, [.int 0, .int 0, .ref (a 2), .ref (a 3), .ref (a 4), .ref (a 5), .ref (a 6), .ref (a 7), .ref (a 8), .ref (a 9), .ref (a 10), .ref (a 11)])), ((a 2), .inl (cA 0, 16, .inl (fun _ => 0))), ((a 5), .inl (cA 2, 8, .inl (fun _ => 0))), ((a 12), .inr (4, [.int 0, .int 0, .long 0, .ref (a 13), .ref (a 14), .ref (a 15), .ref (a 16), .ref (a 17), .ref (a 18), .ref (a 19), .ref (a 20), .ref (a 21), .ref (a 22), .ref (a 24), .ref (a 26), .ref (a 28), .ref (a 30)])), ((a 52), .inr (15, [.ref (a 53), .ref (a 54), .ref (a 55), .ref (a 56), .ref (a 57), .ref (a 58), .ref (a 59), .ref (a 60), .ref (a 61), .ref (a 62), .ref (a 63), .ref (a 64), .ref (a 65), .ref (a 66), .ref (a 67), .ref (a 68), .ref (a 69), .ref (a 70), .long 0, .int 0, .int 2, .int 0, .int 0, .int 0, .int 0, .int 0, .int 0])), ((a 53), .inr (2, [.int 0, .ref g.1, .int 0])), ((a 71), .inl (cA 1, 1, .inr (.inl (fun _ => 0))))] H := hP.sub [0, 1, 2, 5, 12, 52, 53, 71] rfl
  have hD : va_D (fun q : Nat => s.heap.size ≤ q) [((a 0), .inr (9, [.ref (a 1), .ref (a 12), .ref (a 32), .ref (a 38), .ref (a 46)])), ((a 1), .inr (5, [.int 0, .int 0, .ref (a 2), .ref (a 3), .ref (a 4), .ref (a 5), .ref (a 6), .ref (a 7), .ref (a 8), .ref (a 9), .ref (a 10), .ref (a 11)])), ((a 2), .inl (cA 0, 16, .inl (fun _ => 0))), ((a 5), .inl (cA 2, 8, .inl (fun _ => 0))), ((a 12), .inr (4, [.int 0, .int 0, .long 0, .ref (a 13), .ref (a 14), .ref (a 15), .ref (a 16), .ref (a 17), .ref (a 18), .ref (a 19), .ref (a 20), .ref (a 21), .ref (a 22), .ref (a 24), .ref (a 26), .ref (a 28), .ref (a 30)])), ((a 52), .inr (15, [.ref (a 53), .ref (a 54), .ref (a 55), .ref (a 56), .ref (a 57), .ref (a 58), .ref (a 59), .ref (a 60), .ref (a 61), .ref (a 62), .ref (a 63), .ref (a 64), .ref (a 65), .ref (a 66), .ref (a 67), .ref (a 68), .ref (a 69), .ref (a 70), .long 0, .int 0, .int 2, .int 0, .int 0, .int 0, .int 0, .int 0, .int 0])), ((a 53), .inr (2, [.int 0, .ref g.1, .int 0])), ((a 71), .inl (cA 1, 1, .inr (.inl (fun _ => 0))))] := hD.sub [0, 1, 2, 5, 12, 52, 53, 71] (by decide) rfl
  have hl : lv_has ls 9 [(5, .int 0), (4, .ref (a 72)), (3, .ref (a 71)), (2, .ref (a 52)), (1, .ref (a 0)), (0, .ref b)] := hl
  refine lv_aload_n hx hb dL_law_192 rfl (lv_at hl 4 rfl) ?_
  refine lv_aload_n hx hb dL_law_193 rfl (lv_at hl 5 rfl) ?_
  refine lv_iload hx hb dL_law_194 (lv_at hl 0 rfl) ?_
  refine lv_iconst (v := 1) hx hb dL_law_196 (by decide) ?_
  refine k_iadd (v := 1) hx hb dL_law_197 (by decide) ?_
  refine k_script (x := (xs 1)) hx hb hX hbl hbA hS 1 (by decide) rfl (by subst hL; unfold vp_in; decide) dL_law_198 ?_
  refine lv_aload_n hx hb dL_law_199 rfl (lv_at hl 5 rfl) ?_
  refine lv_iload hx hb dL_law_200 (lv_at hl 0 rfl) ?_
  refine lv_iconst (v := 2) hx hb dL_law_202 (by decide) ?_
  refine k_iadd (v := 2) hx hb dL_law_203 (by decide) ?_
  refine k_script (x := (xs 2)) hx hb hX hbl hbA hS 2 (by decide) rfl (by subst hL; unfold vp_in; decide) dL_law_204 ?_
  refine lv_aload_n hx hb dL_law_205 rfl (lv_at hl 5 rfl) ?_
  refine lv_iload hx hb dL_law_206 (lv_at hl 0 rfl) ?_
  refine lv_iconst (v := 3) hx hb dL_law_208 (by decide) ?_
  refine k_iadd (v := 3) hx hb dL_law_209 (by decide) ?_
  refine k_script (x := (xs 3)) hx hb hX hbl hbA hS 3 (by decide) rfl (by subst hL; unfold vp_in; decide) dL_law_210 ?_
  refine lv_i2c (v := 114) hx hb dL_law_211 hk ?_
  refine lv_aload_n hx hb dL_law_212 rfl (lv_at hl 2 rfl) ?_
  refine ct_SW (wr := [((a 52), .inr (15, [.ref (a 53), .ref (a 54), .ref (a 55), .ref (a 56), .ref (a 57), .ref (a 58), .ref (a 59), .ref (a 60), .ref (a 61), .ref (a 62), .ref (a 63), .ref (a 64), .ref (a 65), .ref (a 66), .ref (a 67), .ref (a 68), .ref (a 69), .ref (a 70), .long 0, .int 0, .int 2, .int 0, .int 0, .int 0, .int 0, .int 0, .int 0])), ((a 53), .inr (2, [.int 0, .ref g.1, .int 0]))]) hSF hl.1 hP hD hS hA hK hGV (c86_L_node l hfl D cA g (a 0) (a 71) (a 1) (a 12) (a 32) (a 38) (a 46) (a 2) (a 3) (a 4) (a 5) (a 6) (a 7) (a 8) (a 9) (a 10) (a 11) (a 13) (a 14) (a 15) (a 16) (a 17) (a 18) (a 19) (a 20) (a 21) (a 22) (a 24) (a 26) (a 28) (a 30) ((xs 1)) ((xs 2)) k0 k1 k2 k3) goW_L_119 pd_L_node.2 ⟨(Nat.le_of_ble_eq_true rfl), (Nat.le_of_ble_eq_true rfl)⟩ ⟨(Nat.le_of_ble_eq_true rfl), (Nat.le_of_ble_eq_true rfl)⟩ dL_law_213 rfl (Nat.le_of_ble_eq_true rfl) [0, 1, 4, 2, 3, 7] [5, 6] rfl (by decide) rfl (by decide) (by decide) (fun q => [((a 52), .inr (15, [.ref (a 53), .ref (a 54), .ref (a 55), .ref (a 56), .ref (a 57), .ref (a 58), .ref (a 59), .ref (a 60), .ref (a 61), .ref (a 62), .ref (a 63), .ref (a 64), .ref (a 65), .ref (a 66), .ref (a 67), .ref (a 68), .ref (a 69), .ref (a 70), .long 0, .int 0, .int 2, .int 0, .int 0, .int 0, .int 0, .int 0, .int 0])), ((a 53), .inr (2, [.int 0, .ref g.1, .int 0])), ((a 0), .inr (9, [.ref (a 1), .ref (a 12), .ref (a 32), .ref (a 38), .ref (a 46)])), ((a 1), .inr (5, [.int 1, .int 0, .ref (a 2), .ref (a 3), .ref (a 4), .ref (a 5), .ref (a 6), .ref (a 7), .ref (a 8), .ref (a 9), .ref (a 10), .ref (a 11)])), ((a 12), .inr (4, [.int 0, .int 0, .long 0, .ref (a 13), .ref (a 14), .ref (a 15), .ref (a 16), .ref (a 17), .ref (a 18), .ref (a 19), .ref (a 20), .ref (a 21), .ref (a 22), .ref (a 24), .ref (a 26), .ref (a 28), .ref (a 30)])), ((a 2), .inl (cA 0, 16, .inl (upd (upd (fun _ => 0) 0 (xs 1)) 1 (xs 2)))), ((a 5), .inl (cA 2, 8, .inl (upd (fun _ => 0) 0 114))), ((a 71), .inl (cA 1, 1, .inr (.inl (vp_updL (fun _ => 0) 0 0))))]) (fun _ => rfl) (fun q1 H locs hP hD hS => ?_)
  refine W.eq (g2 := F0 m 216 ls [.int 0]) rfl ?_
  refine lv_istore (lv' := [(6, .int 0), (5, .int 0), (4, .ref (a 72)), (3, .ref (a 71)), (2, .ref (a 52)), (1, .ref (a 0)), (0, .ref b)]) hx hb dL_law_216 hl (by decide) rfl (fun ls hl => ?_)
  refine lv_aload_n hx hb dL_law_218 rfl (lv_at hl 4 rfl) ?_
  refine lv_aload_n hx hb dL_law_219 rfl (lv_at hl 6 rfl) ?_
  refine lv_iload hx hb dL_law_220 (lv_at hl 1 rfl) ?_
  refine lv_iconst (v := 1) hx hb dL_law_222 (by decide) ?_
  refine k_iadd (v := 1) hx hb dL_law_223 (by decide) ?_
  refine k_script (x := (xs 1)) hx hb hX hbl hbA hS 1 (by decide) rfl (by subst hL; unfold vp_in; decide) dL_law_224 ?_
  refine lv_aload_n hx hb dL_law_225 rfl (lv_at hl 6 rfl) ?_
  refine lv_iload hx hb dL_law_226 (lv_at hl 1 rfl) ?_
  refine lv_iconst (v := 2) hx hb dL_law_228 (by decide) ?_
  refine k_iadd (v := 2) hx hb dL_law_229 (by decide) ?_
  refine k_script (x := (xs 2)) hx hb hX hbl hbA hS 2 (by decide) rfl (by subst hL; unfold vp_in; decide) dL_law_230 ?_
  refine lv_aload_n hx hb dL_law_231 rfl (lv_at hl 6 rfl) ?_
  refine lv_iload hx hb dL_law_232 (lv_at hl 1 rfl) ?_
  refine lv_iconst (v := 3) hx hb dL_law_234 (by decide) ?_
  refine k_iadd (v := 3) hx hb dL_law_235 (by decide) ?_
  refine k_script (x := (xs 3)) hx hb hX hbl hbA hS 3 (by decide) rfl (by subst hL; unfold vp_in; decide) dL_law_236 ?_
  refine lv_i2c (v := 114) hx hb dL_law_237 hk ?_
  refine ct_V (wr := [((a 71), .inl (cA 1, 1, .inr (.inl (vp_updL (fun _ => 0) 0 0))))]) hSF hl.1 hP hD hS hA hK hGV (c90_X12_node l hfl D cA g (a 52) (a 53) (a 54) (a 55) (a 56) (a 57) (a 58) (a 59) (a 60) (a 61) (a 62) (a 63) (a 64) (a 65) (a 66) (a 67) (a 68) (a 69) (a 70) ((xs 1)) ((xs 2)) k4 k5 k6 k7) goV_L_124 pd_X12_node ⟨(Nat.le_of_ble_eq_true rfl), (Nat.le_of_ble_eq_true rfl)⟩ ⟨(Nat.le_of_ble_eq_true rfl), (Nat.le_of_ble_eq_true rfl)⟩ (va_recv hK hP (ci := 15) (q0 := 0) rfl rfl) dL_law_238 rfl (Nat.le_of_ble_eq_true rfl) [0, 1] [7] rfl (by decide) rfl (by decide) (by decide) (fun q => [((a 71), .inl (cA 1, 1, .inr (.inl (vp_updL (fun _ => 0) 0 0)))), ((a 52), .inr (15, [.ref (a 53), .ref (a 54), .ref (a 55), .ref (a 56), .ref (a 57), .ref (a 58), .ref (a 59), .ref (a 60), .ref (a 61), .ref (a 62), .ref (a 63), .ref (a 64), .ref (a 65), .ref (a 66), .ref (a 67), .ref (a 68), .ref (a 69), .ref (a 70), .long 0, .int 0, .int 2, .int 0, .int 0, .int 0, .int 0, .int 0, .int 0])), ((a 53), .inr (2, [.int 1, .ref (q 1), .int 1])), ((q 0), .inr (12, [.int (xs 1), .int (xs 2), .int 114, .long 0, .long 0, .int 0])), ((q 1), .inl (cA 4, 10, .inr (.inr (.inr (.inr (va_up (fun _ => none) 0 (some (q 0))))))))]) (fun _ => rfl) (fun q2 H locs hP hD hS => ?_)
  refine W.eq (g2 := F0 m 241 ls [.int 0]) rfl ?_
  refine lv_istore (lv' := [(7, .int 0), (6, .int 0), (5, .int 0), (4, .ref (a 72)), (3, .ref (a 71)), (2, .ref (a 52)), (1, .ref (a 0)), (0, .ref b)]) hx hb dL_law_241 hl (by decide) rfl (fun ls hl => ?_)
  refine lv_aload_n hx hb dL_law_243 rfl (lv_at hl 5 rfl) ?_
  refine ct_V (wr := [((a 71), .inl (cA 1, 1, .inr (.inl (vp_updL (fun _ => 0) 0 0))))]) hSF hl.1 hP hD hS hA hK hGV (c66_X12_thrown l hfl D cA g (a 52) (a 53) (a 54) (a 55) (a 56) (a 57) (a 58) (a 59) (a 60) (a 61) (a 62) (a 63) (a 64) (a 65) (a 66) (a 67) (a 68) (a 69) (a 70)) goV_L_125 pd_X12_thrown ⟨(Nat.le_of_ble_eq_true rfl), (Nat.le_of_ble_eq_true rfl)⟩ ⟨(Nat.le_of_ble_eq_true rfl), (Nat.le_of_ble_eq_true rfl)⟩ (va_recv hK hP (ci := 15) (q0 := 1) rfl rfl) dL_law_244 rfl (Nat.le_of_ble_eq_true rfl) [1] [0] rfl (by decide) rfl (by decide) (by decide) (fun q => [((a 71), .inl (cA 1, 1, .inr (.inl (vp_updL (fun _ => 0) 0 0)))), ((a 52), .inr (15, [.ref (a 53), .ref (a 54), .ref (a 55), .ref (a 56), .ref (a 57), .ref (a 58), .ref (a 59), .ref (a 60), .ref (a 61), .ref (a 62), .ref (a 63), .ref (a 64), .ref (a 65), .ref (a 66), .ref (a 67), .ref (a 68), .ref (a 69), .ref (a 70), .long 0, .int 0, .int 2, .int 0, .int 0, .int 0, .int 0, .int 0, .int 0]))]) (fun _ => rfl) (fun q3 H locs hP hD hS => ?_)
  refine W.eq (g2 := F0 m 247 ls [.int 0]) rfl ?_
  refine lv_iload hx hb dL_law_247 (lv_at hl 1 rfl) ?_
  refine k_icmp_eq_t (tgt := 254) hx hb dL_law_249 (by decide) (by decide) ?_
  refine lv_iload hx hb dL_law_254 (lv_at hl 1 rfl) ?_
  refine k_if_ne_f (tgt := 271) hx hb dL_law_256 (by decide) (by decide) ?_
  refine lv_aload_n hx hb dL_law_259 rfl (lv_at hl 4 rfl) ?_
  refine lv_iconst (v := 0) hx hb dL_law_260 (by decide) ?_
  refine k_lald (v := 0) hx hb hK hP 0 rfl 0 (by decide) rfl (by unfold vp_in; decide) dL_law_261 ?_
  refine lv_iload hx hb dL_law_262 (lv_at hl 0 rfl) ?_
  refine lv_i2l (v := 0) hx hb dL_law_264 (by decide +kernel) ?_
  refine k_lcmp (v := 0) hx hb dL_law_265 (by decide +kernel) ?_
  refine k_if_eq_t (tgt := 271) hx hb dL_law_266 (by decide) (by decide) ?_
  refine lv_goto (tgt := 1963) hx hb dL_law_271 (by decide) ?_
  exact law_tail l hL C0 (Nat.le_of_ble_eq_true rfl) (Nat.le_of_ble_eq_true rfl) hS (lv_sub hl [2, 7] rfl)
set_option maxHeartbeats 4000000 in
set_option maxRecDepth 100000 in
theorem lc_1_0 {p : Program} {e : Env} {s : State} {m : MethodId} {below : List Frame} {meth : Method} {c : Code} (l : Launch) (hfl : l.stackTraces = false) {b L : Nat} {xs : Nat → Int32} (hL : L = 6) (C0 : lw_At p s m meth c b L xs) (D : va_G) (cA : Nat → ClassId) (g : gv_T) (hK : va_K D vwCl (TYS cA) s) (hGV : GV g (fun q : Nat => s.heap.size ≤ q) s s.heap) (a : Nat → Nat) {H : Heap} {locs : List Loc} (hP : va_P D vwCl (WL cA g a) H) (hD : va_D (fun q : Nat => s.heap.size ≤ q) (WL cA g a)) (hS : va_S (fun q : Nat => s.heap.size ≤ q) s.heap H locs) {ls : Array Slot} (hl : lv_has ls 9 [(5, .int 0), (4, .ref (a 72)), (3, .ref (a 71)), (2, .ref (a 52)), (1, .ref (a 0)), (0, .ref b)]) (k0 : (xs 1) < 0) (k1 : (lg_cmp ((xs 1)).toInt64 0) < 0) : W p l e room_1 s m #[Value.ref b] below meth c H locs 73 8292 (lw_Z below #[Value.ref b] s) (F0 m 274 ls []) := by
  obtain ⟨hx, hb, hr, hml, hown, hts, hX, hbl, hlocks, hgv⟩ := id C0
  have hb : c.code = cL_law := hb
  have hown : s.vm.findClass RL = some m.cls := hown
  have hG : ∀ w ∈ GW, w.before #[Value.ref b] s = true := fun w hw => hts w (List.mem_filter.mp hw).1
  have hA : ∀ q : Nat, s.heap.size ≤ q → (fun q : Nat => s.heap.size ≤ q) q := fun _ h => h
  have hbA : ¬ (fun q : Nat => s.heap.size ≤ q) b := Nat.not_le.mpr hbl
  have hSF : CF p m c cL_law 9 s #[Value.ref b] RL := ⟨hx, hb, hml, hown, hG⟩
  have hP : va_P D vwCl [((a 0), .inr (9, [.ref (a 1), .ref (a 12), .ref (a 32), .ref (a 38), .ref (a 46)])), ((a 52), .inr (15, [.ref (a 53), .ref (a 54), .ref (a 55), .ref (a 56), .ref (a 57), .ref (a 58), .ref (a 59), .ref (a 60), .ref (a 61), .ref (a 62), .ref (a 63), .ref (a 64), .ref (a 65), .ref (a 66), .ref (a 67), .ref (a 68), .ref (a 69), .ref (a 70), .long 0, .int 0, .int 2, .int 0, .int 0, .int 0, .int 0, .int 0, .int 0])), ((a 53), .inr (2, [.int 0, .ref g.1, .int 0]))] H := hP.sub [0, 52, 53] rfl
  have hD : va_D (fun q : Nat => s.heap.size ≤ q) [((a 0), .inr (9, [.ref (a 1), .ref (a 12), .ref (a 32), .ref (a 38), .ref (a 46)])), ((a 52), .inr (15, [.ref (a 53), .ref (a 54), .ref (a 55), .ref (a 56), .ref (a 57), .ref (a 58), .ref (a 59), .ref (a 60), .ref (a 61), .ref (a 62), .ref (a 63), .ref (a 64), .ref (a 65), .ref (a 66), .ref (a 67), .ref (a 68), .ref (a 69), .ref (a 70), .long 0, .int 0, .int 2, .int 0, .int 0, .int 0, .int 0, .int 0, .int 0])), ((a 53), .inr (2, [.int 0, .ref g.1, .int 0]))] := hD.sub [0, 52, 53] (by decide) rfl
  have hl : lv_has ls 9 [(5, .int 0), (4, .ref (a 72)), (3, .ref (a 71)), (2, .ref (a 52)), (1, .ref (a 0)), (0, .ref b)] := hl
  refine lv_aload_n hx hb dL_law_274 rfl (lv_at hl 4 rfl) ?_
  refine lv_aload_n hx hb dL_law_275 rfl (lv_at hl 5 rfl) ?_
  refine lv_iload hx hb dL_law_276 (lv_at hl 0 rfl) ?_
  refine lv_iconst (v := 1) hx hb dL_law_278 (by decide) ?_
  refine k_iadd (v := 1) hx hb dL_law_279 (by decide) ?_
  refine k_script (x := (xs 1)) hx hb hX hbl hbA hS 1 (by decide) rfl (by subst hL; unfold vp_in; decide) dL_law_280 ?_
  refine lv_aload_n hx hb dL_law_281 rfl (lv_at hl 5 rfl) ?_
  refine lv_iload hx hb dL_law_282 (lv_at hl 0 rfl) ?_
  refine lv_iconst (v := 2) hx hb dL_law_284 (by decide) ?_
  refine k_iadd (v := 2) hx hb dL_law_285 (by decide) ?_
  refine k_script (x := (xs 2)) hx hb hX hbl hbA hS 2 (by decide) rfl (by subst hL; unfold vp_in; decide) dL_law_286 ?_
  refine lv_aload_n hx hb dL_law_287 rfl (lv_at hl 5 rfl) ?_
  refine lv_iload hx hb dL_law_288 (lv_at hl 0 rfl) ?_
  refine lv_iconst (v := 3) hx hb dL_law_290 (by decide) ?_
  refine k_iadd (v := 3) hx hb dL_law_291 (by decide) ?_
  refine k_script (x := (xs 3)) hx hb hX hbl hbA hS 3 (by decide) rfl (by subst hL; unfold vp_in; decide) dL_law_292 ?_
  refine lv_aload_n hx hb dL_law_293 rfl (lv_at hl 5 rfl) ?_
  refine lv_iload hx hb dL_law_294 (lv_at hl 0 rfl) ?_
  refine lv_iconst (v := 4) hx hb dL_law_296 (by decide) ?_
  refine k_iadd (v := 4) hx hb dL_law_297 (by decide) ?_
  refine k_script (x := (xs 4)) hx hb hX hbl hbA hS 4 (by decide) rfl (by subst hL; unfold vp_in; decide) dL_law_298 ?_
  refine lv_aload_n hx hb dL_law_299 rfl (lv_at hl 2 rfl) ?_
  refine ct_SW (wr := [((a 52), .inr (15, [.ref (a 53), .ref (a 54), .ref (a 55), .ref (a 56), .ref (a 57), .ref (a 58), .ref (a 59), .ref (a 60), .ref (a 61), .ref (a 62), .ref (a 63), .ref (a 64), .ref (a 65), .ref (a 66), .ref (a 67), .ref (a 68), .ref (a 69), .ref (a 70), .long 0, .int 0, .int 2, .int 0, .int 0, .int 0, .int 0, .int 0, .int 0])), ((a 53), .inr (2, [.int 0, .ref g.1, .int 0]))]) hSF hl.1 hP hD hS hA hK hGV (c93_L_member l hfl D cA g (a 0) (a 71) (a 1) (a 12) (a 32) (a 38) (a 46) ((xs 1)) ((xs 2)) ((xs 3)) ((xs 4)) k0) goW_L_128 pd_L_member.2 ⟨(Nat.le_of_ble_eq_true rfl), (Nat.le_of_ble_eq_true rfl)⟩ ⟨(Nat.le_of_ble_eq_true rfl), (Nat.le_of_ble_eq_true rfl)⟩ dL_law_300 rfl (Nat.le_of_ble_eq_true rfl) [0] [1, 2] rfl (by decide) rfl (by decide) (by decide) (fun q => [((a 52), .inr (15, [.ref (a 53), .ref (a 54), .ref (a 55), .ref (a 56), .ref (a 57), .ref (a 58), .ref (a 59), .ref (a 60), .ref (a 61), .ref (a 62), .ref (a 63), .ref (a 64), .ref (a 65), .ref (a 66), .ref (a 67), .ref (a 68), .ref (a 69), .ref (a 70), .long 0, .int 0, .int 2, .int 0, .int 0, .int 0, .int 0, .int 0, .int 0])), ((a 53), .inr (2, [.int 0, .ref g.1, .int 0])), ((a 0), .inr (9, [.ref (a 1), .ref (a 12), .ref (a 32), .ref (a 38), .ref (a 46)]))]) (fun _ => rfl) (fun q1 H locs hP hD hS => ?_)
  refine W.eq (g2 := F0 m 303 ls [.int 1]) rfl ?_
  refine lv_istore (lv' := [(6, .int 1), (5, .int 0), (4, .ref (a 72)), (3, .ref (a 71)), (2, .ref (a 52)), (1, .ref (a 0)), (0, .ref b)]) hx hb dL_law_303 hl (by decide) rfl (fun ls hl => ?_)
  refine lv_aload_n hx hb dL_law_305 rfl (lv_at hl 4 rfl) ?_
  refine lv_aload_n hx hb dL_law_306 rfl (lv_at hl 6 rfl) ?_
  refine lv_iload hx hb dL_law_307 (lv_at hl 1 rfl) ?_
  refine lv_iconst (v := 1) hx hb dL_law_309 (by decide) ?_
  refine k_iadd (v := 1) hx hb dL_law_310 (by decide) ?_
  refine k_script (x := (xs 1)) hx hb hX hbl hbA hS 1 (by decide) rfl (by subst hL; unfold vp_in; decide) dL_law_311 ?_
  refine lv_aload_n hx hb dL_law_312 rfl (lv_at hl 6 rfl) ?_
  refine lv_iload hx hb dL_law_313 (lv_at hl 1 rfl) ?_
  refine lv_iconst (v := 2) hx hb dL_law_315 (by decide) ?_
  refine k_iadd (v := 2) hx hb dL_law_316 (by decide) ?_
  refine k_script (x := (xs 2)) hx hb hX hbl hbA hS 2 (by decide) rfl (by subst hL; unfold vp_in; decide) dL_law_317 ?_
  refine lv_aload_n hx hb dL_law_318 rfl (lv_at hl 6 rfl) ?_
  refine lv_iload hx hb dL_law_319 (lv_at hl 1 rfl) ?_
  refine lv_iconst (v := 3) hx hb dL_law_321 (by decide) ?_
  refine k_iadd (v := 3) hx hb dL_law_322 (by decide) ?_
  refine k_script (x := (xs 3)) hx hb hX hbl hbA hS 3 (by decide) rfl (by subst hL; unfold vp_in; decide) dL_law_323 ?_
  refine lv_aload_n hx hb dL_law_324 rfl (lv_at hl 6 rfl) ?_
  refine lv_iload hx hb dL_law_325 (lv_at hl 1 rfl) ?_
  refine lv_iconst (v := 4) hx hb dL_law_327 (by decide) ?_
  refine k_iadd (v := 4) hx hb dL_law_328 (by decide) ?_
  refine k_script (x := (xs 4)) hx hb hX hbl hbA hS 4 (by decide) rfl (by subst hL; unfold vp_in; decide) dL_law_329 ?_
  refine ct_V (wr := []) hSF hl.1 hP hD hS hA hK hGV (c96_X12_member l hfl D cA g (a 52) (a 53) (a 54) (a 55) (a 56) (a 57) (a 58) (a 59) (a 60) (a 61) (a 62) (a 63) (a 64) (a 65) (a 66) (a 67) (a 68) (a 69) (a 70) ((xs 1)) ((xs 2)) ((xs 3)) ((xs 4)) k1) goV_L_131 pd_X12_member ⟨(Nat.le_of_ble_eq_true rfl), (Nat.le_of_ble_eq_true rfl)⟩ ⟨(Nat.le_of_ble_eq_true rfl), (Nat.le_of_ble_eq_true rfl)⟩ (va_recv hK hP (ci := 15) (q0 := 0) rfl rfl) dL_law_330 rfl (Nat.le_of_ble_eq_true rfl) [0, 1] [] rfl (by decide) rfl (by decide) (by decide) (fun q => [((a 52), .inr (15, [.ref (a 53), .ref (a 54), .ref (a 55), .ref (a 56), .ref (a 57), .ref (a 58), .ref (a 59), .ref (a 60), .ref (a 61), .ref (a 62), .ref (a 63), .ref (a 64), .ref (a 65), .ref (a 66), .ref (a 67), .ref (a 68), .ref (a 69), .ref (a 70), .long 0, .int 1, .int 2, .int 0, .int 0, .int 0, .int 0, .int 0, .int 0])), ((a 53), .inr (2, [.int 0, .ref g.1, .int 0]))]) (fun _ => rfl) (fun q2 H locs hP hD hS => ?_)
  refine W.eq (g2 := F0 m 333 ls [.int 0]) rfl ?_
  refine lv_istore (lv' := [(7, .int 0), (6, .int 1), (5, .int 0), (4, .ref (a 72)), (3, .ref (a 71)), (2, .ref (a 52)), (1, .ref (a 0)), (0, .ref b)]) hx hb dL_law_333 hl (by decide) rfl (fun ls hl => ?_)
  refine lv_aload_n hx hb dL_law_335 rfl (lv_at hl 5 rfl) ?_
  refine ct_V (wr := []) hSF hl.1 hP hD hS hA hK hGV (c17_X12_thrown l hfl D cA g (a 52) (a 53) (a 54) (a 55) (a 56) (a 57) (a 58) (a 59) (a 60) (a 61) (a 62) (a 63) (a 64) (a 65) (a 66) (a 67) (a 68) (a 69) (a 70)) goV_L_125 pd_X12_thrown ⟨(Nat.le_of_ble_eq_true rfl), (Nat.le_of_ble_eq_true rfl)⟩ ⟨(Nat.le_of_ble_eq_true rfl), (Nat.le_of_ble_eq_true rfl)⟩ (va_recv hK hP (ci := 15) (q0 := 0) rfl rfl) dL_law_336 rfl (Nat.le_of_ble_eq_true rfl) [0] [] rfl (by decide) rfl (by decide) (by decide) (fun q => [((a 52), .inr (15, [.ref (a 53), .ref (a 54), .ref (a 55), .ref (a 56), .ref (a 57), .ref (a 58), .ref (a 59), .ref (a 60), .ref (a 61), .ref (a 62), .ref (a 63), .ref (a 64), .ref (a 65), .ref (a 66), .ref (a 67), .ref (a 68), .ref (a 69), .ref (a 70), .long 0, .int 1, .int 2, .int 0, .int 0, .int 0, .int 0, .int 0, .int 0]))]) (fun _ => rfl) (fun q3 H locs hP hD hS => ?_)
  refine W.eq (g2 := F0 m 339 ls [.int 1]) rfl ?_
  refine lv_iload hx hb dL_law_339 (lv_at hl 1 rfl) ?_
  refine k_icmp_eq_t (tgt := 346) hx hb dL_law_341 (by decide) (by decide) ?_
  refine lv_iload hx hb dL_law_346 (lv_at hl 1 rfl) ?_
  refine k_if_ne_t (tgt := 363) hx hb dL_law_348 (by decide) (by decide) ?_
  refine lv_goto (tgt := 1963) hx hb dL_law_363 (by decide) ?_
  exact law_tail l hL C0 (Nat.le_of_ble_eq_true rfl) (Nat.le_of_ble_eq_true rfl) hS (lv_sub hl [2, 7] rfl)
set_option maxHeartbeats 4000000 in
set_option maxRecDepth 100000 in
theorem lc_1_1 {p : Program} {e : Env} {s : State} {m : MethodId} {below : List Frame} {meth : Method} {c : Code} (l : Launch) (hfl : l.stackTraces = false) {b L : Nat} {xs : Nat → Int32} (hL : L = 6) (C0 : lw_At p s m meth c b L xs) (D : va_G) (cA : Nat → ClassId) (g : gv_T) (hK : va_K D vwCl (TYS cA) s) (hGV : GV g (fun q : Nat => s.heap.size ≤ q) s s.heap) (a : Nat → Nat) {H : Heap} {locs : List Loc} (hP : va_P D vwCl (WL cA g a) H) (hD : va_D (fun q : Nat => s.heap.size ≤ q) (WL cA g a)) (hS : va_S (fun q : Nat => s.heap.size ≤ q) s.heap H locs) {ls : Array Slot} (hl : lv_has ls 9 [(5, .int 0), (4, .ref (a 72)), (3, .ref (a 71)), (2, .ref (a 52)), (1, .ref (a 0)), (0, .ref b)]) (k0 : ¬ (xs 1) < 0) (k1 : ¬ (lg_cmp ((xs 1)).toInt64 0) < 0) (k2 : 0 < (lg_cmp ((xs 1)).toInt64 (-1))) : W p l e room_1 s m #[Value.ref b] below meth c H locs 73 8292 (lw_Z below #[Value.ref b] s) (F0 m 274 ls []) := by
  obtain ⟨hx, hb, hr, hml, hown, hts, hX, hbl, hlocks, hgv⟩ := id C0
  have hb : c.code = cL_law := hb
  have hown : s.vm.findClass RL = some m.cls := hown
  have hG : ∀ w ∈ GW, w.before #[Value.ref b] s = true := fun w hw => hts w (List.mem_filter.mp hw).1
  have hA : ∀ q : Nat, s.heap.size ≤ q → (fun q : Nat => s.heap.size ≤ q) q := fun _ h => h
  have hbA : ¬ (fun q : Nat => s.heap.size ≤ q) b := Nat.not_le.mpr hbl
  have hSF : CF p m c cL_law 9 s #[Value.ref b] RL := ⟨hx, hb, hml, hown, hG⟩
  have hP : va_P D vwCl [((a 0), .inr (9, [.ref (a 1), .ref (a 12), .ref (a 32), .ref (a 38), .ref (a 46)])), ((a 1), .inr (5, [.int 0, .int 0, .ref (a 2), .ref (a 3), .ref (a 4), .ref (a 5), .ref (a 6), .ref (a 7), .ref (a 8), .ref (a 9), .ref (a 10), .ref (a 11)])), ((a 52), .inr (15, [.ref (a 53), .ref (a 54), .ref (a 55), .ref (a 56), .ref (a 57), .ref (a 58), .ref (a 59), .ref (a 60), .ref (a 61), .ref (a 62), .ref (a 63), .ref (a 64), .ref (a 65), .ref (a 66), .ref (a 67), .ref (a 68), .ref (a 69), .ref (a 70), .long 0, .int 0, .int 2, .int 0, .int 0, .int 0, .int 0, .int 0, .int 0])), ((a 53), .inr (2, [.int 0, .ref g.1, .int 0]))] H := hP.sub [0, 1, 52, 53] rfl
  have hD : va_D (fun q : Nat => s.heap.size ≤ q) [((a 0), .inr (9, [.ref (a 1), .ref (a 12), .ref (a 32), .ref (a 38), .ref (a 46)])), ((a 1), .inr (5, [.int 0, .int 0, .ref (a 2), .ref (a 3), .ref (a 4), .ref (a 5), .ref (a 6), .ref (a 7), .ref (a 8), .ref (a 9), .ref (a 10), .ref (a 11)])), ((a 52), .inr (15, [.ref (a 53), .ref (a 54), .ref (a 55), .ref (a 56), .ref (a 57), .ref (a 58), .ref (a 59), .ref (a 60), .ref (a 61), .ref (a 62), .ref (a 63), .ref (a 64), .ref (a 65), .ref (a 66), .ref (a 67), .ref (a 68), .ref (a 69), .ref (a 70), .long 0, .int 0, .int 2, .int 0, .int 0, .int 0, .int 0, .int 0, .int 0])), ((a 53), .inr (2, [.int 0, .ref g.1, .int 0]))] := hD.sub [0, 1, 52, 53] (by decide) rfl
  have hl : lv_has ls 9 [(5, .int 0), (4, .ref (a 72)), (3, .ref (a 71)), (2, .ref (a 52)), (1, .ref (a 0)), (0, .ref b)] := hl
  refine lv_aload_n hx hb dL_law_274 rfl (lv_at hl 4 rfl) ?_
  refine lv_aload_n hx hb dL_law_275 rfl (lv_at hl 5 rfl) ?_
  refine lv_iload hx hb dL_law_276 (lv_at hl 0 rfl) ?_
  refine lv_iconst (v := 1) hx hb dL_law_278 (by decide) ?_
  refine k_iadd (v := 1) hx hb dL_law_279 (by decide) ?_
  refine k_script (x := (xs 1)) hx hb hX hbl hbA hS 1 (by decide) rfl (by subst hL; unfold vp_in; decide) dL_law_280 ?_
  refine lv_aload_n hx hb dL_law_281 rfl (lv_at hl 5 rfl) ?_
  refine lv_iload hx hb dL_law_282 (lv_at hl 0 rfl) ?_
  refine lv_iconst (v := 2) hx hb dL_law_284 (by decide) ?_
  refine k_iadd (v := 2) hx hb dL_law_285 (by decide) ?_
  refine k_script (x := (xs 2)) hx hb hX hbl hbA hS 2 (by decide) rfl (by subst hL; unfold vp_in; decide) dL_law_286 ?_
  refine lv_aload_n hx hb dL_law_287 rfl (lv_at hl 5 rfl) ?_
  refine lv_iload hx hb dL_law_288 (lv_at hl 0 rfl) ?_
  refine lv_iconst (v := 3) hx hb dL_law_290 (by decide) ?_
  refine k_iadd (v := 3) hx hb dL_law_291 (by decide) ?_
  refine k_script (x := (xs 3)) hx hb hX hbl hbA hS 3 (by decide) rfl (by subst hL; unfold vp_in; decide) dL_law_292 ?_
  refine lv_aload_n hx hb dL_law_293 rfl (lv_at hl 5 rfl) ?_
  refine lv_iload hx hb dL_law_294 (lv_at hl 0 rfl) ?_
  refine lv_iconst (v := 4) hx hb dL_law_296 (by decide) ?_
  refine k_iadd (v := 4) hx hb dL_law_297 (by decide) ?_
  refine k_script (x := (xs 4)) hx hb hX hbl hbA hS 4 (by decide) rfl (by subst hL; unfold vp_in; decide) dL_law_298 ?_
  refine lv_aload_n hx hb dL_law_299 rfl (lv_at hl 2 rfl) ?_
  refine ct_SW (wr := [((a 52), .inr (15, [.ref (a 53), .ref (a 54), .ref (a 55), .ref (a 56), .ref (a 57), .ref (a 58), .ref (a 59), .ref (a 60), .ref (a 61), .ref (a 62), .ref (a 63), .ref (a 64), .ref (a 65), .ref (a 66), .ref (a 67), .ref (a 68), .ref (a 69), .ref (a 70), .long 0, .int 0, .int 2, .int 0, .int 0, .int 0, .int 0, .int 0, .int 0])), ((a 53), .inr (2, [.int 0, .ref g.1, .int 0]))]) hSF hl.1 hP hD hS hA hK hGV (c99_L_member l hfl D cA g (a 0) (a 71) (a 1) (a 12) (a 32) (a 38) (a 46) (a 2) (a 3) (a 4) (a 5) (a 6) (a 7) (a 8) (a 9) (a 10) (a 11) ((xs 1)) ((xs 2)) ((xs 3)) ((xs 4)) k0) goW_L_128 pd_L_member.2 ⟨(Nat.le_of_ble_eq_true rfl), (Nat.le_of_ble_eq_true rfl)⟩ ⟨(Nat.le_of_ble_eq_true rfl), (Nat.le_of_ble_eq_true rfl)⟩ dL_law_300 rfl (Nat.le_of_ble_eq_true rfl) [0, 1] [2, 3] rfl (by decide) rfl (by decide) (by decide) (fun q => [((a 52), .inr (15, [.ref (a 53), .ref (a 54), .ref (a 55), .ref (a 56), .ref (a 57), .ref (a 58), .ref (a 59), .ref (a 60), .ref (a 61), .ref (a 62), .ref (a 63), .ref (a 64), .ref (a 65), .ref (a 66), .ref (a 67), .ref (a 68), .ref (a 69), .ref (a 70), .long 0, .int 0, .int 2, .int 0, .int 0, .int 0, .int 0, .int 0, .int 0])), ((a 53), .inr (2, [.int 0, .ref g.1, .int 0])), ((a 0), .inr (9, [.ref (a 1), .ref (a 12), .ref (a 32), .ref (a 38), .ref (a 46)])), ((a 1), .inr (5, [.int 0, .int 0, .ref (a 2), .ref (a 3), .ref (a 4), .ref (a 5), .ref (a 6), .ref (a 7), .ref (a 8), .ref (a 9), .ref (a 10), .ref (a 11)]))]) (fun _ => rfl) (fun q1 H locs hP hD hS => ?_)
  refine W.eq (g2 := F0 m 303 ls [.int 1]) rfl ?_
  refine lv_istore (lv' := [(6, .int 1), (5, .int 0), (4, .ref (a 72)), (3, .ref (a 71)), (2, .ref (a 52)), (1, .ref (a 0)), (0, .ref b)]) hx hb dL_law_303 hl (by decide) rfl (fun ls hl => ?_)
  refine lv_aload_n hx hb dL_law_305 rfl (lv_at hl 4 rfl) ?_
  refine lv_aload_n hx hb dL_law_306 rfl (lv_at hl 6 rfl) ?_
  refine lv_iload hx hb dL_law_307 (lv_at hl 1 rfl) ?_
  refine lv_iconst (v := 1) hx hb dL_law_309 (by decide) ?_
  refine k_iadd (v := 1) hx hb dL_law_310 (by decide) ?_
  refine k_script (x := (xs 1)) hx hb hX hbl hbA hS 1 (by decide) rfl (by subst hL; unfold vp_in; decide) dL_law_311 ?_
  refine lv_aload_n hx hb dL_law_312 rfl (lv_at hl 6 rfl) ?_
  refine lv_iload hx hb dL_law_313 (lv_at hl 1 rfl) ?_
  refine lv_iconst (v := 2) hx hb dL_law_315 (by decide) ?_
  refine k_iadd (v := 2) hx hb dL_law_316 (by decide) ?_
  refine k_script (x := (xs 2)) hx hb hX hbl hbA hS 2 (by decide) rfl (by subst hL; unfold vp_in; decide) dL_law_317 ?_
  refine lv_aload_n hx hb dL_law_318 rfl (lv_at hl 6 rfl) ?_
  refine lv_iload hx hb dL_law_319 (lv_at hl 1 rfl) ?_
  refine lv_iconst (v := 3) hx hb dL_law_321 (by decide) ?_
  refine k_iadd (v := 3) hx hb dL_law_322 (by decide) ?_
  refine k_script (x := (xs 3)) hx hb hX hbl hbA hS 3 (by decide) rfl (by subst hL; unfold vp_in; decide) dL_law_323 ?_
  refine lv_aload_n hx hb dL_law_324 rfl (lv_at hl 6 rfl) ?_
  refine lv_iload hx hb dL_law_325 (lv_at hl 1 rfl) ?_
  refine lv_iconst (v := 4) hx hb dL_law_327 (by decide) ?_
  refine k_iadd (v := 4) hx hb dL_law_328 (by decide) ?_
  refine k_script (x := (xs 4)) hx hb hX hbl hbA hS 4 (by decide) rfl (by subst hL; unfold vp_in; decide) dL_law_329 ?_
  refine ct_V (wr := []) hSF hl.1 hP hD hS hA hK hGV (c102_X12_member l hfl D cA g (a 52) (a 53) (a 54) (a 55) (a 56) (a 57) (a 58) (a 59) (a 60) (a 61) (a 62) (a 63) (a 64) (a 65) (a 66) (a 67) (a 68) (a 69) (a 70) ((xs 1)) ((xs 2)) ((xs 3)) ((xs 4)) k1 k2) goV_L_131 pd_X12_member ⟨(Nat.le_of_ble_eq_true rfl), (Nat.le_of_ble_eq_true rfl)⟩ ⟨(Nat.le_of_ble_eq_true rfl), (Nat.le_of_ble_eq_true rfl)⟩ (va_recv hK hP (ci := 15) (q0 := 0) rfl rfl) dL_law_330 rfl (Nat.le_of_ble_eq_true rfl) [0, 1] [] rfl (by decide) rfl (by decide) (by decide) (fun q => [((a 52), .inr (15, [.ref (a 53), .ref (a 54), .ref (a 55), .ref (a 56), .ref (a 57), .ref (a 58), .ref (a 59), .ref (a 60), .ref (a 61), .ref (a 62), .ref (a 63), .ref (a 64), .ref (a 65), .ref (a 66), .ref (a 67), .ref (a 68), .ref (a 69), .ref (a 70), .long 0, .int 1, .int 2, .int 0, .int 0, .int 0, .int 0, .int 0, .int 0])), ((a 53), .inr (2, [.int 0, .ref g.1, .int 0]))]) (fun _ => rfl) (fun q2 H locs hP hD hS => ?_)
  refine W.eq (g2 := F0 m 333 ls [.int 0]) rfl ?_
  refine lv_istore (lv' := [(7, .int 0), (6, .int 1), (5, .int 0), (4, .ref (a 72)), (3, .ref (a 71)), (2, .ref (a 52)), (1, .ref (a 0)), (0, .ref b)]) hx hb dL_law_333 hl (by decide) rfl (fun ls hl => ?_)
  refine lv_aload_n hx hb dL_law_335 rfl (lv_at hl 5 rfl) ?_
  refine ct_V (wr := []) hSF hl.1 hP hD hS hA hK hGV (c17_X12_thrown l hfl D cA g (a 52) (a 53) (a 54) (a 55) (a 56) (a 57) (a 58) (a 59) (a 60) (a 61) (a 62) (a 63) (a 64) (a 65) (a 66) (a 67) (a 68) (a 69) (a 70)) goV_L_125 pd_X12_thrown ⟨(Nat.le_of_ble_eq_true rfl), (Nat.le_of_ble_eq_true rfl)⟩ ⟨(Nat.le_of_ble_eq_true rfl), (Nat.le_of_ble_eq_true rfl)⟩ (va_recv hK hP (ci := 15) (q0 := 0) rfl rfl) dL_law_336 rfl (Nat.le_of_ble_eq_true rfl) [0] [] rfl (by decide) rfl (by decide) (by decide) (fun q => [((a 52), .inr (15, [.ref (a 53), .ref (a 54), .ref (a 55), .ref (a 56), .ref (a 57), .ref (a 58), .ref (a 59), .ref (a 60), .ref (a 61), .ref (a 62), .ref (a 63), .ref (a 64), .ref (a 65), .ref (a 66), .ref (a 67), .ref (a 68), .ref (a 69), .ref (a 70), .long 0, .int 1, .int 2, .int 0, .int 0, .int 0, .int 0, .int 0, .int 0]))]) (fun _ => rfl) (fun q3 H locs hP hD hS => ?_)
  refine W.eq (g2 := F0 m 339 ls [.int 1]) rfl ?_
  refine lv_iload hx hb dL_law_339 (lv_at hl 1 rfl) ?_
  refine k_icmp_eq_t (tgt := 346) hx hb dL_law_341 (by decide) (by decide) ?_
  refine lv_iload hx hb dL_law_346 (lv_at hl 1 rfl) ?_
  refine k_if_ne_t (tgt := 363) hx hb dL_law_348 (by decide) (by decide) ?_
  refine lv_goto (tgt := 1963) hx hb dL_law_363 (by decide) ?_
  exact law_tail l hL C0 (Nat.le_of_ble_eq_true rfl) (Nat.le_of_ble_eq_true rfl) hS (lv_sub hl [2, 7] rfl)
set_option maxHeartbeats 4000000 in
set_option maxRecDepth 100000 in
theorem lc_2_0 {p : Program} {e : Env} {s : State} {m : MethodId} {below : List Frame} {meth : Method} {c : Code} (l : Launch) (hfl : l.stackTraces = false) {b L : Nat} {xs : Nat → Int32} (hL : L = 6) (C0 : lw_At p s m meth c b L xs) (D : va_G) (cA : Nat → ClassId) (g : gv_T) (hK : va_K D vwCl (TYS cA) s) (hGV : GV g (fun q : Nat => s.heap.size ≤ q) s s.heap) (a : Nat → Nat) {H : Heap} {locs : List Loc} (hP : va_P D vwCl (WL cA g a) H) (hD : va_D (fun q : Nat => s.heap.size ≤ q) (WL cA g a)) (hS : va_S (fun q : Nat => s.heap.size ≤ q) s.heap H locs) {ls : Array Slot} (hl : lv_has ls 9 [(5, .int 0), (4, .ref (a 72)), (3, .ref (a 71)), (2, .ref (a 52)), (1, .ref (a 0)), (0, .ref b)]) (k0 : (xs 1) < 0) (k1 : (lg_cmp ((xs 1)).toInt64 0) < 0) : W p l e room_1 s m #[Value.ref b] below meth c H locs 73 8292 (lw_Z below #[Value.ref b] s) (F0 m 366 ls []) := by
  obtain ⟨hx, hb, hr, hml, hown, hts, hX, hbl, hlocks, hgv⟩ := id C0
  have hb : c.code = cL_law := hb
  have hown : s.vm.findClass RL = some m.cls := hown
  have hG : ∀ w ∈ GW, w.before #[Value.ref b] s = true := fun w hw => hts w (List.mem_filter.mp hw).1
  have hA : ∀ q : Nat, s.heap.size ≤ q → (fun q : Nat => s.heap.size ≤ q) q := fun _ h => h
  have hbA : ¬ (fun q : Nat => s.heap.size ≤ q) b := Nat.not_le.mpr hbl
  have hSF : CF p m c cL_law 9 s #[Value.ref b] RL := ⟨hx, hb, hml, hown, hG⟩
  have hP : va_P D vwCl [((a 0), .inr (9, [.ref (a 1), .ref (a 12), .ref (a 32), .ref (a 38), .ref (a 46)])), ((a 52), .inr (15, [.ref (a 53), .ref (a 54), .ref (a 55), .ref (a 56), .ref (a 57), .ref (a 58), .ref (a 59), .ref (a 60), .ref (a 61), .ref (a 62), .ref (a 63), .ref (a 64), .ref (a 65), .ref (a 66), .ref (a 67), .ref (a 68), .ref (a 69), .ref (a 70), .long 0, .int 0, .int 2, .int 0, .int 0, .int 0, .int 0, .int 0, .int 0])), ((a 53), .inr (2, [.int 0, .ref g.1, .int 0]))] H := hP.sub [0, 52, 53] rfl
  have hD : va_D (fun q : Nat => s.heap.size ≤ q) [((a 0), .inr (9, [.ref (a 1), .ref (a 12), .ref (a 32), .ref (a 38), .ref (a 46)])), ((a 52), .inr (15, [.ref (a 53), .ref (a 54), .ref (a 55), .ref (a 56), .ref (a 57), .ref (a 58), .ref (a 59), .ref (a 60), .ref (a 61), .ref (a 62), .ref (a 63), .ref (a 64), .ref (a 65), .ref (a 66), .ref (a 67), .ref (a 68), .ref (a 69), .ref (a 70), .long 0, .int 0, .int 2, .int 0, .int 0, .int 0, .int 0, .int 0, .int 0])), ((a 53), .inr (2, [.int 0, .ref g.1, .int 0]))] := hD.sub [0, 52, 53] (by decide) rfl
  have hl : lv_has ls 9 [(5, .int 0), (4, .ref (a 72)), (3, .ref (a 71)), (2, .ref (a 52)), (1, .ref (a 0)), (0, .ref b)] := hl
  refine lv_aload_n hx hb dL_law_366 rfl (lv_at hl 4 rfl) ?_
  refine lv_aload_n hx hb dL_law_367 rfl (lv_at hl 5 rfl) ?_
  refine lv_iload hx hb dL_law_368 (lv_at hl 0 rfl) ?_
  refine lv_iconst (v := 1) hx hb dL_law_370 (by decide) ?_
  refine k_iadd (v := 1) hx hb dL_law_371 (by decide) ?_
  refine k_script (x := (xs 1)) hx hb hX hbl hbA hS 1 (by decide) rfl (by subst hL; unfold vp_in; decide) dL_law_372 ?_
  refine lv_aload_n hx hb dL_law_373 rfl (lv_at hl 5 rfl) ?_
  refine lv_iload hx hb dL_law_374 (lv_at hl 0 rfl) ?_
  refine lv_iconst (v := 2) hx hb dL_law_376 (by decide) ?_
  refine k_iadd (v := 2) hx hb dL_law_377 (by decide) ?_
  refine k_script (x := (xs 2)) hx hb hX hbl hbA hS 2 (by decide) rfl (by subst hL; unfold vp_in; decide) dL_law_378 ?_
  refine lv_aload_n hx hb dL_law_379 rfl (lv_at hl 5 rfl) ?_
  refine lv_iload hx hb dL_law_380 (lv_at hl 0 rfl) ?_
  refine lv_iconst (v := 3) hx hb dL_law_382 (by decide) ?_
  refine k_iadd (v := 3) hx hb dL_law_383 (by decide) ?_
  refine k_script (x := (xs 3)) hx hb hX hbl hbA hS 3 (by decide) rfl (by subst hL; unfold vp_in; decide) dL_law_384 ?_
  refine lv_aload_n hx hb dL_law_385 rfl (lv_at hl 2 rfl) ?_
  refine ct_SW (wr := [((a 52), .inr (15, [.ref (a 53), .ref (a 54), .ref (a 55), .ref (a 56), .ref (a 57), .ref (a 58), .ref (a 59), .ref (a 60), .ref (a 61), .ref (a 62), .ref (a 63), .ref (a 64), .ref (a 65), .ref (a 66), .ref (a 67), .ref (a 68), .ref (a 69), .ref (a 70), .long 0, .int 0, .int 2, .int 0, .int 0, .int 0, .int 0, .int 0, .int 0])), ((a 53), .inr (2, [.int 0, .ref g.1, .int 0]))]) hSF hl.1 hP hD hS hA hK hGV (c104_L_load l hfl D cA g (a 0) (a 71) (a 1) (a 12) (a 32) (a 38) (a 46) ((xs 1)) ((xs 2)) ((xs 3)) k0) goW_L_132 pd_L_load.2 ⟨(Nat.le_of_ble_eq_true rfl), (Nat.le_of_ble_eq_true rfl)⟩ ⟨(Nat.le_of_ble_eq_true rfl), (Nat.le_of_ble_eq_true rfl)⟩ dL_law_386 rfl (Nat.le_of_ble_eq_true rfl) [0] [1, 2] rfl (by decide) rfl (by decide) (by decide) (fun q => [((a 52), .inr (15, [.ref (a 53), .ref (a 54), .ref (a 55), .ref (a 56), .ref (a 57), .ref (a 58), .ref (a 59), .ref (a 60), .ref (a 61), .ref (a 62), .ref (a 63), .ref (a 64), .ref (a 65), .ref (a 66), .ref (a 67), .ref (a 68), .ref (a 69), .ref (a 70), .long 0, .int 0, .int 2, .int 0, .int 0, .int 0, .int 0, .int 0, .int 0])), ((a 53), .inr (2, [.int 0, .ref g.1, .int 0])), ((a 0), .inr (9, [.ref (a 1), .ref (a 12), .ref (a 32), .ref (a 38), .ref (a 46)]))]) (fun _ => rfl) (fun q1 H locs hP hD hS => ?_)
  refine W.eq (g2 := F0 m 389 ls [.int 1]) rfl ?_
  refine lv_istore (lv' := [(6, .int 1), (5, .int 0), (4, .ref (a 72)), (3, .ref (a 71)), (2, .ref (a 52)), (1, .ref (a 0)), (0, .ref b)]) hx hb dL_law_389 hl (by decide) rfl (fun ls hl => ?_)
  refine lv_aload_n hx hb dL_law_391 rfl (lv_at hl 4 rfl) ?_
  refine lv_aload_n hx hb dL_law_392 rfl (lv_at hl 6 rfl) ?_
  refine lv_iload hx hb dL_law_393 (lv_at hl 1 rfl) ?_
  refine lv_iconst (v := 1) hx hb dL_law_395 (by decide) ?_
  refine k_iadd (v := 1) hx hb dL_law_396 (by decide) ?_
  refine k_script (x := (xs 1)) hx hb hX hbl hbA hS 1 (by decide) rfl (by subst hL; unfold vp_in; decide) dL_law_397 ?_
  refine lv_aload_n hx hb dL_law_398 rfl (lv_at hl 6 rfl) ?_
  refine lv_iload hx hb dL_law_399 (lv_at hl 1 rfl) ?_
  refine lv_iconst (v := 2) hx hb dL_law_401 (by decide) ?_
  refine k_iadd (v := 2) hx hb dL_law_402 (by decide) ?_
  refine k_script (x := (xs 2)) hx hb hX hbl hbA hS 2 (by decide) rfl (by subst hL; unfold vp_in; decide) dL_law_403 ?_
  refine lv_aload_n hx hb dL_law_404 rfl (lv_at hl 6 rfl) ?_
  refine lv_iload hx hb dL_law_405 (lv_at hl 1 rfl) ?_
  refine lv_iconst (v := 3) hx hb dL_law_407 (by decide) ?_
  refine k_iadd (v := 3) hx hb dL_law_408 (by decide) ?_
  refine k_script (x := (xs 3)) hx hb hX hbl hbA hS 3 (by decide) rfl (by subst hL; unfold vp_in; decide) dL_law_409 ?_
  refine ct_V (wr := []) hSF hl.1 hP hD hS hA hK hGV (c105_X12_load l hfl D cA g (a 52) (a 53) (a 54) (a 55) (a 56) (a 57) (a 58) (a 59) (a 60) (a 61) (a 62) (a 63) (a 64) (a 65) (a 66) (a 67) (a 68) (a 69) (a 70) ((xs 1)) ((xs 2)) ((xs 3)) k1) goV_L_135 pd_X12_load ⟨(Nat.le_of_ble_eq_true rfl), (Nat.le_of_ble_eq_true rfl)⟩ ⟨(Nat.le_of_ble_eq_true rfl), (Nat.le_of_ble_eq_true rfl)⟩ (va_recv hK hP (ci := 15) (q0 := 0) rfl rfl) dL_law_410 rfl (Nat.le_of_ble_eq_true rfl) [0, 1] [] rfl (by decide) rfl (by decide) (by decide) (fun q => [((a 52), .inr (15, [.ref (a 53), .ref (a 54), .ref (a 55), .ref (a 56), .ref (a 57), .ref (a 58), .ref (a 59), .ref (a 60), .ref (a 61), .ref (a 62), .ref (a 63), .ref (a 64), .ref (a 65), .ref (a 66), .ref (a 67), .ref (a 68), .ref (a 69), .ref (a 70), .long 0, .int 1, .int 2, .int 0, .int 0, .int 0, .int 0, .int 0, .int 0])), ((a 53), .inr (2, [.int 0, .ref g.1, .int 0]))]) (fun _ => rfl) (fun q2 H locs hP hD hS => ?_)
  refine W.eq (g2 := F0 m 413 ls [.int 0]) rfl ?_
  refine lv_istore (lv' := [(7, .int 0), (6, .int 1), (5, .int 0), (4, .ref (a 72)), (3, .ref (a 71)), (2, .ref (a 52)), (1, .ref (a 0)), (0, .ref b)]) hx hb dL_law_413 hl (by decide) rfl (fun ls hl => ?_)
  refine lv_aload_n hx hb dL_law_415 rfl (lv_at hl 5 rfl) ?_
  refine ct_V (wr := []) hSF hl.1 hP hD hS hA hK hGV (c17_X12_thrown l hfl D cA g (a 52) (a 53) (a 54) (a 55) (a 56) (a 57) (a 58) (a 59) (a 60) (a 61) (a 62) (a 63) (a 64) (a 65) (a 66) (a 67) (a 68) (a 69) (a 70)) goV_L_125 pd_X12_thrown ⟨(Nat.le_of_ble_eq_true rfl), (Nat.le_of_ble_eq_true rfl)⟩ ⟨(Nat.le_of_ble_eq_true rfl), (Nat.le_of_ble_eq_true rfl)⟩ (va_recv hK hP (ci := 15) (q0 := 0) rfl rfl) dL_law_416 rfl (Nat.le_of_ble_eq_true rfl) [0] [] rfl (by decide) rfl (by decide) (by decide) (fun q => [((a 52), .inr (15, [.ref (a 53), .ref (a 54), .ref (a 55), .ref (a 56), .ref (a 57), .ref (a 58), .ref (a 59), .ref (a 60), .ref (a 61), .ref (a 62), .ref (a 63), .ref (a 64), .ref (a 65), .ref (a 66), .ref (a 67), .ref (a 68), .ref (a 69), .ref (a 70), .long 0, .int 1, .int 2, .int 0, .int 0, .int 0, .int 0, .int 0, .int 0]))]) (fun _ => rfl) (fun q3 H locs hP hD hS => ?_)
  refine W.eq (g2 := F0 m 419 ls [.int 1]) rfl ?_
  refine lv_iload hx hb dL_law_419 (lv_at hl 1 rfl) ?_
  refine k_icmp_eq_t (tgt := 426) hx hb dL_law_421 (by decide) (by decide) ?_
  refine lv_iload hx hb dL_law_426 (lv_at hl 1 rfl) ?_
  refine k_if_ne_t (tgt := 443) hx hb dL_law_428 (by decide) (by decide) ?_
  refine lv_goto (tgt := 1963) hx hb dL_law_443 (by decide) ?_
  exact law_tail l hL C0 (Nat.le_of_ble_eq_true rfl) (Nat.le_of_ble_eq_true rfl) hS (lv_sub hl [2, 7] rfl)
set_option maxHeartbeats 4000000 in
set_option maxRecDepth 100000 in
theorem lc_2_1 {p : Program} {e : Env} {s : State} {m : MethodId} {below : List Frame} {meth : Method} {c : Code} (l : Launch) (hfl : l.stackTraces = false) {b L : Nat} {xs : Nat → Int32} (hL : L = 6) (C0 : lw_At p s m meth c b L xs) (D : va_G) (cA : Nat → ClassId) (g : gv_T) (hK : va_K D vwCl (TYS cA) s) (hGV : GV g (fun q : Nat => s.heap.size ≤ q) s s.heap) (a : Nat → Nat) {H : Heap} {locs : List Loc} (hP : va_P D vwCl (WL cA g a) H) (hD : va_D (fun q : Nat => s.heap.size ≤ q) (WL cA g a)) (hS : va_S (fun q : Nat => s.heap.size ≤ q) s.heap H locs) {ls : Array Slot} (hl : lv_has ls 9 [(5, .int 0), (4, .ref (a 72)), (3, .ref (a 71)), (2, .ref (a 52)), (1, .ref (a 0)), (0, .ref b)]) (k0 : ¬ (xs 1) < 0) (k1 : ¬ (lg_cmp ((xs 1)).toInt64 0) < 0) (k2 : 0 < (lg_cmp ((xs 1)).toInt64 (-1))) : W p l e room_1 s m #[Value.ref b] below meth c H locs 73 8292 (lw_Z below #[Value.ref b] s) (F0 m 366 ls []) := by
  obtain ⟨hx, hb, hr, hml, hown, hts, hX, hbl, hlocks, hgv⟩ := id C0
  have hb : c.code = cL_law := hb
  have hown : s.vm.findClass RL = some m.cls := hown
  have hG : ∀ w ∈ GW, w.before #[Value.ref b] s = true := fun w hw => hts w (List.mem_filter.mp hw).1
  have hA : ∀ q : Nat, s.heap.size ≤ q → (fun q : Nat => s.heap.size ≤ q) q := fun _ h => h
  have hbA : ¬ (fun q : Nat => s.heap.size ≤ q) b := Nat.not_le.mpr hbl
  have hSF : CF p m c cL_law 9 s #[Value.ref b] RL := ⟨hx, hb, hml, hown, hG⟩
  have hP : va_P D vwCl [((a 0), .inr (9, [.ref (a 1), .ref (a 12), .ref (a 32), .ref (a 38), .ref (a 46)])), ((a 1), .inr (5, [.int 0, .int 0, .ref (a 2), .ref (a 3), .ref (a 4), .ref (a 5), .ref (a 6), .ref (a 7), .ref (a 8), .ref (a 9), .ref (a 10), .ref (a 11)])), ((a 52), .inr (15, [.ref (a 53), .ref (a 54), .ref (a 55), .ref (a 56), .ref (a 57), .ref (a 58), .ref (a 59), .ref (a 60), .ref (a 61), .ref (a 62), .ref (a 63), .ref (a 64), .ref (a 65), .ref (a 66), .ref (a 67), .ref (a 68), .ref (a 69), .ref (a 70), .long 0, .int 0, .int 2, .int 0, .int 0, .int 0, .int 0, .int 0, .int 0])), ((a 53), .inr (2, [.int 0, .ref g.1, .int 0]))] H := hP.sub [0, 1, 52, 53] rfl
  have hD : va_D (fun q : Nat => s.heap.size ≤ q) [((a 0), .inr (9, [.ref (a 1), .ref (a 12), .ref (a 32), .ref (a 38), .ref (a 46)])), ((a 1), .inr (5, [.int 0, .int 0, .ref (a 2), .ref (a 3), .ref (a 4), .ref (a 5), .ref (a 6), .ref (a 7), .ref (a 8), .ref (a 9), .ref (a 10), .ref (a 11)])), ((a 52), .inr (15, [.ref (a 53), .ref (a 54), .ref (a 55), .ref (a 56), .ref (a 57), .ref (a 58), .ref (a 59), .ref (a 60), .ref (a 61), .ref (a 62), .ref (a 63), .ref (a 64), .ref (a 65), .ref (a 66), .ref (a 67), .ref (a 68), .ref (a 69), .ref (a 70), .long 0, .int 0, .int 2, .int 0, .int 0, .int 0, .int 0, .int 0, .int 0])), ((a 53), .inr (2, [.int 0, .ref g.1, .int 0]))] := hD.sub [0, 1, 52, 53] (by decide) rfl
  have hl : lv_has ls 9 [(5, .int 0), (4, .ref (a 72)), (3, .ref (a 71)), (2, .ref (a 52)), (1, .ref (a 0)), (0, .ref b)] := hl
  refine lv_aload_n hx hb dL_law_366 rfl (lv_at hl 4 rfl) ?_
  refine lv_aload_n hx hb dL_law_367 rfl (lv_at hl 5 rfl) ?_
  refine lv_iload hx hb dL_law_368 (lv_at hl 0 rfl) ?_
  refine lv_iconst (v := 1) hx hb dL_law_370 (by decide) ?_
  refine k_iadd (v := 1) hx hb dL_law_371 (by decide) ?_
  refine k_script (x := (xs 1)) hx hb hX hbl hbA hS 1 (by decide) rfl (by subst hL; unfold vp_in; decide) dL_law_372 ?_
  refine lv_aload_n hx hb dL_law_373 rfl (lv_at hl 5 rfl) ?_
  refine lv_iload hx hb dL_law_374 (lv_at hl 0 rfl) ?_
  refine lv_iconst (v := 2) hx hb dL_law_376 (by decide) ?_
  refine k_iadd (v := 2) hx hb dL_law_377 (by decide) ?_
  refine k_script (x := (xs 2)) hx hb hX hbl hbA hS 2 (by decide) rfl (by subst hL; unfold vp_in; decide) dL_law_378 ?_
  refine lv_aload_n hx hb dL_law_379 rfl (lv_at hl 5 rfl) ?_
  refine lv_iload hx hb dL_law_380 (lv_at hl 0 rfl) ?_
  refine lv_iconst (v := 3) hx hb dL_law_382 (by decide) ?_
  refine k_iadd (v := 3) hx hb dL_law_383 (by decide) ?_
  refine k_script (x := (xs 3)) hx hb hX hbl hbA hS 3 (by decide) rfl (by subst hL; unfold vp_in; decide) dL_law_384 ?_
  refine lv_aload_n hx hb dL_law_385 rfl (lv_at hl 2 rfl) ?_
  refine ct_SW (wr := [((a 52), .inr (15, [.ref (a 53), .ref (a 54), .ref (a 55), .ref (a 56), .ref (a 57), .ref (a 58), .ref (a 59), .ref (a 60), .ref (a 61), .ref (a 62), .ref (a 63), .ref (a 64), .ref (a 65), .ref (a 66), .ref (a 67), .ref (a 68), .ref (a 69), .ref (a 70), .long 0, .int 0, .int 2, .int 0, .int 0, .int 0, .int 0, .int 0, .int 0])), ((a 53), .inr (2, [.int 0, .ref g.1, .int 0]))]) hSF hl.1 hP hD hS hA hK hGV (c107_L_load l hfl D cA g (a 0) (a 71) (a 1) (a 12) (a 32) (a 38) (a 46) (a 2) (a 3) (a 4) (a 5) (a 6) (a 7) (a 8) (a 9) (a 10) (a 11) ((xs 1)) ((xs 2)) ((xs 3)) k0) goW_L_132 pd_L_load.2 ⟨(Nat.le_of_ble_eq_true rfl), (Nat.le_of_ble_eq_true rfl)⟩ ⟨(Nat.le_of_ble_eq_true rfl), (Nat.le_of_ble_eq_true rfl)⟩ dL_law_386 rfl (Nat.le_of_ble_eq_true rfl) [0, 1] [2, 3] rfl (by decide) rfl (by decide) (by decide) (fun q => [((a 52), .inr (15, [.ref (a 53), .ref (a 54), .ref (a 55), .ref (a 56), .ref (a 57), .ref (a 58), .ref (a 59), .ref (a 60), .ref (a 61), .ref (a 62), .ref (a 63), .ref (a 64), .ref (a 65), .ref (a 66), .ref (a 67), .ref (a 68), .ref (a 69), .ref (a 70), .long 0, .int 0, .int 2, .int 0, .int 0, .int 0, .int 0, .int 0, .int 0])), ((a 53), .inr (2, [.int 0, .ref g.1, .int 0])), ((a 0), .inr (9, [.ref (a 1), .ref (a 12), .ref (a 32), .ref (a 38), .ref (a 46)])), ((a 1), .inr (5, [.int 0, .int 0, .ref (a 2), .ref (a 3), .ref (a 4), .ref (a 5), .ref (a 6), .ref (a 7), .ref (a 8), .ref (a 9), .ref (a 10), .ref (a 11)]))]) (fun _ => rfl) (fun q1 H locs hP hD hS => ?_)
  refine W.eq (g2 := F0 m 389 ls [.int 1]) rfl ?_
  refine lv_istore (lv' := [(6, .int 1), (5, .int 0), (4, .ref (a 72)), (3, .ref (a 71)), (2, .ref (a 52)), (1, .ref (a 0)), (0, .ref b)]) hx hb dL_law_389 hl (by decide) rfl (fun ls hl => ?_)
  refine lv_aload_n hx hb dL_law_391 rfl (lv_at hl 4 rfl) ?_
  refine lv_aload_n hx hb dL_law_392 rfl (lv_at hl 6 rfl) ?_
  refine lv_iload hx hb dL_law_393 (lv_at hl 1 rfl) ?_
  refine lv_iconst (v := 1) hx hb dL_law_395 (by decide) ?_
  refine k_iadd (v := 1) hx hb dL_law_396 (by decide) ?_
  refine k_script (x := (xs 1)) hx hb hX hbl hbA hS 1 (by decide) rfl (by subst hL; unfold vp_in; decide) dL_law_397 ?_
  refine lv_aload_n hx hb dL_law_398 rfl (lv_at hl 6 rfl) ?_
  refine lv_iload hx hb dL_law_399 (lv_at hl 1 rfl) ?_
  refine lv_iconst (v := 2) hx hb dL_law_401 (by decide) ?_
  refine k_iadd (v := 2) hx hb dL_law_402 (by decide) ?_
  refine k_script (x := (xs 2)) hx hb hX hbl hbA hS 2 (by decide) rfl (by subst hL; unfold vp_in; decide) dL_law_403 ?_
  refine lv_aload_n hx hb dL_law_404 rfl (lv_at hl 6 rfl) ?_
  refine lv_iload hx hb dL_law_405 (lv_at hl 1 rfl) ?_
  refine lv_iconst (v := 3) hx hb dL_law_407 (by decide) ?_
  refine k_iadd (v := 3) hx hb dL_law_408 (by decide) ?_
  refine k_script (x := (xs 3)) hx hb hX hbl hbA hS 3 (by decide) rfl (by subst hL; unfold vp_in; decide) dL_law_409 ?_
  refine ct_V (wr := []) hSF hl.1 hP hD hS hA hK hGV (c108_X12_load l hfl D cA g (a 52) (a 53) (a 54) (a 55) (a 56) (a 57) (a 58) (a 59) (a 60) (a 61) (a 62) (a 63) (a 64) (a 65) (a 66) (a 67) (a 68) (a 69) (a 70) ((xs 1)) ((xs 2)) ((xs 3)) k1 k2) goV_L_135 pd_X12_load ⟨(Nat.le_of_ble_eq_true rfl), (Nat.le_of_ble_eq_true rfl)⟩ ⟨(Nat.le_of_ble_eq_true rfl), (Nat.le_of_ble_eq_true rfl)⟩ (va_recv hK hP (ci := 15) (q0 := 0) rfl rfl) dL_law_410 rfl (Nat.le_of_ble_eq_true rfl) [0, 1] [] rfl (by decide) rfl (by decide) (by decide) (fun q => [((a 52), .inr (15, [.ref (a 53), .ref (a 54), .ref (a 55), .ref (a 56), .ref (a 57), .ref (a 58), .ref (a 59), .ref (a 60), .ref (a 61), .ref (a 62), .ref (a 63), .ref (a 64), .ref (a 65), .ref (a 66), .ref (a 67), .ref (a 68), .ref (a 69), .ref (a 70), .long 0, .int 1, .int 2, .int 0, .int 0, .int 0, .int 0, .int 0, .int 0])), ((a 53), .inr (2, [.int 0, .ref g.1, .int 0]))]) (fun _ => rfl) (fun q2 H locs hP hD hS => ?_)
  refine W.eq (g2 := F0 m 413 ls [.int 0]) rfl ?_
  refine lv_istore (lv' := [(7, .int 0), (6, .int 1), (5, .int 0), (4, .ref (a 72)), (3, .ref (a 71)), (2, .ref (a 52)), (1, .ref (a 0)), (0, .ref b)]) hx hb dL_law_413 hl (by decide) rfl (fun ls hl => ?_)
  refine lv_aload_n hx hb dL_law_415 rfl (lv_at hl 5 rfl) ?_
  refine ct_V (wr := []) hSF hl.1 hP hD hS hA hK hGV (c17_X12_thrown l hfl D cA g (a 52) (a 53) (a 54) (a 55) (a 56) (a 57) (a 58) (a 59) (a 60) (a 61) (a 62) (a 63) (a 64) (a 65) (a 66) (a 67) (a 68) (a 69) (a 70)) goV_L_125 pd_X12_thrown ⟨(Nat.le_of_ble_eq_true rfl), (Nat.le_of_ble_eq_true rfl)⟩ ⟨(Nat.le_of_ble_eq_true rfl), (Nat.le_of_ble_eq_true rfl)⟩ (va_recv hK hP (ci := 15) (q0 := 0) rfl rfl) dL_law_416 rfl (Nat.le_of_ble_eq_true rfl) [0] [] rfl (by decide) rfl (by decide) (by decide) (fun q => [((a 52), .inr (15, [.ref (a 53), .ref (a 54), .ref (a 55), .ref (a 56), .ref (a 57), .ref (a 58), .ref (a 59), .ref (a 60), .ref (a 61), .ref (a 62), .ref (a 63), .ref (a 64), .ref (a 65), .ref (a 66), .ref (a 67), .ref (a 68), .ref (a 69), .ref (a 70), .long 0, .int 1, .int 2, .int 0, .int 0, .int 0, .int 0, .int 0, .int 0]))]) (fun _ => rfl) (fun q3 H locs hP hD hS => ?_)
  refine W.eq (g2 := F0 m 419 ls [.int 1]) rfl ?_
  refine lv_iload hx hb dL_law_419 (lv_at hl 1 rfl) ?_
  refine k_icmp_eq_t (tgt := 426) hx hb dL_law_421 (by decide) (by decide) ?_
  refine lv_iload hx hb dL_law_426 (lv_at hl 1 rfl) ?_
  refine k_if_ne_t (tgt := 443) hx hb dL_law_428 (by decide) (by decide) ?_
  refine lv_goto (tgt := 1963) hx hb dL_law_443 (by decide) ?_
  exact law_tail l hL C0 (Nat.le_of_ble_eq_true rfl) (Nat.le_of_ble_eq_true rfl) hS (lv_sub hl [2, 7] rfl)
set_option maxHeartbeats 4000000 in
set_option maxRecDepth 100000 in
theorem lc_3_0 {p : Program} {e : Env} {s : State} {m : MethodId} {below : List Frame} {meth : Method} {c : Code} (l : Launch) (hfl : l.stackTraces = false) {b L : Nat} {xs : Nat → Int32} (hL : L = 6) (C0 : lw_At p s m meth c b L xs) (D : va_G) (cA : Nat → ClassId) (g : gv_T) (hK : va_K D vwCl (TYS cA) s) (hGV : GV g (fun q : Nat => s.heap.size ≤ q) s s.heap) (a : Nat → Nat) {H : Heap} {locs : List Loc} (hP : va_P D vwCl (WL cA g a) H) (hD : va_D (fun q : Nat => s.heap.size ≤ q) (WL cA g a)) (hS : va_S (fun q : Nat => s.heap.size ≤ q) s.heap H locs) {ls : Array Slot} (hl : lv_has ls 9 [(5, .int 0), (4, .ref (a 72)), (3, .ref (a 71)), (2, .ref (a 52)), (1, .ref (a 0)), (0, .ref b)]) : W p l e room_1 s m #[Value.ref b] below meth c H locs 73 8292 (lw_Z below #[Value.ref b] s) (F0 m 446 ls []) := by
  obtain ⟨hx, hb, hr, hml, hown, hts, hX, hbl, hlocks, hgv⟩ := id C0
  have hb : c.code = cL_law := hb
  have hown : s.vm.findClass RL = some m.cls := hown
  have hG : ∀ w ∈ GW, w.before #[Value.ref b] s = true := fun w hw => hts w (List.mem_filter.mp hw).1
  have hA : ∀ q : Nat, s.heap.size ≤ q → (fun q : Nat => s.heap.size ≤ q) q := fun _ h => h
  have hbA : ¬ (fun q : Nat => s.heap.size ≤ q) b := Nat.not_le.mpr hbl
  have hSF : CF p m c cL_law 9 s #[Value.ref b] RL := ⟨hx, hb, hml, hown, hG⟩
  have hP : va_P D vwCl [((a 0), .inr (9, [.ref (a 1), .ref (a 12), .ref (a 32), .ref (a 38), .ref (a 46)])), ((a 1), .inr (5, [.int 0, .int 0, .ref (a 2), .ref (a 3), .ref (a 4), .ref (a 5), .ref (a 6), .ref (a 7), .ref (a 8), .ref (a 9), .ref (a 10), .ref (a 11)])), ((a 12), .inr (4, [.int 0, .int 0, .long 0, .ref (a 13), .ref (a 14), .ref (a 15), .ref (a 16), .ref (a 17), .ref (a 18), .ref (a 19), .ref (a 20), .ref (a 21), .ref (a 22), .ref (a 24), .ref (a 26), .ref (a 28), .ref (a 30)])), ((a 19), .inl (cA 1, 512, .inr (.inl (fun _ => 0)))), ((a 24), .inr (8, [.ref (a 25)])), ((a 25), .inl (cA 1, 8, .inr (.inl (fun _ => 0)))), ((a 52), .inr (15, [.ref (a 53), .ref (a 54), .ref (a 55), .ref (a 56), .ref (a 57), .ref (a 58), .ref (a 59), .ref (a 60), .ref (a 61), .ref (a 62), .ref (a 63), .ref (a 64), .ref (a 65), .ref (a 66), .ref (a 67), .ref (a 68), .ref (a 69), .ref (a 70), .long 0, .int 0, .int 2, .int 0, .int 0, .int 0, .int 0, .int 0, .int 0])), ((a 53), .inr (2, [.int 0, .ref g.1, .int 0])), ((a 54), .inr (2, [.int 0, .ref g.1, .int 0])), ((a 57), .inl (cA 1, 512, .inr (.inl (fun _ => 0))))] H := hP.sub [0, 1, 12, 19, 24, 25, 52, 53, 54, 57] rfl
  have hD : va_D (fun q : Nat => s.heap.size ≤ q) [((a 0), .inr (9, [.ref (a 1), .ref (a 12), .ref (a 32), .ref (a 38), .ref (a 46)])), ((a 1), .inr (5, [.int 0, .int 0, .ref (a 2), .ref (a 3), .ref (a 4), .ref (a 5), .ref (a 6), .ref (a 7), .ref (a 8), .ref (a 9), .ref (a 10), .ref (a 11)])), ((a 12), .inr (4, [.int 0, .int 0, .long 0, .ref (a 13), .ref (a 14), .ref (a 15), .ref (a 16), .ref (a 17), .ref (a 18), .ref (a 19), .ref (a 20), .ref (a 21), .ref (a 22), .ref (a 24), .ref (a 26), .ref (a 28), .ref (a 30)])), ((a 19), .inl (cA 1, 512, .inr (.inl (fun _ => 0)))), ((a 24), .inr (8, [.ref (a 25)])), ((a 25), .inl (cA 1, 8, .inr (.inl (fun _ => 0)))), ((a 52), .inr (15, [.ref (a 53), .ref (a 54), .ref (a 55), .ref (a 56), .ref (a 57), .ref (a 58), .ref (a 59), .ref (a 60), .ref (a 61), .ref (a 62), .ref (a 63), .ref (a 64), .ref (a 65), .ref (a 66), .ref (a 67), .ref (a 68), .ref (a 69), .ref (a 70), .long 0, .int 0, .int 2, .int 0, .int 0, .int 0, .int 0, .int 0, .int 0])), ((a 53), .inr (2, [.int 0, .ref g.1, .int 0])), ((a 54), .inr (2, [.int 0, .ref g.1, .int 0])), ((a 57), .inl (cA 1, 512, .inr (.inl (fun _ => 0))))] := hD.sub [0, 1, 12, 19, 24, 25, 52, 53, 54, 57] (by decide) rfl
  have hl : lv_has ls 9 [(5, .int 0), (4, .ref (a 72)), (3, .ref (a 71)), (2, .ref (a 52)), (1, .ref (a 0)), (0, .ref b)] := hl
  refine lv_aload_n hx hb dL_law_446 rfl (lv_at hl 4 rfl) ?_
  refine ct_V (wr := [((a 52), .inr (15, [.ref (a 53), .ref (a 54), .ref (a 55), .ref (a 56), .ref (a 57), .ref (a 58), .ref (a 59), .ref (a 60), .ref (a 61), .ref (a 62), .ref (a 63), .ref (a 64), .ref (a 65), .ref (a 66), .ref (a 67), .ref (a 68), .ref (a 69), .ref (a 70), .long 0, .int 0, .int 2, .int 0, .int 0, .int 0, .int 0, .int 0, .int 0])), ((a 53), .inr (2, [.int 0, .ref g.1, .int 0])), ((a 54), .inr (2, [.int 0, .ref g.1, .int 0])), ((a 57), .inl (cA 1, 512, .inr (.inl (fun _ => 0))))]) hSF hl.1 hP hD hS hA hK hGV (c117_X6_state l hfl D cA g (a 0) (a 1) (a 12) (a 32) (a 38) (a 46) (a 13) (a 14) (a 15) (a 16) (a 17) (a 18) (a 19) (a 20) (a 21) (a 22) (a 24) (a 26) (a 28) (a 30) (a 2) (a 3) (a 4) (a 5) (a 6) (a 7) (a 8) (a 9) (a 10) (a 11) (a 25)) goV_L_136 pd_X6_state ⟨(Nat.le_of_ble_eq_true rfl), (Nat.le_of_ble_eq_true rfl)⟩ ⟨(Nat.le_of_ble_eq_true rfl), (Nat.le_of_ble_eq_true rfl)⟩ (va_recv hK hP (ci := 9) (q0 := 0) rfl rfl) dL_law_447 rfl (Nat.le_of_ble_eq_true rfl) [0, 2, 1, 3, 4, 5] [6, 7, 8, 9] rfl (by decide) rfl (by decide) (by decide) (fun q => [((a 52), .inr (15, [.ref (a 53), .ref (a 54), .ref (a 55), .ref (a 56), .ref (a 57), .ref (a 58), .ref (a 59), .ref (a 60), .ref (a 61), .ref (a 62), .ref (a 63), .ref (a 64), .ref (a 65), .ref (a 66), .ref (a 67), .ref (a 68), .ref (a 69), .ref (a 70), .long 0, .int 0, .int 2, .int 0, .int 0, .int 0, .int 0, .int 0, .int 0])), ((a 53), .inr (2, [.int 0, .ref g.1, .int 0])), ((a 54), .inr (2, [.int 0, .ref g.1, .int 0])), ((a 57), .inl (cA 1, 512, .inr (.inl (fun _ => 0)))), ((a 0), .inr (9, [.ref (a 1), .ref (a 12), .ref (a 32), .ref (a 38), .ref (a 46)])), ((a 12), .inr (4, [.int 1, .int 46, .long 1, .ref (a 13), .ref (a 14), .ref (a 15), .ref (a 16), .ref (a 17), .ref (a 18), .ref (a 19), .ref (a 20), .ref (a 21), .ref (a 22), .ref (a 24), .ref (a 26), .ref (a 28), .ref (a 30)])), ((a 1), .inr (5, [.int 0, .int 0, .ref (a 2), .ref (a 3), .ref (a 4), .ref (a 5), .ref (a 6), .ref (a 7), .ref (a 8), .ref (a 9), .ref (a 10), .ref (a 11)])), ((a 19), .inl (cA 1, 512, .inr (.inl (vp_updL (fun _ => 0) 0 1)))), ((a 24), .inr (8, [.ref (a 25)])), ((a 25), .inl (cA 1, 8, .inr (.inl (vp_updL (vp_updL (vp_updL (vp_updL (vp_updL (vp_updL (vp_updL (vp_updL (fun _ => 0) 2 0) 3 0) 4 0) 5 0) 6 0) 7 0) 0 1) 1 0))))]) (fun _ => rfl) (fun q1 H locs hP hD hS => ?_)
  refine W.eq (g2 := F0 m 450 ls [.int 46]) rfl ?_
  refine lv_aload_n hx hb dL_law_450 rfl (lv_at hl 3 rfl) ?_
  refine ct_V (wr := []) hSF hl.1 hP hD hS hA hK hGV (c121_X12_state l hfl D cA g (a 52) (a 53) (a 54) (a 55) (a 56) (a 57) (a 58) (a 59) (a 60) (a 61) (a 62) (a 63) (a 64) (a 65) (a 66) (a 67) (a 68) (a 69) (a 70)) goV_L_140 pd_X12_state ⟨(Nat.le_of_ble_eq_true rfl), (Nat.le_of_ble_eq_true rfl)⟩ ⟨(Nat.le_of_ble_eq_true rfl), (Nat.le_of_ble_eq_true rfl)⟩ (va_recv hK hP (ci := 15) (q0 := 0) rfl rfl) dL_law_451 rfl (Nat.le_of_ble_eq_true rfl) [0, 2, 1, 3] [] rfl (by decide) rfl (by decide) (by decide) (fun q => [((a 52), .inr (15, [.ref (a 53), .ref (a 54), .ref (a 55), .ref (a 56), .ref (a 57), .ref (a 58), .ref (a 59), .ref (a 60), .ref (a 61), .ref (a 62), .ref (a 63), .ref (a 64), .ref (a 65), .ref (a 66), .ref (a 67), .ref (a 68), .ref (a 69), .ref (a 70), .long 1, .int 0, .int 2, .int 0, .int 1, .int 0, .int 0, .int 0, .int 46])), ((a 54), .inr (2, [.int 0, .ref g.1, .int 0])), ((a 53), .inr (2, [.int 0, .ref g.1, .int 0])), ((a 57), .inl (cA 1, 512, .inr (.inl (vp_updL (vp_updL (fun _ => 0) 0 0) 0 1))))]) (fun _ => rfl) (fun q2 H locs hP hD hS => ?_)
  refine W.eq (g2 := F0 m 454 ls [.int 46, .int 46]) rfl ?_
  refine k_icmp_eq_t (tgt := 1963) hx hb dL_law_454 (by decide) (by decide) ?_
  exact law_tail l hL C0 (Nat.le_of_ble_eq_true rfl) (Nat.le_of_ble_eq_true rfl) hS (lv_sub hl [0, 5] rfl)
set_option maxHeartbeats 4000000 in
set_option maxRecDepth 100000 in
theorem lc_4_0 {p : Program} {e : Env} {s : State} {m : MethodId} {below : List Frame} {meth : Method} {c : Code} (l : Launch) (hfl : l.stackTraces = false) {b L : Nat} {xs : Nat → Int32} (hL : L = 6) (C0 : lw_At p s m meth c b L xs) (D : va_G) (cA : Nat → ClassId) (g : gv_T) (hK : va_K D vwCl (TYS cA) s) (hGV : GV g (fun q : Nat => s.heap.size ≤ q) s s.heap) (a : Nat → Nat) {H : Heap} {locs : List Loc} (hP : va_P D vwCl (WL cA g a) H) (hD : va_D (fun q : Nat => s.heap.size ≤ q) (WL cA g a)) (hS : va_S (fun q : Nat => s.heap.size ≤ q) s.heap H locs) {ls : Array Slot} (hl : lv_has ls 9 [(5, .int 0), (4, .ref (a 72)), (3, .ref (a 71)), (2, .ref (a 52)), (1, .ref (a 0)), (0, .ref b)]) (k0 : (xs 1) < 0) (k1 : (lg_cmp ((xs 1)).toInt64 0) < 0) : W p l e room_1 s m #[Value.ref b] below meth c H locs 73 8292 (lw_Z below #[Value.ref b] s) (F0 m 459 ls []) := by
  obtain ⟨hx, hb, hr, hml, hown, hts, hX, hbl, hlocks, hgv⟩ := id C0
  have hb : c.code = cL_law := hb
  have hown : s.vm.findClass RL = some m.cls := hown
  have hG : ∀ w ∈ GW, w.before #[Value.ref b] s = true := fun w hw => hts w (List.mem_filter.mp hw).1
  have hA : ∀ q : Nat, s.heap.size ≤ q → (fun q : Nat => s.heap.size ≤ q) q := fun _ h => h
  have hbA : ¬ (fun q : Nat => s.heap.size ≤ q) b := Nat.not_le.mpr hbl
  have hSF : CF p m c cL_law 9 s #[Value.ref b] RL := ⟨hx, hb, hml, hown, hG⟩
  have hP : va_P D vwCl [((a 0), .inr (9, [.ref (a 1), .ref (a 12), .ref (a 32), .ref (a 38), .ref (a 46)])), ((a 52), .inr (15, [.ref (a 53), .ref (a 54), .ref (a 55), .ref (a 56), .ref (a 57), .ref (a 58), .ref (a 59), .ref (a 60), .ref (a 61), .ref (a 62), .ref (a 63), .ref (a 64), .ref (a 65), .ref (a 66), .ref (a 67), .ref (a 68), .ref (a 69), .ref (a 70), .long 0, .int 0, .int 2, .int 0, .int 0, .int 0, .int 0, .int 0, .int 0])), ((a 54), .inr (2, [.int 0, .ref g.1, .int 0]))] H := hP.sub [0, 52, 54] rfl
  have hD : va_D (fun q : Nat => s.heap.size ≤ q) [((a 0), .inr (9, [.ref (a 1), .ref (a 12), .ref (a 32), .ref (a 38), .ref (a 46)])), ((a 52), .inr (15, [.ref (a 53), .ref (a 54), .ref (a 55), .ref (a 56), .ref (a 57), .ref (a 58), .ref (a 59), .ref (a 60), .ref (a 61), .ref (a 62), .ref (a 63), .ref (a 64), .ref (a 65), .ref (a 66), .ref (a 67), .ref (a 68), .ref (a 69), .ref (a 70), .long 0, .int 0, .int 2, .int 0, .int 0, .int 0, .int 0, .int 0, .int 0])), ((a 54), .inr (2, [.int 0, .ref g.1, .int 0]))] := hD.sub [0, 52, 54] (by decide) rfl
  have hl : lv_has ls 9 [(5, .int 0), (4, .ref (a 72)), (3, .ref (a 71)), (2, .ref (a 52)), (1, .ref (a 0)), (0, .ref b)] := hl
  refine lv_aload_n hx hb dL_law_459 rfl (lv_at hl 4 rfl) ?_
  refine lv_aload_n hx hb dL_law_460 rfl (lv_at hl 5 rfl) ?_
  refine lv_iload hx hb dL_law_461 (lv_at hl 0 rfl) ?_
  refine lv_iconst (v := 1) hx hb dL_law_463 (by decide) ?_
  refine k_iadd (v := 1) hx hb dL_law_464 (by decide) ?_
  refine k_script (x := (xs 1)) hx hb hX hbl hbA hS 1 (by decide) rfl (by subst hL; unfold vp_in; decide) dL_law_465 ?_
  refine lv_aload_n hx hb dL_law_466 rfl (lv_at hl 2 rfl) ?_
  refine ct_SW (wr := [((a 52), .inr (15, [.ref (a 53), .ref (a 54), .ref (a 55), .ref (a 56), .ref (a 57), .ref (a 58), .ref (a 59), .ref (a 60), .ref (a 61), .ref (a 62), .ref (a 63), .ref (a 64), .ref (a 65), .ref (a 66), .ref (a 67), .ref (a 68), .ref (a 69), .ref (a 70), .long 0, .int 0, .int 2, .int 0, .int 0, .int 0, .int 0, .int 0, .int 0])), ((a 54), .inr (2, [.int 0, .ref g.1, .int 0]))]) hSF hl.1 hP hD hS hA hK hGV (c124_L_force l hfl D cA g (a 0) (a 71) (a 1) (a 12) (a 32) (a 38) (a 46) ((xs 1)) k0) goW_L_141 pd_L_force.2 ⟨(Nat.le_of_ble_eq_true rfl), (Nat.le_of_ble_eq_true rfl)⟩ ⟨(Nat.le_of_ble_eq_true rfl), (Nat.le_of_ble_eq_true rfl)⟩ dL_law_467 rfl (Nat.le_of_ble_eq_true rfl) [0] [1, 2] rfl (by decide) rfl (by decide) (by decide) (fun q => [((a 52), .inr (15, [.ref (a 53), .ref (a 54), .ref (a 55), .ref (a 56), .ref (a 57), .ref (a 58), .ref (a 59), .ref (a 60), .ref (a 61), .ref (a 62), .ref (a 63), .ref (a 64), .ref (a 65), .ref (a 66), .ref (a 67), .ref (a 68), .ref (a 69), .ref (a 70), .long 0, .int 0, .int 2, .int 0, .int 0, .int 0, .int 0, .int 0, .int 0])), ((a 54), .inr (2, [.int 0, .ref g.1, .int 0])), ((a 0), .inr (9, [.ref (a 1), .ref (a 12), .ref (a 32), .ref (a 38), .ref (a 46)]))]) (fun _ => rfl) (fun q1 H locs hP hD hS => ?_)
  refine W.eq (g2 := F0 m 470 ls [.int 1]) rfl ?_
  refine lv_istore (lv' := [(6, .int 1), (5, .int 0), (4, .ref (a 72)), (3, .ref (a 71)), (2, .ref (a 52)), (1, .ref (a 0)), (0, .ref b)]) hx hb dL_law_470 hl (by decide) rfl (fun ls hl => ?_)
  refine lv_aload_n hx hb dL_law_472 rfl (lv_at hl 4 rfl) ?_
  refine lv_aload_n hx hb dL_law_473 rfl (lv_at hl 6 rfl) ?_
  refine lv_iload hx hb dL_law_474 (lv_at hl 1 rfl) ?_
  refine lv_iconst (v := 1) hx hb dL_law_476 (by decide) ?_
  refine k_iadd (v := 1) hx hb dL_law_477 (by decide) ?_
  refine k_script (x := (xs 1)) hx hb hX hbl hbA hS 1 (by decide) rfl (by subst hL; unfold vp_in; decide) dL_law_478 ?_
  refine ct_V (wr := []) hSF hl.1 hP hD hS hA hK hGV (c127_X12_force l hfl D cA g (a 52) (a 53) (a 54) (a 55) (a 56) (a 57) (a 58) (a 59) (a 60) (a 61) (a 62) (a 63) (a 64) (a 65) (a 66) (a 67) (a 68) (a 69) (a 70) ((xs 1)) k1) goV_L_144 pd_X12_force ⟨(Nat.le_of_ble_eq_true rfl), (Nat.le_of_ble_eq_true rfl)⟩ ⟨(Nat.le_of_ble_eq_true rfl), (Nat.le_of_ble_eq_true rfl)⟩ (va_recv hK hP (ci := 15) (q0 := 0) rfl rfl) dL_law_479 rfl (Nat.le_of_ble_eq_true rfl) [0, 1] [] rfl (by decide) rfl (by decide) (by decide) (fun q => [((a 52), .inr (15, [.ref (a 53), .ref (a 54), .ref (a 55), .ref (a 56), .ref (a 57), .ref (a 58), .ref (a 59), .ref (a 60), .ref (a 61), .ref (a 62), .ref (a 63), .ref (a 64), .ref (a 65), .ref (a 66), .ref (a 67), .ref (a 68), .ref (a 69), .ref (a 70), .long 0, .int 1, .int 2, .int 0, .int 0, .int 0, .int 0, .int 0, .int 0])), ((a 54), .inr (2, [.int 0, .ref g.1, .int 0]))]) (fun _ => rfl) (fun q2 H locs hP hD hS => ?_)
  refine W.eq (g2 := F0 m 482 ls [.long 0]) rfl ?_
  refine lv_lstore (lv' := [(7, .long 0), (6, .int 1), (5, .int 0), (4, .ref (a 72)), (3, .ref (a 71)), (2, .ref (a 52)), (1, .ref (a 0)), (0, .ref b)]) hx hb dL_law_482 hl (by decide) rfl (fun ls hl => ?_)
  refine lv_aload_n hx hb dL_law_484 rfl (lv_at hl 5 rfl) ?_
  refine ct_V (wr := []) hSF hl.1 hP hD hS hA hK hGV (c17_X12_thrown l hfl D cA g (a 52) (a 53) (a 54) (a 55) (a 56) (a 57) (a 58) (a 59) (a 60) (a 61) (a 62) (a 63) (a 64) (a 65) (a 66) (a 67) (a 68) (a 69) (a 70)) goV_L_125 pd_X12_thrown ⟨(Nat.le_of_ble_eq_true rfl), (Nat.le_of_ble_eq_true rfl)⟩ ⟨(Nat.le_of_ble_eq_true rfl), (Nat.le_of_ble_eq_true rfl)⟩ (va_recv hK hP (ci := 15) (q0 := 0) rfl rfl) dL_law_485 rfl (Nat.le_of_ble_eq_true rfl) [0] [] rfl (by decide) rfl (by decide) (by decide) (fun q => [((a 52), .inr (15, [.ref (a 53), .ref (a 54), .ref (a 55), .ref (a 56), .ref (a 57), .ref (a 58), .ref (a 59), .ref (a 60), .ref (a 61), .ref (a 62), .ref (a 63), .ref (a 64), .ref (a 65), .ref (a 66), .ref (a 67), .ref (a 68), .ref (a 69), .ref (a 70), .long 0, .int 1, .int 2, .int 0, .int 0, .int 0, .int 0, .int 0, .int 0]))]) (fun _ => rfl) (fun q3 H locs hP hD hS => ?_)
  refine W.eq (g2 := F0 m 488 ls [.int 1]) rfl ?_
  refine lv_iload hx hb dL_law_488 (lv_at hl 1 rfl) ?_
  refine k_icmp_eq_t (tgt := 495) hx hb dL_law_490 (by decide) (by decide) ?_
  refine lv_iload hx hb dL_law_495 (lv_at hl 1 rfl) ?_
  refine k_if_ne_t (tgt := 511) hx hb dL_law_497 (by decide) (by decide) ?_
  refine lv_goto (tgt := 1963) hx hb dL_law_511 (by decide) ?_
  exact law_tail l hL C0 (Nat.le_of_ble_eq_true rfl) (Nat.le_of_ble_eq_true rfl) hS (lv_sub hl [2, 7] rfl)
set_option maxHeartbeats 4000000 in
set_option maxRecDepth 100000 in
theorem lc_4_1 {p : Program} {e : Env} {s : State} {m : MethodId} {below : List Frame} {meth : Method} {c : Code} (l : Launch) (hfl : l.stackTraces = false) {b L : Nat} {xs : Nat → Int32} (hL : L = 6) (C0 : lw_At p s m meth c b L xs) (D : va_G) (cA : Nat → ClassId) (g : gv_T) (hK : va_K D vwCl (TYS cA) s) (hGV : GV g (fun q : Nat => s.heap.size ≤ q) s s.heap) (a : Nat → Nat) {H : Heap} {locs : List Loc} (hP : va_P D vwCl (WL cA g a) H) (hD : va_D (fun q : Nat => s.heap.size ≤ q) (WL cA g a)) (hS : va_S (fun q : Nat => s.heap.size ≤ q) s.heap H locs) {ls : Array Slot} (hl : lv_has ls 9 [(5, .int 0), (4, .ref (a 72)), (3, .ref (a 71)), (2, .ref (a 52)), (1, .ref (a 0)), (0, .ref b)]) (k0 : ¬ (xs 1) < 0) (k1 : ¬ (lg_cmp ((xs 1)).toInt64 0) < 0) (k2 : 0 < (lg_cmp ((xs 1)).toInt64 (-1))) : W p l e room_1 s m #[Value.ref b] below meth c H locs 73 8292 (lw_Z below #[Value.ref b] s) (F0 m 459 ls []) := by
  obtain ⟨hx, hb, hr, hml, hown, hts, hX, hbl, hlocks, hgv⟩ := id C0
  have hb : c.code = cL_law := hb
  have hown : s.vm.findClass RL = some m.cls := hown
  have hG : ∀ w ∈ GW, w.before #[Value.ref b] s = true := fun w hw => hts w (List.mem_filter.mp hw).1
  have hA : ∀ q : Nat, s.heap.size ≤ q → (fun q : Nat => s.heap.size ≤ q) q := fun _ h => h
  have hbA : ¬ (fun q : Nat => s.heap.size ≤ q) b := Nat.not_le.mpr hbl
  have hSF : CF p m c cL_law 9 s #[Value.ref b] RL := ⟨hx, hb, hml, hown, hG⟩
  have hP : va_P D vwCl [((a 0), .inr (9, [.ref (a 1), .ref (a 12), .ref (a 32), .ref (a 38), .ref (a 46)])), ((a 1), .inr (5, [.int 0, .int 0, .ref (a 2), .ref (a 3), .ref (a 4), .ref (a 5), .ref (a 6), .ref (a 7), .ref (a 8), .ref (a 9), .ref (a 10), .ref (a 11)])), ((a 52), .inr (15, [.ref (a 53), .ref (a 54), .ref (a 55), .ref (a 56), .ref (a 57), .ref (a 58), .ref (a 59), .ref (a 60), .ref (a 61), .ref (a 62), .ref (a 63), .ref (a 64), .ref (a 65), .ref (a 66), .ref (a 67), .ref (a 68), .ref (a 69), .ref (a 70), .long 0, .int 0, .int 2, .int 0, .int 0, .int 0, .int 0, .int 0, .int 0])), ((a 54), .inr (2, [.int 0, .ref g.1, .int 0]))] H := hP.sub [0, 1, 52, 54] rfl
  have hD : va_D (fun q : Nat => s.heap.size ≤ q) [((a 0), .inr (9, [.ref (a 1), .ref (a 12), .ref (a 32), .ref (a 38), .ref (a 46)])), ((a 1), .inr (5, [.int 0, .int 0, .ref (a 2), .ref (a 3), .ref (a 4), .ref (a 5), .ref (a 6), .ref (a 7), .ref (a 8), .ref (a 9), .ref (a 10), .ref (a 11)])), ((a 52), .inr (15, [.ref (a 53), .ref (a 54), .ref (a 55), .ref (a 56), .ref (a 57), .ref (a 58), .ref (a 59), .ref (a 60), .ref (a 61), .ref (a 62), .ref (a 63), .ref (a 64), .ref (a 65), .ref (a 66), .ref (a 67), .ref (a 68), .ref (a 69), .ref (a 70), .long 0, .int 0, .int 2, .int 0, .int 0, .int 0, .int 0, .int 0, .int 0])), ((a 54), .inr (2, [.int 0, .ref g.1, .int 0]))] := hD.sub [0, 1, 52, 54] (by decide) rfl
  have hl : lv_has ls 9 [(5, .int 0), (4, .ref (a 72)), (3, .ref (a 71)), (2, .ref (a 52)), (1, .ref (a 0)), (0, .ref b)] := hl
  refine lv_aload_n hx hb dL_law_459 rfl (lv_at hl 4 rfl) ?_
  refine lv_aload_n hx hb dL_law_460 rfl (lv_at hl 5 rfl) ?_
  refine lv_iload hx hb dL_law_461 (lv_at hl 0 rfl) ?_
  refine lv_iconst (v := 1) hx hb dL_law_463 (by decide) ?_
  refine k_iadd (v := 1) hx hb dL_law_464 (by decide) ?_
  refine k_script (x := (xs 1)) hx hb hX hbl hbA hS 1 (by decide) rfl (by subst hL; unfold vp_in; decide) dL_law_465 ?_
  refine lv_aload_n hx hb dL_law_466 rfl (lv_at hl 2 rfl) ?_
  refine ct_SW (wr := [((a 52), .inr (15, [.ref (a 53), .ref (a 54), .ref (a 55), .ref (a 56), .ref (a 57), .ref (a 58), .ref (a 59), .ref (a 60), .ref (a 61), .ref (a 62), .ref (a 63), .ref (a 64), .ref (a 65), .ref (a 66), .ref (a 67), .ref (a 68), .ref (a 69), .ref (a 70), .long 0, .int 0, .int 2, .int 0, .int 0, .int 0, .int 0, .int 0, .int 0])), ((a 54), .inr (2, [.int 0, .ref g.1, .int 0]))]) hSF hl.1 hP hD hS hA hK hGV (c130_L_force l hfl D cA g (a 0) (a 71) (a 1) (a 12) (a 32) (a 38) (a 46) (a 2) (a 3) (a 4) (a 5) (a 6) (a 7) (a 8) (a 9) (a 10) (a 11) ((xs 1)) k0) goW_L_141 pd_L_force.2 ⟨(Nat.le_of_ble_eq_true rfl), (Nat.le_of_ble_eq_true rfl)⟩ ⟨(Nat.le_of_ble_eq_true rfl), (Nat.le_of_ble_eq_true rfl)⟩ dL_law_467 rfl (Nat.le_of_ble_eq_true rfl) [0, 1] [2, 3] rfl (by decide) rfl (by decide) (by decide) (fun q => [((a 52), .inr (15, [.ref (a 53), .ref (a 54), .ref (a 55), .ref (a 56), .ref (a 57), .ref (a 58), .ref (a 59), .ref (a 60), .ref (a 61), .ref (a 62), .ref (a 63), .ref (a 64), .ref (a 65), .ref (a 66), .ref (a 67), .ref (a 68), .ref (a 69), .ref (a 70), .long 0, .int 0, .int 2, .int 0, .int 0, .int 0, .int 0, .int 0, .int 0])), ((a 54), .inr (2, [.int 0, .ref g.1, .int 0])), ((a 0), .inr (9, [.ref (a 1), .ref (a 12), .ref (a 32), .ref (a 38), .ref (a 46)])), ((a 1), .inr (5, [.int 0, .int 0, .ref (a 2), .ref (a 3), .ref (a 4), .ref (a 5), .ref (a 6), .ref (a 7), .ref (a 8), .ref (a 9), .ref (a 10), .ref (a 11)]))]) (fun _ => rfl) (fun q1 H locs hP hD hS => ?_)
  refine W.eq (g2 := F0 m 470 ls [.int 1]) rfl ?_
  refine lv_istore (lv' := [(6, .int 1), (5, .int 0), (4, .ref (a 72)), (3, .ref (a 71)), (2, .ref (a 52)), (1, .ref (a 0)), (0, .ref b)]) hx hb dL_law_470 hl (by decide) rfl (fun ls hl => ?_)
  refine lv_aload_n hx hb dL_law_472 rfl (lv_at hl 4 rfl) ?_
  refine lv_aload_n hx hb dL_law_473 rfl (lv_at hl 6 rfl) ?_
  refine lv_iload hx hb dL_law_474 (lv_at hl 1 rfl) ?_
  refine lv_iconst (v := 1) hx hb dL_law_476 (by decide) ?_
  refine k_iadd (v := 1) hx hb dL_law_477 (by decide) ?_
  refine k_script (x := (xs 1)) hx hb hX hbl hbA hS 1 (by decide) rfl (by subst hL; unfold vp_in; decide) dL_law_478 ?_
  refine ct_V (wr := []) hSF hl.1 hP hD hS hA hK hGV (c132_X12_force l hfl D cA g (a 52) (a 53) (a 54) (a 55) (a 56) (a 57) (a 58) (a 59) (a 60) (a 61) (a 62) (a 63) (a 64) (a 65) (a 66) (a 67) (a 68) (a 69) (a 70) ((xs 1)) k1 k2) goV_L_144 pd_X12_force ⟨(Nat.le_of_ble_eq_true rfl), (Nat.le_of_ble_eq_true rfl)⟩ ⟨(Nat.le_of_ble_eq_true rfl), (Nat.le_of_ble_eq_true rfl)⟩ (va_recv hK hP (ci := 15) (q0 := 0) rfl rfl) dL_law_479 rfl (Nat.le_of_ble_eq_true rfl) [0, 1] [] rfl (by decide) rfl (by decide) (by decide) (fun q => [((a 52), .inr (15, [.ref (a 53), .ref (a 54), .ref (a 55), .ref (a 56), .ref (a 57), .ref (a 58), .ref (a 59), .ref (a 60), .ref (a 61), .ref (a 62), .ref (a 63), .ref (a 64), .ref (a 65), .ref (a 66), .ref (a 67), .ref (a 68), .ref (a 69), .ref (a 70), .long 0, .int 1, .int 2, .int 0, .int 0, .int 0, .int 0, .int 0, .int 0])), ((a 54), .inr (2, [.int 0, .ref g.1, .int 0]))]) (fun _ => rfl) (fun q2 H locs hP hD hS => ?_)
  refine W.eq (g2 := F0 m 482 ls [.long 0]) rfl ?_
  refine lv_lstore (lv' := [(7, .long 0), (6, .int 1), (5, .int 0), (4, .ref (a 72)), (3, .ref (a 71)), (2, .ref (a 52)), (1, .ref (a 0)), (0, .ref b)]) hx hb dL_law_482 hl (by decide) rfl (fun ls hl => ?_)
  refine lv_aload_n hx hb dL_law_484 rfl (lv_at hl 5 rfl) ?_
  refine ct_V (wr := []) hSF hl.1 hP hD hS hA hK hGV (c17_X12_thrown l hfl D cA g (a 52) (a 53) (a 54) (a 55) (a 56) (a 57) (a 58) (a 59) (a 60) (a 61) (a 62) (a 63) (a 64) (a 65) (a 66) (a 67) (a 68) (a 69) (a 70)) goV_L_125 pd_X12_thrown ⟨(Nat.le_of_ble_eq_true rfl), (Nat.le_of_ble_eq_true rfl)⟩ ⟨(Nat.le_of_ble_eq_true rfl), (Nat.le_of_ble_eq_true rfl)⟩ (va_recv hK hP (ci := 15) (q0 := 0) rfl rfl) dL_law_485 rfl (Nat.le_of_ble_eq_true rfl) [0] [] rfl (by decide) rfl (by decide) (by decide) (fun q => [((a 52), .inr (15, [.ref (a 53), .ref (a 54), .ref (a 55), .ref (a 56), .ref (a 57), .ref (a 58), .ref (a 59), .ref (a 60), .ref (a 61), .ref (a 62), .ref (a 63), .ref (a 64), .ref (a 65), .ref (a 66), .ref (a 67), .ref (a 68), .ref (a 69), .ref (a 70), .long 0, .int 1, .int 2, .int 0, .int 0, .int 0, .int 0, .int 0, .int 0]))]) (fun _ => rfl) (fun q3 H locs hP hD hS => ?_)
  refine W.eq (g2 := F0 m 488 ls [.int 1]) rfl ?_
  refine lv_iload hx hb dL_law_488 (lv_at hl 1 rfl) ?_
  refine k_icmp_eq_t (tgt := 495) hx hb dL_law_490 (by decide) (by decide) ?_
  refine lv_iload hx hb dL_law_495 (lv_at hl 1 rfl) ?_
  refine k_if_ne_t (tgt := 511) hx hb dL_law_497 (by decide) (by decide) ?_
  refine lv_goto (tgt := 1963) hx hb dL_law_511 (by decide) ?_
  exact law_tail l hL C0 (Nat.le_of_ble_eq_true rfl) (Nat.le_of_ble_eq_true rfl) hS (lv_sub hl [2, 7] rfl)
set_option maxHeartbeats 4000000 in
set_option maxRecDepth 100000 in
theorem lc_5_0 {p : Program} {e : Env} {s : State} {m : MethodId} {below : List Frame} {meth : Method} {c : Code} (l : Launch) (hfl : l.stackTraces = false) {b L : Nat} {xs : Nat → Int32} (hL : L = 6) (C0 : lw_At p s m meth c b L xs) (D : va_G) (cA : Nat → ClassId) (g : gv_T) (hK : va_K D vwCl (TYS cA) s) (hGV : GV g (fun q : Nat => s.heap.size ≤ q) s s.heap) (a : Nat → Nat) {H : Heap} {locs : List Loc} (hP : va_P D vwCl (WL cA g a) H) (hD : va_D (fun q : Nat => s.heap.size ≤ q) (WL cA g a)) (hS : va_S (fun q : Nat => s.heap.size ≤ q) s.heap H locs) {ls : Array Slot} (hl : lv_has ls 9 [(5, .int 0), (4, .ref (a 72)), (3, .ref (a 71)), (2, .ref (a 52)), (1, .ref (a 0)), (0, .ref b)]) (k0 : (xs 1) < 0) (k1 : (lg_cmp ((xs 1)).toInt64 0) < 0) : W p l e room_1 s m #[Value.ref b] below meth c H locs 73 8292 (lw_Z below #[Value.ref b] s) (F0 m 514 ls []) := by
  obtain ⟨hx, hb, hr, hml, hown, hts, hX, hbl, hlocks, hgv⟩ := id C0
  have hb : c.code = cL_law := hb
  have hown : s.vm.findClass RL = some m.cls := hown
  have hG : ∀ w ∈ GW, w.before #[Value.ref b] s = true := fun w hw => hts w (List.mem_filter.mp hw).1
  have hA : ∀ q : Nat, s.heap.size ≤ q → (fun q : Nat => s.heap.size ≤ q) q := fun _ h => h
  have hbA : ¬ (fun q : Nat => s.heap.size ≤ q) b := Nat.not_le.mpr hbl
  have hSF : CF p m c cL_law 9 s #[Value.ref b] RL := ⟨hx, hb, hml, hown, hG⟩
  have hP : va_P D vwCl [((a 0), .inr (9, [.ref (a 1), .ref (a 12), .ref (a 32), .ref (a 38), .ref (a 46)])), ((a 52), .inr (15, [.ref (a 53), .ref (a 54), .ref (a 55), .ref (a 56), .ref (a 57), .ref (a 58), .ref (a 59), .ref (a 60), .ref (a 61), .ref (a 62), .ref (a 63), .ref (a 64), .ref (a 65), .ref (a 66), .ref (a 67), .ref (a 68), .ref (a 69), .ref (a 70), .long 0, .int 0, .int 2, .int 0, .int 0, .int 0, .int 0, .int 0, .int 0])), ((a 54), .inr (2, [.int 0, .ref g.1, .int 0]))] H := hP.sub [0, 52, 54] rfl
  have hD : va_D (fun q : Nat => s.heap.size ≤ q) [((a 0), .inr (9, [.ref (a 1), .ref (a 12), .ref (a 32), .ref (a 38), .ref (a 46)])), ((a 52), .inr (15, [.ref (a 53), .ref (a 54), .ref (a 55), .ref (a 56), .ref (a 57), .ref (a 58), .ref (a 59), .ref (a 60), .ref (a 61), .ref (a 62), .ref (a 63), .ref (a 64), .ref (a 65), .ref (a 66), .ref (a 67), .ref (a 68), .ref (a 69), .ref (a 70), .long 0, .int 0, .int 2, .int 0, .int 0, .int 0, .int 0, .int 0, .int 0])), ((a 54), .inr (2, [.int 0, .ref g.1, .int 0]))] := hD.sub [0, 52, 54] (by decide) rfl
  have hl : lv_has ls 9 [(5, .int 0), (4, .ref (a 72)), (3, .ref (a 71)), (2, .ref (a 52)), (1, .ref (a 0)), (0, .ref b)] := hl
  refine lv_aload_n hx hb dL_law_514 rfl (lv_at hl 4 rfl) ?_
  refine lv_aload_n hx hb dL_law_515 rfl (lv_at hl 5 rfl) ?_
  refine lv_iload hx hb dL_law_516 (lv_at hl 0 rfl) ?_
  refine lv_iconst (v := 1) hx hb dL_law_518 (by decide) ?_
  refine k_iadd (v := 1) hx hb dL_law_519 (by decide) ?_
  refine k_script (x := (xs 1)) hx hb hX hbl hbA hS 1 (by decide) rfl (by subst hL; unfold vp_in; decide) dL_law_520 ?_
  refine lv_aload_n hx hb dL_law_521 rfl (lv_at hl 2 rfl) ?_
  refine ct_SW (wr := [((a 52), .inr (15, [.ref (a 53), .ref (a 54), .ref (a 55), .ref (a 56), .ref (a 57), .ref (a 58), .ref (a 59), .ref (a 60), .ref (a 61), .ref (a 62), .ref (a 63), .ref (a 64), .ref (a 65), .ref (a 66), .ref (a 67), .ref (a 68), .ref (a 69), .ref (a 70), .long 0, .int 0, .int 2, .int 0, .int 0, .int 0, .int 0, .int 0, .int 0])), ((a 54), .inr (2, [.int 0, .ref g.1, .int 0]))]) hSF hl.1 hP hD hS hA hK hGV (c134_L_pull l hfl D cA g (a 0) (a 71) (a 1) (a 12) (a 32) (a 38) (a 46) ((xs 1)) k0) goW_L_145 pd_L_pull.2 ⟨(Nat.le_of_ble_eq_true rfl), (Nat.le_of_ble_eq_true rfl)⟩ ⟨(Nat.le_of_ble_eq_true rfl), (Nat.le_of_ble_eq_true rfl)⟩ dL_law_522 rfl (Nat.le_of_ble_eq_true rfl) [0] [1, 2] rfl (by decide) rfl (by decide) (by decide) (fun q => [((a 52), .inr (15, [.ref (a 53), .ref (a 54), .ref (a 55), .ref (a 56), .ref (a 57), .ref (a 58), .ref (a 59), .ref (a 60), .ref (a 61), .ref (a 62), .ref (a 63), .ref (a 64), .ref (a 65), .ref (a 66), .ref (a 67), .ref (a 68), .ref (a 69), .ref (a 70), .long 0, .int 0, .int 2, .int 0, .int 0, .int 0, .int 0, .int 0, .int 0])), ((a 54), .inr (2, [.int 0, .ref g.1, .int 0])), ((a 0), .inr (9, [.ref (a 1), .ref (a 12), .ref (a 32), .ref (a 38), .ref (a 46)]))]) (fun _ => rfl) (fun q1 H locs hP hD hS => ?_)
  refine W.eq (g2 := F0 m 525 ls [.int 1]) rfl ?_
  refine lv_istore (lv' := [(6, .int 1), (5, .int 0), (4, .ref (a 72)), (3, .ref (a 71)), (2, .ref (a 52)), (1, .ref (a 0)), (0, .ref b)]) hx hb dL_law_525 hl (by decide) rfl (fun ls hl => ?_)
  refine lv_aload_n hx hb dL_law_527 rfl (lv_at hl 4 rfl) ?_
  refine lv_aload_n hx hb dL_law_528 rfl (lv_at hl 6 rfl) ?_
  refine lv_iload hx hb dL_law_529 (lv_at hl 1 rfl) ?_
  refine lv_iconst (v := 1) hx hb dL_law_531 (by decide) ?_
  refine k_iadd (v := 1) hx hb dL_law_532 (by decide) ?_
  refine k_script (x := (xs 1)) hx hb hX hbl hbA hS 1 (by decide) rfl (by subst hL; unfold vp_in; decide) dL_law_533 ?_
  refine ct_V (wr := []) hSF hl.1 hP hD hS hA hK hGV (c135_X12_pull l hfl D cA g (a 52) (a 53) (a 54) (a 55) (a 56) (a 57) (a 58) (a 59) (a 60) (a 61) (a 62) (a 63) (a 64) (a 65) (a 66) (a 67) (a 68) (a 69) (a 70) ((xs 1)) k1) goV_L_147 pd_X12_pull ⟨(Nat.le_of_ble_eq_true rfl), (Nat.le_of_ble_eq_true rfl)⟩ ⟨(Nat.le_of_ble_eq_true rfl), (Nat.le_of_ble_eq_true rfl)⟩ (va_recv hK hP (ci := 15) (q0 := 0) rfl rfl) dL_law_534 rfl (Nat.le_of_ble_eq_true rfl) [0, 1] [] rfl (by decide) rfl (by decide) (by decide) (fun q => [((a 52), .inr (15, [.ref (a 53), .ref (a 54), .ref (a 55), .ref (a 56), .ref (a 57), .ref (a 58), .ref (a 59), .ref (a 60), .ref (a 61), .ref (a 62), .ref (a 63), .ref (a 64), .ref (a 65), .ref (a 66), .ref (a 67), .ref (a 68), .ref (a 69), .ref (a 70), .long 0, .int 1, .int 2, .int 0, .int 0, .int 0, .int 0, .int 0, .int 0])), ((a 54), .inr (2, [.int 0, .ref g.1, .int 0]))]) (fun _ => rfl) (fun q2 H locs hP hD hS => ?_)
  refine W.eq (g2 := F0 m 537 ls [.long 0]) rfl ?_
  refine lv_lstore (lv' := [(7, .long 0), (6, .int 1), (5, .int 0), (4, .ref (a 72)), (3, .ref (a 71)), (2, .ref (a 52)), (1, .ref (a 0)), (0, .ref b)]) hx hb dL_law_537 hl (by decide) rfl (fun ls hl => ?_)
  refine lv_aload_n hx hb dL_law_539 rfl (lv_at hl 5 rfl) ?_
  refine ct_V (wr := []) hSF hl.1 hP hD hS hA hK hGV (c17_X12_thrown l hfl D cA g (a 52) (a 53) (a 54) (a 55) (a 56) (a 57) (a 58) (a 59) (a 60) (a 61) (a 62) (a 63) (a 64) (a 65) (a 66) (a 67) (a 68) (a 69) (a 70)) goV_L_125 pd_X12_thrown ⟨(Nat.le_of_ble_eq_true rfl), (Nat.le_of_ble_eq_true rfl)⟩ ⟨(Nat.le_of_ble_eq_true rfl), (Nat.le_of_ble_eq_true rfl)⟩ (va_recv hK hP (ci := 15) (q0 := 0) rfl rfl) dL_law_540 rfl (Nat.le_of_ble_eq_true rfl) [0] [] rfl (by decide) rfl (by decide) (by decide) (fun q => [((a 52), .inr (15, [.ref (a 53), .ref (a 54), .ref (a 55), .ref (a 56), .ref (a 57), .ref (a 58), .ref (a 59), .ref (a 60), .ref (a 61), .ref (a 62), .ref (a 63), .ref (a 64), .ref (a 65), .ref (a 66), .ref (a 67), .ref (a 68), .ref (a 69), .ref (a 70), .long 0, .int 1, .int 2, .int 0, .int 0, .int 0, .int 0, .int 0, .int 0]))]) (fun _ => rfl) (fun q3 H locs hP hD hS => ?_)
  refine W.eq (g2 := F0 m 543 ls [.int 1]) rfl ?_
  refine lv_iload hx hb dL_law_543 (lv_at hl 1 rfl) ?_
  refine k_icmp_eq_t (tgt := 550) hx hb dL_law_545 (by decide) (by decide) ?_
  refine lv_iload hx hb dL_law_550 (lv_at hl 1 rfl) ?_
  refine k_if_ne_t (tgt := 566) hx hb dL_law_552 (by decide) (by decide) ?_
  refine lv_goto (tgt := 1963) hx hb dL_law_566 (by decide) ?_
  exact law_tail l hL C0 (Nat.le_of_ble_eq_true rfl) (Nat.le_of_ble_eq_true rfl) hS (lv_sub hl [2, 7] rfl)
set_option maxHeartbeats 4000000 in
set_option maxRecDepth 100000 in
theorem lc_5_1 {p : Program} {e : Env} {s : State} {m : MethodId} {below : List Frame} {meth : Method} {c : Code} (l : Launch) (hfl : l.stackTraces = false) {b L : Nat} {xs : Nat → Int32} (hL : L = 6) (C0 : lw_At p s m meth c b L xs) (D : va_G) (cA : Nat → ClassId) (g : gv_T) (hK : va_K D vwCl (TYS cA) s) (hGV : GV g (fun q : Nat => s.heap.size ≤ q) s s.heap) (a : Nat → Nat) {H : Heap} {locs : List Loc} (hP : va_P D vwCl (WL cA g a) H) (hD : va_D (fun q : Nat => s.heap.size ≤ q) (WL cA g a)) (hS : va_S (fun q : Nat => s.heap.size ≤ q) s.heap H locs) {ls : Array Slot} (hl : lv_has ls 9 [(5, .int 0), (4, .ref (a 72)), (3, .ref (a 71)), (2, .ref (a 52)), (1, .ref (a 0)), (0, .ref b)]) (k0 : ¬ (xs 1) < 0) (k1 : ¬ (lg_cmp ((xs 1)).toInt64 0) < 0) (k2 : 0 < (lg_cmp ((xs 1)).toInt64 (-1))) : W p l e room_1 s m #[Value.ref b] below meth c H locs 73 8292 (lw_Z below #[Value.ref b] s) (F0 m 514 ls []) := by
  obtain ⟨hx, hb, hr, hml, hown, hts, hX, hbl, hlocks, hgv⟩ := id C0
  have hb : c.code = cL_law := hb
  have hown : s.vm.findClass RL = some m.cls := hown
  have hG : ∀ w ∈ GW, w.before #[Value.ref b] s = true := fun w hw => hts w (List.mem_filter.mp hw).1
  have hA : ∀ q : Nat, s.heap.size ≤ q → (fun q : Nat => s.heap.size ≤ q) q := fun _ h => h
  have hbA : ¬ (fun q : Nat => s.heap.size ≤ q) b := Nat.not_le.mpr hbl
  have hSF : CF p m c cL_law 9 s #[Value.ref b] RL := ⟨hx, hb, hml, hown, hG⟩
  have hP : va_P D vwCl [((a 0), .inr (9, [.ref (a 1), .ref (a 12), .ref (a 32), .ref (a 38), .ref (a 46)])), ((a 1), .inr (5, [.int 0, .int 0, .ref (a 2), .ref (a 3), .ref (a 4), .ref (a 5), .ref (a 6), .ref (a 7), .ref (a 8), .ref (a 9), .ref (a 10), .ref (a 11)])), ((a 52), .inr (15, [.ref (a 53), .ref (a 54), .ref (a 55), .ref (a 56), .ref (a 57), .ref (a 58), .ref (a 59), .ref (a 60), .ref (a 61), .ref (a 62), .ref (a 63), .ref (a 64), .ref (a 65), .ref (a 66), .ref (a 67), .ref (a 68), .ref (a 69), .ref (a 70), .long 0, .int 0, .int 2, .int 0, .int 0, .int 0, .int 0, .int 0, .int 0])), ((a 54), .inr (2, [.int 0, .ref g.1, .int 0]))] H := hP.sub [0, 1, 52, 54] rfl
  have hD : va_D (fun q : Nat => s.heap.size ≤ q) [((a 0), .inr (9, [.ref (a 1), .ref (a 12), .ref (a 32), .ref (a 38), .ref (a 46)])), ((a 1), .inr (5, [.int 0, .int 0, .ref (a 2), .ref (a 3), .ref (a 4), .ref (a 5), .ref (a 6), .ref (a 7), .ref (a 8), .ref (a 9), .ref (a 10), .ref (a 11)])), ((a 52), .inr (15, [.ref (a 53), .ref (a 54), .ref (a 55), .ref (a 56), .ref (a 57), .ref (a 58), .ref (a 59), .ref (a 60), .ref (a 61), .ref (a 62), .ref (a 63), .ref (a 64), .ref (a 65), .ref (a 66), .ref (a 67), .ref (a 68), .ref (a 69), .ref (a 70), .long 0, .int 0, .int 2, .int 0, .int 0, .int 0, .int 0, .int 0, .int 0])), ((a 54), .inr (2, [.int 0, .ref g.1, .int 0]))] := hD.sub [0, 1, 52, 54] (by decide) rfl
  have hl : lv_has ls 9 [(5, .int 0), (4, .ref (a 72)), (3, .ref (a 71)), (2, .ref (a 52)), (1, .ref (a 0)), (0, .ref b)] := hl
  refine lv_aload_n hx hb dL_law_514 rfl (lv_at hl 4 rfl) ?_
  refine lv_aload_n hx hb dL_law_515 rfl (lv_at hl 5 rfl) ?_
  refine lv_iload hx hb dL_law_516 (lv_at hl 0 rfl) ?_
  refine lv_iconst (v := 1) hx hb dL_law_518 (by decide) ?_
  refine k_iadd (v := 1) hx hb dL_law_519 (by decide) ?_
  refine k_script (x := (xs 1)) hx hb hX hbl hbA hS 1 (by decide) rfl (by subst hL; unfold vp_in; decide) dL_law_520 ?_
  refine lv_aload_n hx hb dL_law_521 rfl (lv_at hl 2 rfl) ?_
  refine ct_SW (wr := [((a 52), .inr (15, [.ref (a 53), .ref (a 54), .ref (a 55), .ref (a 56), .ref (a 57), .ref (a 58), .ref (a 59), .ref (a 60), .ref (a 61), .ref (a 62), .ref (a 63), .ref (a 64), .ref (a 65), .ref (a 66), .ref (a 67), .ref (a 68), .ref (a 69), .ref (a 70), .long 0, .int 0, .int 2, .int 0, .int 0, .int 0, .int 0, .int 0, .int 0])), ((a 54), .inr (2, [.int 0, .ref g.1, .int 0]))]) hSF hl.1 hP hD hS hA hK hGV (c137_L_pull l hfl D cA g (a 0) (a 71) (a 1) (a 12) (a 32) (a 38) (a 46) (a 2) (a 3) (a 4) (a 5) (a 6) (a 7) (a 8) (a 9) (a 10) (a 11) ((xs 1)) k0) goW_L_145 pd_L_pull.2 ⟨(Nat.le_of_ble_eq_true rfl), (Nat.le_of_ble_eq_true rfl)⟩ ⟨(Nat.le_of_ble_eq_true rfl), (Nat.le_of_ble_eq_true rfl)⟩ dL_law_522 rfl (Nat.le_of_ble_eq_true rfl) [0, 1] [2, 3] rfl (by decide) rfl (by decide) (by decide) (fun q => [((a 52), .inr (15, [.ref (a 53), .ref (a 54), .ref (a 55), .ref (a 56), .ref (a 57), .ref (a 58), .ref (a 59), .ref (a 60), .ref (a 61), .ref (a 62), .ref (a 63), .ref (a 64), .ref (a 65), .ref (a 66), .ref (a 67), .ref (a 68), .ref (a 69), .ref (a 70), .long 0, .int 0, .int 2, .int 0, .int 0, .int 0, .int 0, .int 0, .int 0])), ((a 54), .inr (2, [.int 0, .ref g.1, .int 0])), ((a 0), .inr (9, [.ref (a 1), .ref (a 12), .ref (a 32), .ref (a 38), .ref (a 46)])), ((a 1), .inr (5, [.int 0, .int 0, .ref (a 2), .ref (a 3), .ref (a 4), .ref (a 5), .ref (a 6), .ref (a 7), .ref (a 8), .ref (a 9), .ref (a 10), .ref (a 11)]))]) (fun _ => rfl) (fun q1 H locs hP hD hS => ?_)
  refine W.eq (g2 := F0 m 525 ls [.int 1]) rfl ?_
  refine lv_istore (lv' := [(6, .int 1), (5, .int 0), (4, .ref (a 72)), (3, .ref (a 71)), (2, .ref (a 52)), (1, .ref (a 0)), (0, .ref b)]) hx hb dL_law_525 hl (by decide) rfl (fun ls hl => ?_)
  refine lv_aload_n hx hb dL_law_527 rfl (lv_at hl 4 rfl) ?_
  refine lv_aload_n hx hb dL_law_528 rfl (lv_at hl 6 rfl) ?_
  refine lv_iload hx hb dL_law_529 (lv_at hl 1 rfl) ?_
  refine lv_iconst (v := 1) hx hb dL_law_531 (by decide) ?_
  refine k_iadd (v := 1) hx hb dL_law_532 (by decide) ?_
  refine k_script (x := (xs 1)) hx hb hX hbl hbA hS 1 (by decide) rfl (by subst hL; unfold vp_in; decide) dL_law_533 ?_
  refine ct_V (wr := []) hSF hl.1 hP hD hS hA hK hGV (c138_X12_pull l hfl D cA g (a 52) (a 53) (a 54) (a 55) (a 56) (a 57) (a 58) (a 59) (a 60) (a 61) (a 62) (a 63) (a 64) (a 65) (a 66) (a 67) (a 68) (a 69) (a 70) ((xs 1)) k1 k2) goV_L_147 pd_X12_pull ⟨(Nat.le_of_ble_eq_true rfl), (Nat.le_of_ble_eq_true rfl)⟩ ⟨(Nat.le_of_ble_eq_true rfl), (Nat.le_of_ble_eq_true rfl)⟩ (va_recv hK hP (ci := 15) (q0 := 0) rfl rfl) dL_law_534 rfl (Nat.le_of_ble_eq_true rfl) [0, 1] [] rfl (by decide) rfl (by decide) (by decide) (fun q => [((a 52), .inr (15, [.ref (a 53), .ref (a 54), .ref (a 55), .ref (a 56), .ref (a 57), .ref (a 58), .ref (a 59), .ref (a 60), .ref (a 61), .ref (a 62), .ref (a 63), .ref (a 64), .ref (a 65), .ref (a 66), .ref (a 67), .ref (a 68), .ref (a 69), .ref (a 70), .long 0, .int 1, .int 2, .int 0, .int 0, .int 0, .int 0, .int 0, .int 0])), ((a 54), .inr (2, [.int 0, .ref g.1, .int 0]))]) (fun _ => rfl) (fun q2 H locs hP hD hS => ?_)
  refine W.eq (g2 := F0 m 537 ls [.long 0]) rfl ?_
  refine lv_lstore (lv' := [(7, .long 0), (6, .int 1), (5, .int 0), (4, .ref (a 72)), (3, .ref (a 71)), (2, .ref (a 52)), (1, .ref (a 0)), (0, .ref b)]) hx hb dL_law_537 hl (by decide) rfl (fun ls hl => ?_)
  refine lv_aload_n hx hb dL_law_539 rfl (lv_at hl 5 rfl) ?_
  refine ct_V (wr := []) hSF hl.1 hP hD hS hA hK hGV (c17_X12_thrown l hfl D cA g (a 52) (a 53) (a 54) (a 55) (a 56) (a 57) (a 58) (a 59) (a 60) (a 61) (a 62) (a 63) (a 64) (a 65) (a 66) (a 67) (a 68) (a 69) (a 70)) goV_L_125 pd_X12_thrown ⟨(Nat.le_of_ble_eq_true rfl), (Nat.le_of_ble_eq_true rfl)⟩ ⟨(Nat.le_of_ble_eq_true rfl), (Nat.le_of_ble_eq_true rfl)⟩ (va_recv hK hP (ci := 15) (q0 := 0) rfl rfl) dL_law_540 rfl (Nat.le_of_ble_eq_true rfl) [0] [] rfl (by decide) rfl (by decide) (by decide) (fun q => [((a 52), .inr (15, [.ref (a 53), .ref (a 54), .ref (a 55), .ref (a 56), .ref (a 57), .ref (a 58), .ref (a 59), .ref (a 60), .ref (a 61), .ref (a 62), .ref (a 63), .ref (a 64), .ref (a 65), .ref (a 66), .ref (a 67), .ref (a 68), .ref (a 69), .ref (a 70), .long 0, .int 1, .int 2, .int 0, .int 0, .int 0, .int 0, .int 0, .int 0]))]) (fun _ => rfl) (fun q3 H locs hP hD hS => ?_)
  refine W.eq (g2 := F0 m 543 ls [.int 1]) rfl ?_
  refine lv_iload hx hb dL_law_543 (lv_at hl 1 rfl) ?_
  refine k_icmp_eq_t (tgt := 550) hx hb dL_law_545 (by decide) (by decide) ?_
  refine lv_iload hx hb dL_law_550 (lv_at hl 1 rfl) ?_
  refine k_if_ne_t (tgt := 566) hx hb dL_law_552 (by decide) (by decide) ?_
  refine lv_goto (tgt := 1963) hx hb dL_law_566 (by decide) ?_
  exact law_tail l hL C0 (Nat.le_of_ble_eq_true rfl) (Nat.le_of_ble_eq_true rfl) hS (lv_sub hl [2, 7] rfl)
set_option maxHeartbeats 4000000 in
set_option maxRecDepth 100000 in
theorem lc_6_0 {p : Program} {e : Env} {s : State} {m : MethodId} {below : List Frame} {meth : Method} {c : Code} (l : Launch) (hfl : l.stackTraces = false) {b L : Nat} {xs : Nat → Int32} (hL : L = 6) (C0 : lw_At p s m meth c b L xs) (D : va_G) (cA : Nat → ClassId) (g : gv_T) (hK : va_K D vwCl (TYS cA) s) (hGV : GV g (fun q : Nat => s.heap.size ≤ q) s s.heap) (a : Nat → Nat) {H : Heap} {locs : List Loc} (hP : va_P D vwCl (WL cA g a) H) (hD : va_D (fun q : Nat => s.heap.size ≤ q) (WL cA g a)) (hS : va_S (fun q : Nat => s.heap.size ≤ q) s.heap H locs) {ls : Array Slot} (hl : lv_has ls 9 [(5, .int 0), (4, .ref (a 72)), (3, .ref (a 71)), (2, .ref (a 52)), (1, .ref (a 0)), (0, .ref b)]) (k0 : (xs 2) = 0) (k1 : (xs 1) < 0) (k2 : (lg_cmp ((xs 1)).toInt64 0) < 0) : W p l e room_1 s m #[Value.ref b] below meth c H locs 73 8292 (lw_Z below #[Value.ref b] s) (F0 m 569 ls []) := by
  obtain ⟨hx, hb, hr, hml, hown, hts, hX, hbl, hlocks, hgv⟩ := id C0
  have hb : c.code = cL_law := hb
  have hown : s.vm.findClass RL = some m.cls := hown
  have hG : ∀ w ∈ GW, w.before #[Value.ref b] s = true := fun w hw => hts w (List.mem_filter.mp hw).1
  have hA : ∀ q : Nat, s.heap.size ≤ q → (fun q : Nat => s.heap.size ≤ q) q := fun _ h => h
  have hbA : ¬ (fun q : Nat => s.heap.size ≤ q) b := Nat.not_le.mpr hbl
  have hSF : CF p m c cL_law 9 s #[Value.ref b] RL := ⟨hx, hb, hml, hown, hG⟩
  have hP : va_P D vwCl [((a 0), .inr (9, [.ref (a 1), .ref (a 12), .ref (a 32), .ref (a 38), .ref (a 46)])), ((a 52), .inr (15, [.ref (a 53), .ref (a 54), .ref (a 55), .ref (a 56), .ref (a 57), .ref (a 58), .ref (a 59), .ref (a 60), .ref (a 61), .ref (a 62), .ref (a 63), .ref (a 64), .ref (a 65), .ref (a 66), .ref (a 67), .ref (a 68), .ref (a 69), .ref (a 70), .long 0, .int 0, .int 2, .int 0, .int 0, .int 0, .int 0, .int 0, .int 0])), ((a 53), .inr (2, [.int 0, .ref g.1, .int 0]))] H := hP.sub [0, 52, 53] rfl
  have hD : va_D (fun q : Nat => s.heap.size ≤ q) [((a 0), .inr (9, [.ref (a 1), .ref (a 12), .ref (a 32), .ref (a 38), .ref (a 46)])), ((a 52), .inr (15, [.ref (a 53), .ref (a 54), .ref (a 55), .ref (a 56), .ref (a 57), .ref (a 58), .ref (a 59), .ref (a 60), .ref (a 61), .ref (a 62), .ref (a 63), .ref (a 64), .ref (a 65), .ref (a 66), .ref (a 67), .ref (a 68), .ref (a 69), .ref (a 70), .long 0, .int 0, .int 2, .int 0, .int 0, .int 0, .int 0, .int 0, .int 0])), ((a 53), .inr (2, [.int 0, .ref g.1, .int 0]))] := hD.sub [0, 52, 53] (by decide) rfl
  have hl : lv_has ls 9 [(5, .int 0), (4, .ref (a 72)), (3, .ref (a 71)), (2, .ref (a 52)), (1, .ref (a 0)), (0, .ref b)] := hl
  refine lv_aload_n hx hb dL_law_569 rfl (lv_at hl 4 rfl) ?_
  refine lv_aload_n hx hb dL_law_570 rfl (lv_at hl 5 rfl) ?_
  refine lv_iload hx hb dL_law_571 (lv_at hl 0 rfl) ?_
  refine lv_iconst (v := 1) hx hb dL_law_573 (by decide) ?_
  refine k_iadd (v := 1) hx hb dL_law_574 (by decide) ?_
  refine k_script (x := (xs 1)) hx hb hX hbl hbA hS 1 (by decide) rfl (by subst hL; unfold vp_in; decide) dL_law_575 ?_
  refine lv_aload_n hx hb dL_law_576 rfl (lv_at hl 5 rfl) ?_
  refine lv_iload hx hb dL_law_577 (lv_at hl 0 rfl) ?_
  refine lv_iconst (v := 2) hx hb dL_law_579 (by decide) ?_
  refine k_iadd (v := 2) hx hb dL_law_580 (by decide) ?_
  refine k_script (x := (xs 2)) hx hb hX hbl hbA hS 2 (by decide) rfl (by subst hL; unfold vp_in; decide) dL_law_581 ?_
  refine k_if_eq_t (tgt := 589) hx hb dL_law_582 k0 (by decide) ?_
  refine lv_iconst (v := 0) hx hb dL_law_589 (by decide) ?_
  refine lv_aload_n hx hb dL_law_590 rfl (lv_at hl 2 rfl) ?_
  refine ct_SW (wr := [((a 52), .inr (15, [.ref (a 53), .ref (a 54), .ref (a 55), .ref (a 56), .ref (a 57), .ref (a 58), .ref (a 59), .ref (a 60), .ref (a 61), .ref (a 62), .ref (a 63), .ref (a 64), .ref (a 65), .ref (a 66), .ref (a 67), .ref (a 68), .ref (a 69), .ref (a 70), .long 0, .int 0, .int 2, .int 0, .int 0, .int 0, .int 0, .int 0, .int 0])), ((a 53), .inr (2, [.int 0, .ref g.1, .int 0]))]) hSF hl.1 hP hD hS hA hK hGV (c140_L_bearing l hfl D cA g (a 0) (a 71) (a 1) (a 12) (a 32) (a 38) (a 46) ((xs 1)) k1) goW_L_148 pd_L_bearing.2 ⟨(Nat.le_of_ble_eq_true rfl), (Nat.le_of_ble_eq_true rfl)⟩ ⟨(Nat.le_of_ble_eq_true rfl), (Nat.le_of_ble_eq_true rfl)⟩ dL_law_591 rfl (Nat.le_of_ble_eq_true rfl) [0] [1, 2] rfl (by decide) rfl (by decide) (by decide) (fun q => [((a 52), .inr (15, [.ref (a 53), .ref (a 54), .ref (a 55), .ref (a 56), .ref (a 57), .ref (a 58), .ref (a 59), .ref (a 60), .ref (a 61), .ref (a 62), .ref (a 63), .ref (a 64), .ref (a 65), .ref (a 66), .ref (a 67), .ref (a 68), .ref (a 69), .ref (a 70), .long 0, .int 0, .int 2, .int 0, .int 0, .int 0, .int 0, .int 0, .int 0])), ((a 53), .inr (2, [.int 0, .ref g.1, .int 0])), ((a 0), .inr (9, [.ref (a 1), .ref (a 12), .ref (a 32), .ref (a 38), .ref (a 46)]))]) (fun _ => rfl) (fun q1 H locs hP hD hS => ?_)
  refine W.eq (g2 := F0 m 594 ls [.int 1]) rfl ?_
  refine lv_istore (lv' := [(6, .int 1), (5, .int 0), (4, .ref (a 72)), (3, .ref (a 71)), (2, .ref (a 52)), (1, .ref (a 0)), (0, .ref b)]) hx hb dL_law_594 hl (by decide) rfl (fun ls hl => ?_)
  refine lv_aload_n hx hb dL_law_596 rfl (lv_at hl 4 rfl) ?_
  refine lv_aload_n hx hb dL_law_597 rfl (lv_at hl 6 rfl) ?_
  refine lv_iload hx hb dL_law_598 (lv_at hl 1 rfl) ?_
  refine lv_iconst (v := 1) hx hb dL_law_600 (by decide) ?_
  refine k_iadd (v := 1) hx hb dL_law_601 (by decide) ?_
  refine k_script (x := (xs 1)) hx hb hX hbl hbA hS 1 (by decide) rfl (by subst hL; unfold vp_in; decide) dL_law_602 ?_
  refine lv_aload_n hx hb dL_law_603 rfl (lv_at hl 6 rfl) ?_
  refine lv_iload hx hb dL_law_604 (lv_at hl 1 rfl) ?_
  refine lv_iconst (v := 2) hx hb dL_law_606 (by decide) ?_
  refine k_iadd (v := 2) hx hb dL_law_607 (by decide) ?_
  refine k_script (x := (xs 2)) hx hb hX hbl hbA hS 2 (by decide) rfl (by subst hL; unfold vp_in; decide) dL_law_608 ?_
  refine k_if_eq_t (tgt := 616) hx hb dL_law_609 k0 (by decide) ?_
  refine lv_iconst (v := 0) hx hb dL_law_616 (by decide) ?_
  refine ct_V (wr := []) hSF hl.1 hP hD hS hA hK hGV (c141_X12_bearing l hfl D cA g (a 52) (a 53) (a 54) (a 55) (a 56) (a 57) (a 58) (a 59) (a 60) (a 61) (a 62) (a 63) (a 64) (a 65) (a 66) (a 67) (a 68) (a 69) (a 70) ((xs 1)) k2) goV_L_151 pd_X12_bearing ⟨(Nat.le_of_ble_eq_true rfl), (Nat.le_of_ble_eq_true rfl)⟩ ⟨(Nat.le_of_ble_eq_true rfl), (Nat.le_of_ble_eq_true rfl)⟩ (va_recv hK hP (ci := 15) (q0 := 0) rfl rfl) dL_law_617 rfl (Nat.le_of_ble_eq_true rfl) [0, 1] [] rfl (by decide) rfl (by decide) (by decide) (fun q => [((a 52), .inr (15, [.ref (a 53), .ref (a 54), .ref (a 55), .ref (a 56), .ref (a 57), .ref (a 58), .ref (a 59), .ref (a 60), .ref (a 61), .ref (a 62), .ref (a 63), .ref (a 64), .ref (a 65), .ref (a 66), .ref (a 67), .ref (a 68), .ref (a 69), .ref (a 70), .long 0, .int 1, .int 2, .int 0, .int 0, .int 0, .int 0, .int 0, .int 0])), ((a 53), .inr (2, [.int 0, .ref g.1, .int 0]))]) (fun _ => rfl) (fun q2 H locs hP hD hS => ?_)
  refine W.eq (g2 := F0 m 620 ls [.long 0]) rfl ?_
  refine lv_lstore (lv' := [(7, .long 0), (6, .int 1), (5, .int 0), (4, .ref (a 72)), (3, .ref (a 71)), (2, .ref (a 52)), (1, .ref (a 0)), (0, .ref b)]) hx hb dL_law_620 hl (by decide) rfl (fun ls hl => ?_)
  refine lv_aload_n hx hb dL_law_622 rfl (lv_at hl 5 rfl) ?_
  refine ct_V (wr := []) hSF hl.1 hP hD hS hA hK hGV (c17_X12_thrown l hfl D cA g (a 52) (a 53) (a 54) (a 55) (a 56) (a 57) (a 58) (a 59) (a 60) (a 61) (a 62) (a 63) (a 64) (a 65) (a 66) (a 67) (a 68) (a 69) (a 70)) goV_L_125 pd_X12_thrown ⟨(Nat.le_of_ble_eq_true rfl), (Nat.le_of_ble_eq_true rfl)⟩ ⟨(Nat.le_of_ble_eq_true rfl), (Nat.le_of_ble_eq_true rfl)⟩ (va_recv hK hP (ci := 15) (q0 := 0) rfl rfl) dL_law_623 rfl (Nat.le_of_ble_eq_true rfl) [0] [] rfl (by decide) rfl (by decide) (by decide) (fun q => [((a 52), .inr (15, [.ref (a 53), .ref (a 54), .ref (a 55), .ref (a 56), .ref (a 57), .ref (a 58), .ref (a 59), .ref (a 60), .ref (a 61), .ref (a 62), .ref (a 63), .ref (a 64), .ref (a 65), .ref (a 66), .ref (a 67), .ref (a 68), .ref (a 69), .ref (a 70), .long 0, .int 1, .int 2, .int 0, .int 0, .int 0, .int 0, .int 0, .int 0]))]) (fun _ => rfl) (fun q3 H locs hP hD hS => ?_)
  refine W.eq (g2 := F0 m 626 ls [.int 1]) rfl ?_
  refine lv_iload hx hb dL_law_626 (lv_at hl 1 rfl) ?_
  refine k_icmp_eq_t (tgt := 633) hx hb dL_law_628 (by decide) (by decide) ?_
  refine lv_iload hx hb dL_law_633 (lv_at hl 1 rfl) ?_
  refine k_if_ne_t (tgt := 649) hx hb dL_law_635 (by decide) (by decide) ?_
  refine lv_goto (tgt := 1963) hx hb dL_law_649 (by decide) ?_
  exact law_tail l hL C0 (Nat.le_of_ble_eq_true rfl) (Nat.le_of_ble_eq_true rfl) hS (lv_sub hl [2, 7] rfl)
set_option maxHeartbeats 4000000 in
set_option maxRecDepth 100000 in
theorem lc_6_1 {p : Program} {e : Env} {s : State} {m : MethodId} {below : List Frame} {meth : Method} {c : Code} (l : Launch) (hfl : l.stackTraces = false) {b L : Nat} {xs : Nat → Int32} (hL : L = 6) (C0 : lw_At p s m meth c b L xs) (D : va_G) (cA : Nat → ClassId) (g : gv_T) (hK : va_K D vwCl (TYS cA) s) (hGV : GV g (fun q : Nat => s.heap.size ≤ q) s s.heap) (a : Nat → Nat) {H : Heap} {locs : List Loc} (hP : va_P D vwCl (WL cA g a) H) (hD : va_D (fun q : Nat => s.heap.size ≤ q) (WL cA g a)) (hS : va_S (fun q : Nat => s.heap.size ≤ q) s.heap H locs) {ls : Array Slot} (hl : lv_has ls 9 [(5, .int 0), (4, .ref (a 72)), (3, .ref (a 71)), (2, .ref (a 52)), (1, .ref (a 0)), (0, .ref b)]) (k0 : ¬ (xs 2) = 0) (k1 : (xs 1) < 0) (k2 : (lg_cmp ((xs 1)).toInt64 0) < 0) : W p l e room_1 s m #[Value.ref b] below meth c H locs 73 8292 (lw_Z below #[Value.ref b] s) (F0 m 569 ls []) := by
  obtain ⟨hx, hb, hr, hml, hown, hts, hX, hbl, hlocks, hgv⟩ := id C0
  have hb : c.code = cL_law := hb
  have hown : s.vm.findClass RL = some m.cls := hown
  have hG : ∀ w ∈ GW, w.before #[Value.ref b] s = true := fun w hw => hts w (List.mem_filter.mp hw).1
  have hA : ∀ q : Nat, s.heap.size ≤ q → (fun q : Nat => s.heap.size ≤ q) q := fun _ h => h
  have hbA : ¬ (fun q : Nat => s.heap.size ≤ q) b := Nat.not_le.mpr hbl
  have hSF : CF p m c cL_law 9 s #[Value.ref b] RL := ⟨hx, hb, hml, hown, hG⟩
  have hP : va_P D vwCl [((a 0), .inr (9, [.ref (a 1), .ref (a 12), .ref (a 32), .ref (a 38), .ref (a 46)])), ((a 52), .inr (15, [.ref (a 53), .ref (a 54), .ref (a 55), .ref (a 56), .ref (a 57), .ref (a 58), .ref (a 59), .ref (a 60), .ref (a 61), .ref (a 62), .ref (a 63), .ref (a 64), .ref (a 65), .ref (a 66), .ref (a 67), .ref (a 68), .ref (a 69), .ref (a 70), .long 0, .int 0, .int 2, .int 0, .int 0, .int 0, .int 0, .int 0, .int 0])), ((a 53), .inr (2, [.int 0, .ref g.1, .int 0]))] H := hP.sub [0, 52, 53] rfl
  have hD : va_D (fun q : Nat => s.heap.size ≤ q) [((a 0), .inr (9, [.ref (a 1), .ref (a 12), .ref (a 32), .ref (a 38), .ref (a 46)])), ((a 52), .inr (15, [.ref (a 53), .ref (a 54), .ref (a 55), .ref (a 56), .ref (a 57), .ref (a 58), .ref (a 59), .ref (a 60), .ref (a 61), .ref (a 62), .ref (a 63), .ref (a 64), .ref (a 65), .ref (a 66), .ref (a 67), .ref (a 68), .ref (a 69), .ref (a 70), .long 0, .int 0, .int 2, .int 0, .int 0, .int 0, .int 0, .int 0, .int 0])), ((a 53), .inr (2, [.int 0, .ref g.1, .int 0]))] := hD.sub [0, 52, 53] (by decide) rfl
  have hl : lv_has ls 9 [(5, .int 0), (4, .ref (a 72)), (3, .ref (a 71)), (2, .ref (a 52)), (1, .ref (a 0)), (0, .ref b)] := hl
  refine lv_aload_n hx hb dL_law_569 rfl (lv_at hl 4 rfl) ?_
  refine lv_aload_n hx hb dL_law_570 rfl (lv_at hl 5 rfl) ?_
  refine lv_iload hx hb dL_law_571 (lv_at hl 0 rfl) ?_
  refine lv_iconst (v := 1) hx hb dL_law_573 (by decide) ?_
  refine k_iadd (v := 1) hx hb dL_law_574 (by decide) ?_
  refine k_script (x := (xs 1)) hx hb hX hbl hbA hS 1 (by decide) rfl (by subst hL; unfold vp_in; decide) dL_law_575 ?_
  refine lv_aload_n hx hb dL_law_576 rfl (lv_at hl 5 rfl) ?_
  refine lv_iload hx hb dL_law_577 (lv_at hl 0 rfl) ?_
  refine lv_iconst (v := 2) hx hb dL_law_579 (by decide) ?_
  refine k_iadd (v := 2) hx hb dL_law_580 (by decide) ?_
  refine k_script (x := (xs 2)) hx hb hX hbl hbA hS 2 (by decide) rfl (by subst hL; unfold vp_in; decide) dL_law_581 ?_
  refine k_if_eq_f (tgt := 589) hx hb dL_law_582 k0 (by decide) ?_
  refine lv_iconst (v := 1) hx hb dL_law_585 (by decide) ?_
  refine lv_goto (tgt := 590) hx hb dL_law_586 (by decide) ?_
  refine lv_aload_n hx hb dL_law_590 rfl (lv_at hl 2 rfl) ?_
  refine ct_SW (wr := [((a 52), .inr (15, [.ref (a 53), .ref (a 54), .ref (a 55), .ref (a 56), .ref (a 57), .ref (a 58), .ref (a 59), .ref (a 60), .ref (a 61), .ref (a 62), .ref (a 63), .ref (a 64), .ref (a 65), .ref (a 66), .ref (a 67), .ref (a 68), .ref (a 69), .ref (a 70), .long 0, .int 0, .int 2, .int 0, .int 0, .int 0, .int 0, .int 0, .int 0])), ((a 53), .inr (2, [.int 0, .ref g.1, .int 0]))]) hSF hl.1 hP hD hS hA hK hGV (c143_L_bearing l hfl D cA g (a 0) (a 71) (a 1) (a 12) (a 32) (a 38) (a 46) ((xs 1)) k1) goW_L_148 pd_L_bearing.2 ⟨(Nat.le_of_ble_eq_true rfl), (Nat.le_of_ble_eq_true rfl)⟩ ⟨(Nat.le_of_ble_eq_true rfl), (Nat.le_of_ble_eq_true rfl)⟩ dL_law_591 rfl (Nat.le_of_ble_eq_true rfl) [0] [1, 2] rfl (by decide) rfl (by decide) (by decide) (fun q => [((a 52), .inr (15, [.ref (a 53), .ref (a 54), .ref (a 55), .ref (a 56), .ref (a 57), .ref (a 58), .ref (a 59), .ref (a 60), .ref (a 61), .ref (a 62), .ref (a 63), .ref (a 64), .ref (a 65), .ref (a 66), .ref (a 67), .ref (a 68), .ref (a 69), .ref (a 70), .long 0, .int 0, .int 2, .int 0, .int 0, .int 0, .int 0, .int 0, .int 0])), ((a 53), .inr (2, [.int 0, .ref g.1, .int 0])), ((a 0), .inr (9, [.ref (a 1), .ref (a 12), .ref (a 32), .ref (a 38), .ref (a 46)]))]) (fun _ => rfl) (fun q1 H locs hP hD hS => ?_)
  refine W.eq (g2 := F0 m 594 ls [.int 1]) rfl ?_
  refine lv_istore (lv' := [(6, .int 1), (5, .int 0), (4, .ref (a 72)), (3, .ref (a 71)), (2, .ref (a 52)), (1, .ref (a 0)), (0, .ref b)]) hx hb dL_law_594 hl (by decide) rfl (fun ls hl => ?_)
  refine lv_aload_n hx hb dL_law_596 rfl (lv_at hl 4 rfl) ?_
  refine lv_aload_n hx hb dL_law_597 rfl (lv_at hl 6 rfl) ?_
  refine lv_iload hx hb dL_law_598 (lv_at hl 1 rfl) ?_
  refine lv_iconst (v := 1) hx hb dL_law_600 (by decide) ?_
  refine k_iadd (v := 1) hx hb dL_law_601 (by decide) ?_
  refine k_script (x := (xs 1)) hx hb hX hbl hbA hS 1 (by decide) rfl (by subst hL; unfold vp_in; decide) dL_law_602 ?_
  refine lv_aload_n hx hb dL_law_603 rfl (lv_at hl 6 rfl) ?_
  refine lv_iload hx hb dL_law_604 (lv_at hl 1 rfl) ?_
  refine lv_iconst (v := 2) hx hb dL_law_606 (by decide) ?_
  refine k_iadd (v := 2) hx hb dL_law_607 (by decide) ?_
  refine k_script (x := (xs 2)) hx hb hX hbl hbA hS 2 (by decide) rfl (by subst hL; unfold vp_in; decide) dL_law_608 ?_
  refine k_if_eq_f (tgt := 616) hx hb dL_law_609 k0 (by decide) ?_
  refine lv_iconst (v := 1) hx hb dL_law_612 (by decide) ?_
  refine lv_goto (tgt := 617) hx hb dL_law_613 (by decide) ?_
  refine ct_V (wr := []) hSF hl.1 hP hD hS hA hK hGV (c144_X12_bearing l hfl D cA g (a 52) (a 53) (a 54) (a 55) (a 56) (a 57) (a 58) (a 59) (a 60) (a 61) (a 62) (a 63) (a 64) (a 65) (a 66) (a 67) (a 68) (a 69) (a 70) ((xs 1)) k2) goV_L_151 pd_X12_bearing ⟨(Nat.le_of_ble_eq_true rfl), (Nat.le_of_ble_eq_true rfl)⟩ ⟨(Nat.le_of_ble_eq_true rfl), (Nat.le_of_ble_eq_true rfl)⟩ (va_recv hK hP (ci := 15) (q0 := 0) rfl rfl) dL_law_617 rfl (Nat.le_of_ble_eq_true rfl) [0, 1] [] rfl (by decide) rfl (by decide) (by decide) (fun q => [((a 52), .inr (15, [.ref (a 53), .ref (a 54), .ref (a 55), .ref (a 56), .ref (a 57), .ref (a 58), .ref (a 59), .ref (a 60), .ref (a 61), .ref (a 62), .ref (a 63), .ref (a 64), .ref (a 65), .ref (a 66), .ref (a 67), .ref (a 68), .ref (a 69), .ref (a 70), .long 0, .int 1, .int 2, .int 0, .int 0, .int 0, .int 0, .int 0, .int 0])), ((a 53), .inr (2, [.int 0, .ref g.1, .int 0]))]) (fun _ => rfl) (fun q2 H locs hP hD hS => ?_)
  refine W.eq (g2 := F0 m 620 ls [.long 0]) rfl ?_
  refine lv_lstore (lv' := [(7, .long 0), (6, .int 1), (5, .int 0), (4, .ref (a 72)), (3, .ref (a 71)), (2, .ref (a 52)), (1, .ref (a 0)), (0, .ref b)]) hx hb dL_law_620 hl (by decide) rfl (fun ls hl => ?_)
  refine lv_aload_n hx hb dL_law_622 rfl (lv_at hl 5 rfl) ?_
  refine ct_V (wr := []) hSF hl.1 hP hD hS hA hK hGV (c17_X12_thrown l hfl D cA g (a 52) (a 53) (a 54) (a 55) (a 56) (a 57) (a 58) (a 59) (a 60) (a 61) (a 62) (a 63) (a 64) (a 65) (a 66) (a 67) (a 68) (a 69) (a 70)) goV_L_125 pd_X12_thrown ⟨(Nat.le_of_ble_eq_true rfl), (Nat.le_of_ble_eq_true rfl)⟩ ⟨(Nat.le_of_ble_eq_true rfl), (Nat.le_of_ble_eq_true rfl)⟩ (va_recv hK hP (ci := 15) (q0 := 0) rfl rfl) dL_law_623 rfl (Nat.le_of_ble_eq_true rfl) [0] [] rfl (by decide) rfl (by decide) (by decide) (fun q => [((a 52), .inr (15, [.ref (a 53), .ref (a 54), .ref (a 55), .ref (a 56), .ref (a 57), .ref (a 58), .ref (a 59), .ref (a 60), .ref (a 61), .ref (a 62), .ref (a 63), .ref (a 64), .ref (a 65), .ref (a 66), .ref (a 67), .ref (a 68), .ref (a 69), .ref (a 70), .long 0, .int 1, .int 2, .int 0, .int 0, .int 0, .int 0, .int 0, .int 0]))]) (fun _ => rfl) (fun q3 H locs hP hD hS => ?_)
  refine W.eq (g2 := F0 m 626 ls [.int 1]) rfl ?_
  refine lv_iload hx hb dL_law_626 (lv_at hl 1 rfl) ?_
  refine k_icmp_eq_t (tgt := 633) hx hb dL_law_628 (by decide) (by decide) ?_
  refine lv_iload hx hb dL_law_633 (lv_at hl 1 rfl) ?_
  refine k_if_ne_t (tgt := 649) hx hb dL_law_635 (by decide) (by decide) ?_
  refine lv_goto (tgt := 1963) hx hb dL_law_649 (by decide) ?_
  exact law_tail l hL C0 (Nat.le_of_ble_eq_true rfl) (Nat.le_of_ble_eq_true rfl) hS (lv_sub hl [2, 7] rfl)
set_option maxHeartbeats 4000000 in
set_option maxRecDepth 100000 in
theorem lc_6_2 {p : Program} {e : Env} {s : State} {m : MethodId} {below : List Frame} {meth : Method} {c : Code} (l : Launch) (hfl : l.stackTraces = false) {b L : Nat} {xs : Nat → Int32} (hL : L = 6) (C0 : lw_At p s m meth c b L xs) (D : va_G) (cA : Nat → ClassId) (g : gv_T) (hK : va_K D vwCl (TYS cA) s) (hGV : GV g (fun q : Nat => s.heap.size ≤ q) s s.heap) (a : Nat → Nat) {H : Heap} {locs : List Loc} (hP : va_P D vwCl (WL cA g a) H) (hD : va_D (fun q : Nat => s.heap.size ≤ q) (WL cA g a)) (hS : va_S (fun q : Nat => s.heap.size ≤ q) s.heap H locs) {ls : Array Slot} (hl : lv_has ls 9 [(5, .int 0), (4, .ref (a 72)), (3, .ref (a 71)), (2, .ref (a 52)), (1, .ref (a 0)), (0, .ref b)]) (k0 : (xs 2) = 0) (k1 : ¬ (xs 1) < 0) (k2 : ¬ (lg_cmp ((xs 1)).toInt64 0) < 0) (k3 : 0 < (lg_cmp ((xs 1)).toInt64 (-1))) : W p l e room_1 s m #[Value.ref b] below meth c H locs 73 8292 (lw_Z below #[Value.ref b] s) (F0 m 569 ls []) := by
  obtain ⟨hx, hb, hr, hml, hown, hts, hX, hbl, hlocks, hgv⟩ := id C0
  have hb : c.code = cL_law := hb
  have hown : s.vm.findClass RL = some m.cls := hown
  have hG : ∀ w ∈ GW, w.before #[Value.ref b] s = true := fun w hw => hts w (List.mem_filter.mp hw).1
  have hA : ∀ q : Nat, s.heap.size ≤ q → (fun q : Nat => s.heap.size ≤ q) q := fun _ h => h
  have hbA : ¬ (fun q : Nat => s.heap.size ≤ q) b := Nat.not_le.mpr hbl
  have hSF : CF p m c cL_law 9 s #[Value.ref b] RL := ⟨hx, hb, hml, hown, hG⟩
  have hP : va_P D vwCl [((a 0), .inr (9, [.ref (a 1), .ref (a 12), .ref (a 32), .ref (a 38), .ref (a 46)])), ((a 1), .inr (5, [.int 0, .int 0, .ref (a 2), .ref (a 3), .ref (a 4), .ref (a 5), .ref (a 6), .ref (a 7), .ref (a 8), .ref (a 9), .ref (a 10), .ref (a 11)])), ((a 52), .inr (15, [.ref (a 53), .ref (a 54), .ref (a 55), .ref (a 56), .ref (a 57), .ref (a 58), .ref (a 59), .ref (a 60), .ref (a 61), .ref (a 62), .ref (a 63), .ref (a 64), .ref (a 65), .ref (a 66), .ref (a 67), .ref (a 68), .ref (a 69), .ref (a 70), .long 0, .int 0, .int 2, .int 0, .int 0, .int 0, .int 0, .int 0, .int 0])), ((a 53), .inr (2, [.int 0, .ref g.1, .int 0]))] H := hP.sub [0, 1, 52, 53] rfl
  have hD : va_D (fun q : Nat => s.heap.size ≤ q) [((a 0), .inr (9, [.ref (a 1), .ref (a 12), .ref (a 32), .ref (a 38), .ref (a 46)])), ((a 1), .inr (5, [.int 0, .int 0, .ref (a 2), .ref (a 3), .ref (a 4), .ref (a 5), .ref (a 6), .ref (a 7), .ref (a 8), .ref (a 9), .ref (a 10), .ref (a 11)])), ((a 52), .inr (15, [.ref (a 53), .ref (a 54), .ref (a 55), .ref (a 56), .ref (a 57), .ref (a 58), .ref (a 59), .ref (a 60), .ref (a 61), .ref (a 62), .ref (a 63), .ref (a 64), .ref (a 65), .ref (a 66), .ref (a 67), .ref (a 68), .ref (a 69), .ref (a 70), .long 0, .int 0, .int 2, .int 0, .int 0, .int 0, .int 0, .int 0, .int 0])), ((a 53), .inr (2, [.int 0, .ref g.1, .int 0]))] := hD.sub [0, 1, 52, 53] (by decide) rfl
  have hl : lv_has ls 9 [(5, .int 0), (4, .ref (a 72)), (3, .ref (a 71)), (2, .ref (a 52)), (1, .ref (a 0)), (0, .ref b)] := hl
  refine lv_aload_n hx hb dL_law_569 rfl (lv_at hl 4 rfl) ?_
  refine lv_aload_n hx hb dL_law_570 rfl (lv_at hl 5 rfl) ?_
  refine lv_iload hx hb dL_law_571 (lv_at hl 0 rfl) ?_
  refine lv_iconst (v := 1) hx hb dL_law_573 (by decide) ?_
  refine k_iadd (v := 1) hx hb dL_law_574 (by decide) ?_
  refine k_script (x := (xs 1)) hx hb hX hbl hbA hS 1 (by decide) rfl (by subst hL; unfold vp_in; decide) dL_law_575 ?_
  refine lv_aload_n hx hb dL_law_576 rfl (lv_at hl 5 rfl) ?_
  refine lv_iload hx hb dL_law_577 (lv_at hl 0 rfl) ?_
  refine lv_iconst (v := 2) hx hb dL_law_579 (by decide) ?_
  refine k_iadd (v := 2) hx hb dL_law_580 (by decide) ?_
  refine k_script (x := (xs 2)) hx hb hX hbl hbA hS 2 (by decide) rfl (by subst hL; unfold vp_in; decide) dL_law_581 ?_
  refine k_if_eq_t (tgt := 589) hx hb dL_law_582 k0 (by decide) ?_
  refine lv_iconst (v := 0) hx hb dL_law_589 (by decide) ?_
  refine lv_aload_n hx hb dL_law_590 rfl (lv_at hl 2 rfl) ?_
  refine ct_SW (wr := [((a 52), .inr (15, [.ref (a 53), .ref (a 54), .ref (a 55), .ref (a 56), .ref (a 57), .ref (a 58), .ref (a 59), .ref (a 60), .ref (a 61), .ref (a 62), .ref (a 63), .ref (a 64), .ref (a 65), .ref (a 66), .ref (a 67), .ref (a 68), .ref (a 69), .ref (a 70), .long 0, .int 0, .int 2, .int 0, .int 0, .int 0, .int 0, .int 0, .int 0])), ((a 53), .inr (2, [.int 0, .ref g.1, .int 0]))]) hSF hl.1 hP hD hS hA hK hGV (c146_L_bearing l hfl D cA g (a 0) (a 71) (a 1) (a 12) (a 32) (a 38) (a 46) (a 2) (a 3) (a 4) (a 5) (a 6) (a 7) (a 8) (a 9) (a 10) (a 11) ((xs 1)) k1) goW_L_148 pd_L_bearing.2 ⟨(Nat.le_of_ble_eq_true rfl), (Nat.le_of_ble_eq_true rfl)⟩ ⟨(Nat.le_of_ble_eq_true rfl), (Nat.le_of_ble_eq_true rfl)⟩ dL_law_591 rfl (Nat.le_of_ble_eq_true rfl) [0, 1] [2, 3] rfl (by decide) rfl (by decide) (by decide) (fun q => [((a 52), .inr (15, [.ref (a 53), .ref (a 54), .ref (a 55), .ref (a 56), .ref (a 57), .ref (a 58), .ref (a 59), .ref (a 60), .ref (a 61), .ref (a 62), .ref (a 63), .ref (a 64), .ref (a 65), .ref (a 66), .ref (a 67), .ref (a 68), .ref (a 69), .ref (a 70), .long 0, .int 0, .int 2, .int 0, .int 0, .int 0, .int 0, .int 0, .int 0])), ((a 53), .inr (2, [.int 0, .ref g.1, .int 0])), ((a 0), .inr (9, [.ref (a 1), .ref (a 12), .ref (a 32), .ref (a 38), .ref (a 46)])), ((a 1), .inr (5, [.int 0, .int 0, .ref (a 2), .ref (a 3), .ref (a 4), .ref (a 5), .ref (a 6), .ref (a 7), .ref (a 8), .ref (a 9), .ref (a 10), .ref (a 11)]))]) (fun _ => rfl) (fun q1 H locs hP hD hS => ?_)
  refine W.eq (g2 := F0 m 594 ls [.int 1]) rfl ?_
  refine lv_istore (lv' := [(6, .int 1), (5, .int 0), (4, .ref (a 72)), (3, .ref (a 71)), (2, .ref (a 52)), (1, .ref (a 0)), (0, .ref b)]) hx hb dL_law_594 hl (by decide) rfl (fun ls hl => ?_)
  refine lv_aload_n hx hb dL_law_596 rfl (lv_at hl 4 rfl) ?_
  refine lv_aload_n hx hb dL_law_597 rfl (lv_at hl 6 rfl) ?_
  refine lv_iload hx hb dL_law_598 (lv_at hl 1 rfl) ?_
  refine lv_iconst (v := 1) hx hb dL_law_600 (by decide) ?_
  refine k_iadd (v := 1) hx hb dL_law_601 (by decide) ?_
  refine k_script (x := (xs 1)) hx hb hX hbl hbA hS 1 (by decide) rfl (by subst hL; unfold vp_in; decide) dL_law_602 ?_
  refine lv_aload_n hx hb dL_law_603 rfl (lv_at hl 6 rfl) ?_
  refine lv_iload hx hb dL_law_604 (lv_at hl 1 rfl) ?_
  refine lv_iconst (v := 2) hx hb dL_law_606 (by decide) ?_
  refine k_iadd (v := 2) hx hb dL_law_607 (by decide) ?_
  refine k_script (x := (xs 2)) hx hb hX hbl hbA hS 2 (by decide) rfl (by subst hL; unfold vp_in; decide) dL_law_608 ?_
  refine k_if_eq_t (tgt := 616) hx hb dL_law_609 k0 (by decide) ?_
  refine lv_iconst (v := 0) hx hb dL_law_616 (by decide) ?_
  refine ct_V (wr := []) hSF hl.1 hP hD hS hA hK hGV (c147_X12_bearing l hfl D cA g (a 52) (a 53) (a 54) (a 55) (a 56) (a 57) (a 58) (a 59) (a 60) (a 61) (a 62) (a 63) (a 64) (a 65) (a 66) (a 67) (a 68) (a 69) (a 70) ((xs 1)) k2 k3) goV_L_151 pd_X12_bearing ⟨(Nat.le_of_ble_eq_true rfl), (Nat.le_of_ble_eq_true rfl)⟩ ⟨(Nat.le_of_ble_eq_true rfl), (Nat.le_of_ble_eq_true rfl)⟩ (va_recv hK hP (ci := 15) (q0 := 0) rfl rfl) dL_law_617 rfl (Nat.le_of_ble_eq_true rfl) [0, 1] [] rfl (by decide) rfl (by decide) (by decide) (fun q => [((a 52), .inr (15, [.ref (a 53), .ref (a 54), .ref (a 55), .ref (a 56), .ref (a 57), .ref (a 58), .ref (a 59), .ref (a 60), .ref (a 61), .ref (a 62), .ref (a 63), .ref (a 64), .ref (a 65), .ref (a 66), .ref (a 67), .ref (a 68), .ref (a 69), .ref (a 70), .long 0, .int 1, .int 2, .int 0, .int 0, .int 0, .int 0, .int 0, .int 0])), ((a 53), .inr (2, [.int 0, .ref g.1, .int 0]))]) (fun _ => rfl) (fun q2 H locs hP hD hS => ?_)
  refine W.eq (g2 := F0 m 620 ls [.long 0]) rfl ?_
  refine lv_lstore (lv' := [(7, .long 0), (6, .int 1), (5, .int 0), (4, .ref (a 72)), (3, .ref (a 71)), (2, .ref (a 52)), (1, .ref (a 0)), (0, .ref b)]) hx hb dL_law_620 hl (by decide) rfl (fun ls hl => ?_)
  refine lv_aload_n hx hb dL_law_622 rfl (lv_at hl 5 rfl) ?_
  refine ct_V (wr := []) hSF hl.1 hP hD hS hA hK hGV (c17_X12_thrown l hfl D cA g (a 52) (a 53) (a 54) (a 55) (a 56) (a 57) (a 58) (a 59) (a 60) (a 61) (a 62) (a 63) (a 64) (a 65) (a 66) (a 67) (a 68) (a 69) (a 70)) goV_L_125 pd_X12_thrown ⟨(Nat.le_of_ble_eq_true rfl), (Nat.le_of_ble_eq_true rfl)⟩ ⟨(Nat.le_of_ble_eq_true rfl), (Nat.le_of_ble_eq_true rfl)⟩ (va_recv hK hP (ci := 15) (q0 := 0) rfl rfl) dL_law_623 rfl (Nat.le_of_ble_eq_true rfl) [0] [] rfl (by decide) rfl (by decide) (by decide) (fun q => [((a 52), .inr (15, [.ref (a 53), .ref (a 54), .ref (a 55), .ref (a 56), .ref (a 57), .ref (a 58), .ref (a 59), .ref (a 60), .ref (a 61), .ref (a 62), .ref (a 63), .ref (a 64), .ref (a 65), .ref (a 66), .ref (a 67), .ref (a 68), .ref (a 69), .ref (a 70), .long 0, .int 1, .int 2, .int 0, .int 0, .int 0, .int 0, .int 0, .int 0]))]) (fun _ => rfl) (fun q3 H locs hP hD hS => ?_)
  refine W.eq (g2 := F0 m 626 ls [.int 1]) rfl ?_
  refine lv_iload hx hb dL_law_626 (lv_at hl 1 rfl) ?_
  refine k_icmp_eq_t (tgt := 633) hx hb dL_law_628 (by decide) (by decide) ?_
  refine lv_iload hx hb dL_law_633 (lv_at hl 1 rfl) ?_
  refine k_if_ne_t (tgt := 649) hx hb dL_law_635 (by decide) (by decide) ?_
  refine lv_goto (tgt := 1963) hx hb dL_law_649 (by decide) ?_
  exact law_tail l hL C0 (Nat.le_of_ble_eq_true rfl) (Nat.le_of_ble_eq_true rfl) hS (lv_sub hl [2, 7] rfl)
set_option maxHeartbeats 4000000 in
set_option maxRecDepth 100000 in
theorem lc_6_3 {p : Program} {e : Env} {s : State} {m : MethodId} {below : List Frame} {meth : Method} {c : Code} (l : Launch) (hfl : l.stackTraces = false) {b L : Nat} {xs : Nat → Int32} (hL : L = 6) (C0 : lw_At p s m meth c b L xs) (D : va_G) (cA : Nat → ClassId) (g : gv_T) (hK : va_K D vwCl (TYS cA) s) (hGV : GV g (fun q : Nat => s.heap.size ≤ q) s s.heap) (a : Nat → Nat) {H : Heap} {locs : List Loc} (hP : va_P D vwCl (WL cA g a) H) (hD : va_D (fun q : Nat => s.heap.size ≤ q) (WL cA g a)) (hS : va_S (fun q : Nat => s.heap.size ≤ q) s.heap H locs) {ls : Array Slot} (hl : lv_has ls 9 [(5, .int 0), (4, .ref (a 72)), (3, .ref (a 71)), (2, .ref (a 52)), (1, .ref (a 0)), (0, .ref b)]) (k0 : ¬ (xs 2) = 0) (k1 : ¬ (xs 1) < 0) (k2 : ¬ (lg_cmp ((xs 1)).toInt64 0) < 0) (k3 : 0 < (lg_cmp ((xs 1)).toInt64 (-1))) : W p l e room_1 s m #[Value.ref b] below meth c H locs 73 8292 (lw_Z below #[Value.ref b] s) (F0 m 569 ls []) := by
  obtain ⟨hx, hb, hr, hml, hown, hts, hX, hbl, hlocks, hgv⟩ := id C0
  have hb : c.code = cL_law := hb
  have hown : s.vm.findClass RL = some m.cls := hown
  have hG : ∀ w ∈ GW, w.before #[Value.ref b] s = true := fun w hw => hts w (List.mem_filter.mp hw).1
  have hA : ∀ q : Nat, s.heap.size ≤ q → (fun q : Nat => s.heap.size ≤ q) q := fun _ h => h
  have hbA : ¬ (fun q : Nat => s.heap.size ≤ q) b := Nat.not_le.mpr hbl
  have hSF : CF p m c cL_law 9 s #[Value.ref b] RL := ⟨hx, hb, hml, hown, hG⟩
  have hP : va_P D vwCl [((a 0), .inr (9, [.ref (a 1), .ref (a 12), .ref (a 32), .ref (a 38), .ref (a 46)])), ((a 1), .inr (5, [.int 0, .int 0, .ref (a 2), .ref (a 3), .ref (a 4), .ref (a 5), .ref (a 6), .ref (a 7), .ref (a 8), .ref (a 9), .ref (a 10), .ref (a 11)])), ((a 52), .inr (15, [.ref (a 53), .ref (a 54), .ref (a 55), .ref (a 56), .ref (a 57), .ref (a 58), .ref (a 59), .ref (a 60), .ref (a 61), .ref (a 62), .ref (a 63), .ref (a 64), .ref (a 65), .ref (a 66), .ref (a 67), .ref (a 68), .ref (a 69), .ref (a 70), .long 0, .int 0, .int 2, .int 0, .int 0, .int 0, .int 0, .int 0, .int 0])), ((a 53), .inr (2, [.int 0, .ref g.1, .int 0]))] H := hP.sub [0, 1, 52, 53] rfl
  have hD : va_D (fun q : Nat => s.heap.size ≤ q) [((a 0), .inr (9, [.ref (a 1), .ref (a 12), .ref (a 32), .ref (a 38), .ref (a 46)])), ((a 1), .inr (5, [.int 0, .int 0, .ref (a 2), .ref (a 3), .ref (a 4), .ref (a 5), .ref (a 6), .ref (a 7), .ref (a 8), .ref (a 9), .ref (a 10), .ref (a 11)])), ((a 52), .inr (15, [.ref (a 53), .ref (a 54), .ref (a 55), .ref (a 56), .ref (a 57), .ref (a 58), .ref (a 59), .ref (a 60), .ref (a 61), .ref (a 62), .ref (a 63), .ref (a 64), .ref (a 65), .ref (a 66), .ref (a 67), .ref (a 68), .ref (a 69), .ref (a 70), .long 0, .int 0, .int 2, .int 0, .int 0, .int 0, .int 0, .int 0, .int 0])), ((a 53), .inr (2, [.int 0, .ref g.1, .int 0]))] := hD.sub [0, 1, 52, 53] (by decide) rfl
  have hl : lv_has ls 9 [(5, .int 0), (4, .ref (a 72)), (3, .ref (a 71)), (2, .ref (a 52)), (1, .ref (a 0)), (0, .ref b)] := hl
  refine lv_aload_n hx hb dL_law_569 rfl (lv_at hl 4 rfl) ?_
  refine lv_aload_n hx hb dL_law_570 rfl (lv_at hl 5 rfl) ?_
  refine lv_iload hx hb dL_law_571 (lv_at hl 0 rfl) ?_
  refine lv_iconst (v := 1) hx hb dL_law_573 (by decide) ?_
  refine k_iadd (v := 1) hx hb dL_law_574 (by decide) ?_
  refine k_script (x := (xs 1)) hx hb hX hbl hbA hS 1 (by decide) rfl (by subst hL; unfold vp_in; decide) dL_law_575 ?_
  refine lv_aload_n hx hb dL_law_576 rfl (lv_at hl 5 rfl) ?_
  refine lv_iload hx hb dL_law_577 (lv_at hl 0 rfl) ?_
  refine lv_iconst (v := 2) hx hb dL_law_579 (by decide) ?_
  refine k_iadd (v := 2) hx hb dL_law_580 (by decide) ?_
  refine k_script (x := (xs 2)) hx hb hX hbl hbA hS 2 (by decide) rfl (by subst hL; unfold vp_in; decide) dL_law_581 ?_
  refine k_if_eq_f (tgt := 589) hx hb dL_law_582 k0 (by decide) ?_
  refine lv_iconst (v := 1) hx hb dL_law_585 (by decide) ?_
  refine lv_goto (tgt := 590) hx hb dL_law_586 (by decide) ?_
  refine lv_aload_n hx hb dL_law_590 rfl (lv_at hl 2 rfl) ?_
  refine ct_SW (wr := [((a 52), .inr (15, [.ref (a 53), .ref (a 54), .ref (a 55), .ref (a 56), .ref (a 57), .ref (a 58), .ref (a 59), .ref (a 60), .ref (a 61), .ref (a 62), .ref (a 63), .ref (a 64), .ref (a 65), .ref (a 66), .ref (a 67), .ref (a 68), .ref (a 69), .ref (a 70), .long 0, .int 0, .int 2, .int 0, .int 0, .int 0, .int 0, .int 0, .int 0])), ((a 53), .inr (2, [.int 0, .ref g.1, .int 0]))]) hSF hl.1 hP hD hS hA hK hGV (c149_L_bearing l hfl D cA g (a 0) (a 71) (a 1) (a 12) (a 32) (a 38) (a 46) (a 2) (a 3) (a 4) (a 5) (a 6) (a 7) (a 8) (a 9) (a 10) (a 11) ((xs 1)) k1) goW_L_148 pd_L_bearing.2 ⟨(Nat.le_of_ble_eq_true rfl), (Nat.le_of_ble_eq_true rfl)⟩ ⟨(Nat.le_of_ble_eq_true rfl), (Nat.le_of_ble_eq_true rfl)⟩ dL_law_591 rfl (Nat.le_of_ble_eq_true rfl) [0, 1] [2, 3] rfl (by decide) rfl (by decide) (by decide) (fun q => [((a 52), .inr (15, [.ref (a 53), .ref (a 54), .ref (a 55), .ref (a 56), .ref (a 57), .ref (a 58), .ref (a 59), .ref (a 60), .ref (a 61), .ref (a 62), .ref (a 63), .ref (a 64), .ref (a 65), .ref (a 66), .ref (a 67), .ref (a 68), .ref (a 69), .ref (a 70), .long 0, .int 0, .int 2, .int 0, .int 0, .int 0, .int 0, .int 0, .int 0])), ((a 53), .inr (2, [.int 0, .ref g.1, .int 0])), ((a 0), .inr (9, [.ref (a 1), .ref (a 12), .ref (a 32), .ref (a 38), .ref (a 46)])), ((a 1), .inr (5, [.int 0, .int 0, .ref (a 2), .ref (a 3), .ref (a 4), .ref (a 5), .ref (a 6), .ref (a 7), .ref (a 8), .ref (a 9), .ref (a 10), .ref (a 11)]))]) (fun _ => rfl) (fun q1 H locs hP hD hS => ?_)
  refine W.eq (g2 := F0 m 594 ls [.int 1]) rfl ?_
  refine lv_istore (lv' := [(6, .int 1), (5, .int 0), (4, .ref (a 72)), (3, .ref (a 71)), (2, .ref (a 52)), (1, .ref (a 0)), (0, .ref b)]) hx hb dL_law_594 hl (by decide) rfl (fun ls hl => ?_)
  refine lv_aload_n hx hb dL_law_596 rfl (lv_at hl 4 rfl) ?_
  refine lv_aload_n hx hb dL_law_597 rfl (lv_at hl 6 rfl) ?_
  refine lv_iload hx hb dL_law_598 (lv_at hl 1 rfl) ?_
  refine lv_iconst (v := 1) hx hb dL_law_600 (by decide) ?_
  refine k_iadd (v := 1) hx hb dL_law_601 (by decide) ?_
  refine k_script (x := (xs 1)) hx hb hX hbl hbA hS 1 (by decide) rfl (by subst hL; unfold vp_in; decide) dL_law_602 ?_
  refine lv_aload_n hx hb dL_law_603 rfl (lv_at hl 6 rfl) ?_
  refine lv_iload hx hb dL_law_604 (lv_at hl 1 rfl) ?_
  refine lv_iconst (v := 2) hx hb dL_law_606 (by decide) ?_
  refine k_iadd (v := 2) hx hb dL_law_607 (by decide) ?_
  refine k_script (x := (xs 2)) hx hb hX hbl hbA hS 2 (by decide) rfl (by subst hL; unfold vp_in; decide) dL_law_608 ?_
  refine k_if_eq_f (tgt := 616) hx hb dL_law_609 k0 (by decide) ?_
  refine lv_iconst (v := 1) hx hb dL_law_612 (by decide) ?_
  refine lv_goto (tgt := 617) hx hb dL_law_613 (by decide) ?_
  refine ct_V (wr := []) hSF hl.1 hP hD hS hA hK hGV (c150_X12_bearing l hfl D cA g (a 52) (a 53) (a 54) (a 55) (a 56) (a 57) (a 58) (a 59) (a 60) (a 61) (a 62) (a 63) (a 64) (a 65) (a 66) (a 67) (a 68) (a 69) (a 70) ((xs 1)) k2 k3) goV_L_151 pd_X12_bearing ⟨(Nat.le_of_ble_eq_true rfl), (Nat.le_of_ble_eq_true rfl)⟩ ⟨(Nat.le_of_ble_eq_true rfl), (Nat.le_of_ble_eq_true rfl)⟩ (va_recv hK hP (ci := 15) (q0 := 0) rfl rfl) dL_law_617 rfl (Nat.le_of_ble_eq_true rfl) [0, 1] [] rfl (by decide) rfl (by decide) (by decide) (fun q => [((a 52), .inr (15, [.ref (a 53), .ref (a 54), .ref (a 55), .ref (a 56), .ref (a 57), .ref (a 58), .ref (a 59), .ref (a 60), .ref (a 61), .ref (a 62), .ref (a 63), .ref (a 64), .ref (a 65), .ref (a 66), .ref (a 67), .ref (a 68), .ref (a 69), .ref (a 70), .long 0, .int 1, .int 2, .int 0, .int 0, .int 0, .int 0, .int 0, .int 0])), ((a 53), .inr (2, [.int 0, .ref g.1, .int 0]))]) (fun _ => rfl) (fun q2 H locs hP hD hS => ?_)
  refine W.eq (g2 := F0 m 620 ls [.long 0]) rfl ?_
  refine lv_lstore (lv' := [(7, .long 0), (6, .int 1), (5, .int 0), (4, .ref (a 72)), (3, .ref (a 71)), (2, .ref (a 52)), (1, .ref (a 0)), (0, .ref b)]) hx hb dL_law_620 hl (by decide) rfl (fun ls hl => ?_)
  refine lv_aload_n hx hb dL_law_622 rfl (lv_at hl 5 rfl) ?_
  refine ct_V (wr := []) hSF hl.1 hP hD hS hA hK hGV (c17_X12_thrown l hfl D cA g (a 52) (a 53) (a 54) (a 55) (a 56) (a 57) (a 58) (a 59) (a 60) (a 61) (a 62) (a 63) (a 64) (a 65) (a 66) (a 67) (a 68) (a 69) (a 70)) goV_L_125 pd_X12_thrown ⟨(Nat.le_of_ble_eq_true rfl), (Nat.le_of_ble_eq_true rfl)⟩ ⟨(Nat.le_of_ble_eq_true rfl), (Nat.le_of_ble_eq_true rfl)⟩ (va_recv hK hP (ci := 15) (q0 := 0) rfl rfl) dL_law_623 rfl (Nat.le_of_ble_eq_true rfl) [0] [] rfl (by decide) rfl (by decide) (by decide) (fun q => [((a 52), .inr (15, [.ref (a 53), .ref (a 54), .ref (a 55), .ref (a 56), .ref (a 57), .ref (a 58), .ref (a 59), .ref (a 60), .ref (a 61), .ref (a 62), .ref (a 63), .ref (a 64), .ref (a 65), .ref (a 66), .ref (a 67), .ref (a 68), .ref (a 69), .ref (a 70), .long 0, .int 1, .int 2, .int 0, .int 0, .int 0, .int 0, .int 0, .int 0]))]) (fun _ => rfl) (fun q3 H locs hP hD hS => ?_)
  refine W.eq (g2 := F0 m 626 ls [.int 1]) rfl ?_
  refine lv_iload hx hb dL_law_626 (lv_at hl 1 rfl) ?_
  refine k_icmp_eq_t (tgt := 633) hx hb dL_law_628 (by decide) (by decide) ?_
  refine lv_iload hx hb dL_law_633 (lv_at hl 1 rfl) ?_
  refine k_if_ne_t (tgt := 649) hx hb dL_law_635 (by decide) (by decide) ?_
  refine lv_goto (tgt := 1963) hx hb dL_law_649 (by decide) ?_
  exact law_tail l hL C0 (Nat.le_of_ble_eq_true rfl) (Nat.le_of_ble_eq_true rfl) hS (lv_sub hl [2, 7] rfl)
set_option maxHeartbeats 4000000 in
set_option maxRecDepth 100000 in
theorem lc_7_0 {p : Program} {e : Env} {s : State} {m : MethodId} {below : List Frame} {meth : Method} {c : Code} (l : Launch) (hfl : l.stackTraces = false) {b L : Nat} {xs : Nat → Int32} (hL : L = 6) (C0 : lw_At p s m meth c b L xs) (D : va_G) (cA : Nat → ClassId) (g : gv_T) (hK : va_K D vwCl (TYS cA) s) (hGV : GV g (fun q : Nat => s.heap.size ≤ q) s s.heap) (a : Nat → Nat) {H : Heap} {locs : List Loc} (hP : va_P D vwCl (WL cA g a) H) (hD : va_D (fun q : Nat => s.heap.size ≤ q) (WL cA g a)) (hS : va_S (fun q : Nat => s.heap.size ≤ q) s.heap H locs) {ls : Array Slot} (hl : lv_has ls 9 [(5, .int 0), (4, .ref (a 72)), (3, .ref (a 71)), (2, .ref (a 52)), (1, .ref (a 0)), (0, .ref b)]) (k0 : (xs 1) < 0) (k1 : (lg_cmp ((xs 1)).toInt64 0) < 0) : W p l e room_1 s m #[Value.ref b] below meth c H locs 73 8292 (lw_Z below #[Value.ref b] s) (F0 m 652 ls []) := by
  obtain ⟨hx, hb, hr, hml, hown, hts, hX, hbl, hlocks, hgv⟩ := id C0
  have hb : c.code = cL_law := hb
  have hown : s.vm.findClass RL = some m.cls := hown
  have hG : ∀ w ∈ GW, w.before #[Value.ref b] s = true := fun w hw => hts w (List.mem_filter.mp hw).1
  have hA : ∀ q : Nat, s.heap.size ≤ q → (fun q : Nat => s.heap.size ≤ q) q := fun _ h => h
  have hbA : ¬ (fun q : Nat => s.heap.size ≤ q) b := Nat.not_le.mpr hbl
  have hSF : CF p m c cL_law 9 s #[Value.ref b] RL := ⟨hx, hb, hml, hown, hG⟩
  have hP : va_P D vwCl [((a 0), .inr (9, [.ref (a 1), .ref (a 12), .ref (a 32), .ref (a 38), .ref (a 46)])), ((a 52), .inr (15, [.ref (a 53), .ref (a 54), .ref (a 55), .ref (a 56), .ref (a 57), .ref (a 58), .ref (a 59), .ref (a 60), .ref (a 61), .ref (a 62), .ref (a 63), .ref (a 64), .ref (a 65), .ref (a 66), .ref (a 67), .ref (a 68), .ref (a 69), .ref (a 70), .long 0, .int 0, .int 2, .int 0, .int 0, .int 0, .int 0, .int 0, .int 0]))] H := hP.sub [0, 52] rfl
  have hD : va_D (fun q : Nat => s.heap.size ≤ q) [((a 0), .inr (9, [.ref (a 1), .ref (a 12), .ref (a 32), .ref (a 38), .ref (a 46)])), ((a 52), .inr (15, [.ref (a 53), .ref (a 54), .ref (a 55), .ref (a 56), .ref (a 57), .ref (a 58), .ref (a 59), .ref (a 60), .ref (a 61), .ref (a 62), .ref (a 63), .ref (a 64), .ref (a 65), .ref (a 66), .ref (a 67), .ref (a 68), .ref (a 69), .ref (a 70), .long 0, .int 0, .int 2, .int 0, .int 0, .int 0, .int 0, .int 0, .int 0]))] := hD.sub [0, 52] (by decide) rfl
  have hl : lv_has ls 9 [(5, .int 0), (4, .ref (a 72)), (3, .ref (a 71)), (2, .ref (a 52)), (1, .ref (a 0)), (0, .ref b)] := hl
  refine lv_aload_n hx hb dL_law_652 rfl (lv_at hl 4 rfl) ?_
  refine lv_aload_n hx hb dL_law_653 rfl (lv_at hl 5 rfl) ?_
  refine lv_iload hx hb dL_law_654 (lv_at hl 0 rfl) ?_
  refine lv_iconst (v := 1) hx hb dL_law_656 (by decide) ?_
  refine k_iadd (v := 1) hx hb dL_law_657 (by decide) ?_
  refine k_script (x := (xs 1)) hx hb hX hbl hbA hS 1 (by decide) rfl (by subst hL; unfold vp_in; decide) dL_law_658 ?_
  refine lv_aload_n hx hb dL_law_659 rfl (lv_at hl 2 rfl) ?_
  refine ct_SW (wr := [((a 52), .inr (15, [.ref (a 53), .ref (a 54), .ref (a 55), .ref (a 56), .ref (a 57), .ref (a 58), .ref (a 59), .ref (a 60), .ref (a 61), .ref (a 62), .ref (a 63), .ref (a 64), .ref (a 65), .ref (a 66), .ref (a 67), .ref (a 68), .ref (a 69), .ref (a 70), .long 0, .int 0, .int 2, .int 0, .int 0, .int 0, .int 0, .int 0, .int 0]))]) hSF hl.1 hP hD hS hA hK hGV (c152_L_isBalanced l hfl D cA g (a 0) (a 71) (a 1) (a 12) (a 32) (a 38) (a 46) ((xs 1)) k0) goW_L_152 pd_L_isBalanced.2 ⟨(Nat.le_of_ble_eq_true rfl), (Nat.le_of_ble_eq_true rfl)⟩ ⟨(Nat.le_of_ble_eq_true rfl), (Nat.le_of_ble_eq_true rfl)⟩ dL_law_660 rfl (Nat.le_of_ble_eq_true rfl) [0] [1] rfl (by decide) rfl (by decide) (by decide) (fun q => [((a 52), .inr (15, [.ref (a 53), .ref (a 54), .ref (a 55), .ref (a 56), .ref (a 57), .ref (a 58), .ref (a 59), .ref (a 60), .ref (a 61), .ref (a 62), .ref (a 63), .ref (a 64), .ref (a 65), .ref (a 66), .ref (a 67), .ref (a 68), .ref (a 69), .ref (a 70), .long 0, .int 0, .int 2, .int 0, .int 0, .int 0, .int 0, .int 0, .int 0])), ((a 0), .inr (9, [.ref (a 1), .ref (a 12), .ref (a 32), .ref (a 38), .ref (a 46)]))]) (fun _ => rfl) (fun q1 H locs hP hD hS => ?_)
  refine W.eq (g2 := F0 m 663 ls [.int 1]) rfl ?_
  refine lv_istore (lv' := [(6, .int 1), (5, .int 0), (4, .ref (a 72)), (3, .ref (a 71)), (2, .ref (a 52)), (1, .ref (a 0)), (0, .ref b)]) hx hb dL_law_663 hl (by decide) rfl (fun ls hl => ?_)
  refine lv_aload_n hx hb dL_law_665 rfl (lv_at hl 4 rfl) ?_
  refine lv_aload_n hx hb dL_law_666 rfl (lv_at hl 6 rfl) ?_
  refine lv_iload hx hb dL_law_667 (lv_at hl 1 rfl) ?_
  refine lv_iconst (v := 1) hx hb dL_law_669 (by decide) ?_
  refine k_iadd (v := 1) hx hb dL_law_670 (by decide) ?_
  refine k_script (x := (xs 1)) hx hb hX hbl hbA hS 1 (by decide) rfl (by subst hL; unfold vp_in; decide) dL_law_671 ?_
  refine ct_V (wr := []) hSF hl.1 hP hD hS hA hK hGV (c154_X12_isBalanced l hfl D cA g (a 52) (a 53) (a 54) (a 55) (a 56) (a 57) (a 58) (a 59) (a 60) (a 61) (a 62) (a 63) (a 64) (a 65) (a 66) (a 67) (a 68) (a 69) (a 70) ((xs 1)) k1) goV_L_154 pd_X12_isBalanced ⟨(Nat.le_of_ble_eq_true rfl), (Nat.le_of_ble_eq_true rfl)⟩ ⟨(Nat.le_of_ble_eq_true rfl), (Nat.le_of_ble_eq_true rfl)⟩ (va_recv hK hP (ci := 15) (q0 := 0) rfl rfl) dL_law_672 rfl (Nat.le_of_ble_eq_true rfl) [0] [] rfl (by decide) rfl (by decide) (by decide) (fun q => [((a 52), .inr (15, [.ref (a 53), .ref (a 54), .ref (a 55), .ref (a 56), .ref (a 57), .ref (a 58), .ref (a 59), .ref (a 60), .ref (a 61), .ref (a 62), .ref (a 63), .ref (a 64), .ref (a 65), .ref (a 66), .ref (a 67), .ref (a 68), .ref (a 69), .ref (a 70), .long 0, .int 1, .int 2, .int 0, .int 0, .int 0, .int 0, .int 0, .int 0]))]) (fun _ => rfl) (fun q2 H locs hP hD hS => ?_)
  refine W.eq (g2 := F0 m 675 ls [.int 0]) rfl ?_
  refine lv_istore (lv' := [(7, .int 0), (6, .int 1), (5, .int 0), (4, .ref (a 72)), (3, .ref (a 71)), (2, .ref (a 52)), (1, .ref (a 0)), (0, .ref b)]) hx hb dL_law_675 hl (by decide) rfl (fun ls hl => ?_)
  refine lv_aload_n hx hb dL_law_677 rfl (lv_at hl 5 rfl) ?_
  refine ct_V (wr := []) hSF hl.1 hP hD hS hA hK hGV (c17_X12_thrown l hfl D cA g (a 52) (a 53) (a 54) (a 55) (a 56) (a 57) (a 58) (a 59) (a 60) (a 61) (a 62) (a 63) (a 64) (a 65) (a 66) (a 67) (a 68) (a 69) (a 70)) goV_L_125 pd_X12_thrown ⟨(Nat.le_of_ble_eq_true rfl), (Nat.le_of_ble_eq_true rfl)⟩ ⟨(Nat.le_of_ble_eq_true rfl), (Nat.le_of_ble_eq_true rfl)⟩ (va_recv hK hP (ci := 15) (q0 := 0) rfl rfl) dL_law_678 rfl (Nat.le_of_ble_eq_true rfl) [0] [] rfl (by decide) rfl (by decide) (by decide) (fun q => [((a 52), .inr (15, [.ref (a 53), .ref (a 54), .ref (a 55), .ref (a 56), .ref (a 57), .ref (a 58), .ref (a 59), .ref (a 60), .ref (a 61), .ref (a 62), .ref (a 63), .ref (a 64), .ref (a 65), .ref (a 66), .ref (a 67), .ref (a 68), .ref (a 69), .ref (a 70), .long 0, .int 1, .int 2, .int 0, .int 0, .int 0, .int 0, .int 0, .int 0]))]) (fun _ => rfl) (fun q3 H locs hP hD hS => ?_)
  refine W.eq (g2 := F0 m 681 ls [.int 1]) rfl ?_
  refine lv_iload hx hb dL_law_681 (lv_at hl 1 rfl) ?_
  refine k_icmp_eq_t (tgt := 688) hx hb dL_law_683 (by decide) (by decide) ?_
  refine lv_iload hx hb dL_law_688 (lv_at hl 1 rfl) ?_
  refine k_if_ne_t (tgt := 712) hx hb dL_law_690 (by decide) (by decide) ?_
  refine lv_goto (tgt := 1963) hx hb dL_law_712 (by decide) ?_
  exact law_tail l hL C0 (Nat.le_of_ble_eq_true rfl) (Nat.le_of_ble_eq_true rfl) hS (lv_sub hl [2, 7] rfl)
set_option maxHeartbeats 4000000 in
set_option maxRecDepth 100000 in
theorem lc_7_1 {p : Program} {e : Env} {s : State} {m : MethodId} {below : List Frame} {meth : Method} {c : Code} (l : Launch) (hfl : l.stackTraces = false) {b L : Nat} {xs : Nat → Int32} (hL : L = 6) (C0 : lw_At p s m meth c b L xs) (D : va_G) (cA : Nat → ClassId) (g : gv_T) (hK : va_K D vwCl (TYS cA) s) (hGV : GV g (fun q : Nat => s.heap.size ≤ q) s s.heap) (a : Nat → Nat) {H : Heap} {locs : List Loc} (hP : va_P D vwCl (WL cA g a) H) (hD : va_D (fun q : Nat => s.heap.size ≤ q) (WL cA g a)) (hS : va_S (fun q : Nat => s.heap.size ≤ q) s.heap H locs) {ls : Array Slot} (hl : lv_has ls 9 [(5, .int 0), (4, .ref (a 72)), (3, .ref (a 71)), (2, .ref (a 52)), (1, .ref (a 0)), (0, .ref b)]) (k0 : ¬ (xs 1) < 0) (k1 : 30 < (xs 1)) (k2 : ¬ (lg_cmp ((xs 1)).toInt64 0) < 0) (k3 : 0 < (lg_cmp ((xs 1)).toInt64 30)) : W p l e room_1 s m #[Value.ref b] below meth c H locs 73 8292 (lw_Z below #[Value.ref b] s) (F0 m 652 ls []) := by
  obtain ⟨hx, hb, hr, hml, hown, hts, hX, hbl, hlocks, hgv⟩ := id C0
  have hb : c.code = cL_law := hb
  have hown : s.vm.findClass RL = some m.cls := hown
  have hG : ∀ w ∈ GW, w.before #[Value.ref b] s = true := fun w hw => hts w (List.mem_filter.mp hw).1
  have hA : ∀ q : Nat, s.heap.size ≤ q → (fun q : Nat => s.heap.size ≤ q) q := fun _ h => h
  have hbA : ¬ (fun q : Nat => s.heap.size ≤ q) b := Nat.not_le.mpr hbl
  have hSF : CF p m c cL_law 9 s #[Value.ref b] RL := ⟨hx, hb, hml, hown, hG⟩
  have hP : va_P D vwCl [((a 0), .inr (9, [.ref (a 1), .ref (a 12), .ref (a 32), .ref (a 38), .ref (a 46)])), ((a 52), .inr (15, [.ref (a 53), .ref (a 54), .ref (a 55), .ref (a 56), .ref (a 57), .ref (a 58), .ref (a 59), .ref (a 60), .ref (a 61), .ref (a 62), .ref (a 63), .ref (a 64), .ref (a 65), .ref (a 66), .ref (a 67), .ref (a 68), .ref (a 69), .ref (a 70), .long 0, .int 0, .int 2, .int 0, .int 0, .int 0, .int 0, .int 0, .int 0]))] H := hP.sub [0, 52] rfl
  have hD : va_D (fun q : Nat => s.heap.size ≤ q) [((a 0), .inr (9, [.ref (a 1), .ref (a 12), .ref (a 32), .ref (a 38), .ref (a 46)])), ((a 52), .inr (15, [.ref (a 53), .ref (a 54), .ref (a 55), .ref (a 56), .ref (a 57), .ref (a 58), .ref (a 59), .ref (a 60), .ref (a 61), .ref (a 62), .ref (a 63), .ref (a 64), .ref (a 65), .ref (a 66), .ref (a 67), .ref (a 68), .ref (a 69), .ref (a 70), .long 0, .int 0, .int 2, .int 0, .int 0, .int 0, .int 0, .int 0, .int 0]))] := hD.sub [0, 52] (by decide) rfl
  have hl : lv_has ls 9 [(5, .int 0), (4, .ref (a 72)), (3, .ref (a 71)), (2, .ref (a 52)), (1, .ref (a 0)), (0, .ref b)] := hl
  refine lv_aload_n hx hb dL_law_652 rfl (lv_at hl 4 rfl) ?_
  refine lv_aload_n hx hb dL_law_653 rfl (lv_at hl 5 rfl) ?_
  refine lv_iload hx hb dL_law_654 (lv_at hl 0 rfl) ?_
  refine lv_iconst (v := 1) hx hb dL_law_656 (by decide) ?_
  refine k_iadd (v := 1) hx hb dL_law_657 (by decide) ?_
  refine k_script (x := (xs 1)) hx hb hX hbl hbA hS 1 (by decide) rfl (by subst hL; unfold vp_in; decide) dL_law_658 ?_
  refine lv_aload_n hx hb dL_law_659 rfl (lv_at hl 2 rfl) ?_
  refine ct_SW (wr := [((a 52), .inr (15, [.ref (a 53), .ref (a 54), .ref (a 55), .ref (a 56), .ref (a 57), .ref (a 58), .ref (a 59), .ref (a 60), .ref (a 61), .ref (a 62), .ref (a 63), .ref (a 64), .ref (a 65), .ref (a 66), .ref (a 67), .ref (a 68), .ref (a 69), .ref (a 70), .long 0, .int 0, .int 2, .int 0, .int 0, .int 0, .int 0, .int 0, .int 0]))]) hSF hl.1 hP hD hS hA hK hGV (c156_L_isBalanced l hfl D cA g (a 0) (a 71) (a 1) (a 12) (a 32) (a 38) (a 46) ((xs 1)) k0 k1) goW_L_152 pd_L_isBalanced.2 ⟨(Nat.le_of_ble_eq_true rfl), (Nat.le_of_ble_eq_true rfl)⟩ ⟨(Nat.le_of_ble_eq_true rfl), (Nat.le_of_ble_eq_true rfl)⟩ dL_law_660 rfl (Nat.le_of_ble_eq_true rfl) [0] [1] rfl (by decide) rfl (by decide) (by decide) (fun q => [((a 52), .inr (15, [.ref (a 53), .ref (a 54), .ref (a 55), .ref (a 56), .ref (a 57), .ref (a 58), .ref (a 59), .ref (a 60), .ref (a 61), .ref (a 62), .ref (a 63), .ref (a 64), .ref (a 65), .ref (a 66), .ref (a 67), .ref (a 68), .ref (a 69), .ref (a 70), .long 0, .int 0, .int 2, .int 0, .int 0, .int 0, .int 0, .int 0, .int 0])), ((a 0), .inr (9, [.ref (a 1), .ref (a 12), .ref (a 32), .ref (a 38), .ref (a 46)]))]) (fun _ => rfl) (fun q1 H locs hP hD hS => ?_)
  refine W.eq (g2 := F0 m 663 ls [.int 1]) rfl ?_
  refine lv_istore (lv' := [(6, .int 1), (5, .int 0), (4, .ref (a 72)), (3, .ref (a 71)), (2, .ref (a 52)), (1, .ref (a 0)), (0, .ref b)]) hx hb dL_law_663 hl (by decide) rfl (fun ls hl => ?_)
  refine lv_aload_n hx hb dL_law_665 rfl (lv_at hl 4 rfl) ?_
  refine lv_aload_n hx hb dL_law_666 rfl (lv_at hl 6 rfl) ?_
  refine lv_iload hx hb dL_law_667 (lv_at hl 1 rfl) ?_
  refine lv_iconst (v := 1) hx hb dL_law_669 (by decide) ?_
  refine k_iadd (v := 1) hx hb dL_law_670 (by decide) ?_
  refine k_script (x := (xs 1)) hx hb hX hbl hbA hS 1 (by decide) rfl (by subst hL; unfold vp_in; decide) dL_law_671 ?_
  refine ct_V (wr := []) hSF hl.1 hP hD hS hA hK hGV (c157_X12_isBalanced l hfl D cA g (a 52) (a 53) (a 54) (a 55) (a 56) (a 57) (a 58) (a 59) (a 60) (a 61) (a 62) (a 63) (a 64) (a 65) (a 66) (a 67) (a 68) (a 69) (a 70) ((xs 1)) k2 k3) goV_L_154 pd_X12_isBalanced ⟨(Nat.le_of_ble_eq_true rfl), (Nat.le_of_ble_eq_true rfl)⟩ ⟨(Nat.le_of_ble_eq_true rfl), (Nat.le_of_ble_eq_true rfl)⟩ (va_recv hK hP (ci := 15) (q0 := 0) rfl rfl) dL_law_672 rfl (Nat.le_of_ble_eq_true rfl) [0] [] rfl (by decide) rfl (by decide) (by decide) (fun q => [((a 52), .inr (15, [.ref (a 53), .ref (a 54), .ref (a 55), .ref (a 56), .ref (a 57), .ref (a 58), .ref (a 59), .ref (a 60), .ref (a 61), .ref (a 62), .ref (a 63), .ref (a 64), .ref (a 65), .ref (a 66), .ref (a 67), .ref (a 68), .ref (a 69), .ref (a 70), .long 0, .int 1, .int 2, .int 0, .int 0, .int 0, .int 0, .int 0, .int 0]))]) (fun _ => rfl) (fun q2 H locs hP hD hS => ?_)
  refine W.eq (g2 := F0 m 675 ls [.int 0]) rfl ?_
  refine lv_istore (lv' := [(7, .int 0), (6, .int 1), (5, .int 0), (4, .ref (a 72)), (3, .ref (a 71)), (2, .ref (a 52)), (1, .ref (a 0)), (0, .ref b)]) hx hb dL_law_675 hl (by decide) rfl (fun ls hl => ?_)
  refine lv_aload_n hx hb dL_law_677 rfl (lv_at hl 5 rfl) ?_
  refine ct_V (wr := []) hSF hl.1 hP hD hS hA hK hGV (c17_X12_thrown l hfl D cA g (a 52) (a 53) (a 54) (a 55) (a 56) (a 57) (a 58) (a 59) (a 60) (a 61) (a 62) (a 63) (a 64) (a 65) (a 66) (a 67) (a 68) (a 69) (a 70)) goV_L_125 pd_X12_thrown ⟨(Nat.le_of_ble_eq_true rfl), (Nat.le_of_ble_eq_true rfl)⟩ ⟨(Nat.le_of_ble_eq_true rfl), (Nat.le_of_ble_eq_true rfl)⟩ (va_recv hK hP (ci := 15) (q0 := 0) rfl rfl) dL_law_678 rfl (Nat.le_of_ble_eq_true rfl) [0] [] rfl (by decide) rfl (by decide) (by decide) (fun q => [((a 52), .inr (15, [.ref (a 53), .ref (a 54), .ref (a 55), .ref (a 56), .ref (a 57), .ref (a 58), .ref (a 59), .ref (a 60), .ref (a 61), .ref (a 62), .ref (a 63), .ref (a 64), .ref (a 65), .ref (a 66), .ref (a 67), .ref (a 68), .ref (a 69), .ref (a 70), .long 0, .int 1, .int 2, .int 0, .int 0, .int 0, .int 0, .int 0, .int 0]))]) (fun _ => rfl) (fun q3 H locs hP hD hS => ?_)
  refine W.eq (g2 := F0 m 681 ls [.int 1]) rfl ?_
  refine lv_iload hx hb dL_law_681 (lv_at hl 1 rfl) ?_
  refine k_icmp_eq_t (tgt := 688) hx hb dL_law_683 (by decide) (by decide) ?_
  refine lv_iload hx hb dL_law_688 (lv_at hl 1 rfl) ?_
  refine k_if_ne_t (tgt := 712) hx hb dL_law_690 (by decide) (by decide) ?_
  refine lv_goto (tgt := 1963) hx hb dL_law_712 (by decide) ?_
  exact law_tail l hL C0 (Nat.le_of_ble_eq_true rfl) (Nat.le_of_ble_eq_true rfl) hS (lv_sub hl [2, 7] rfl)
set_option maxHeartbeats 4000000 in
set_option maxRecDepth 100000 in
theorem lc_7_2 {p : Program} {e : Env} {s : State} {m : MethodId} {below : List Frame} {meth : Method} {c : Code} (l : Launch) (hfl : l.stackTraces = false) {b L : Nat} {xs : Nat → Int32} (hL : L = 6) (C0 : lw_At p s m meth c b L xs) (D : va_G) (cA : Nat → ClassId) (g : gv_T) (hK : va_K D vwCl (TYS cA) s) (hGV : GV g (fun q : Nat => s.heap.size ≤ q) s s.heap) (a : Nat → Nat) {H : Heap} {locs : List Loc} (hP : va_P D vwCl (WL cA g a) H) (hD : va_D (fun q : Nat => s.heap.size ≤ q) (WL cA g a)) (hS : va_S (fun q : Nat => s.heap.size ≤ q) s.heap H locs) {ls : Array Slot} (hl : lv_has ls 9 [(5, .int 0), (4, .ref (a 72)), (3, .ref (a 71)), (2, .ref (a 52)), (1, .ref (a 0)), (0, .ref b)]) (k0 : ¬ (xs 1) < 0) (k1 : ¬ 30 < (xs 1)) (k2 : ¬ (lg_cmp ((xs 1)).toInt64 0) < 0) (k3 : ¬ 0 < (lg_cmp ((xs 1)).toInt64 30)) : W p l e room_1 s m #[Value.ref b] below meth c H locs 73 8292 (lw_Z below #[Value.ref b] s) (F0 m 652 ls []) := by
  obtain ⟨hx, hb, hr, hml, hown, hts, hX, hbl, hlocks, hgv⟩ := id C0
  have hb : c.code = cL_law := hb
  have hown : s.vm.findClass RL = some m.cls := hown
  have hG : ∀ w ∈ GW, w.before #[Value.ref b] s = true := fun w hw => hts w (List.mem_filter.mp hw).1
  have hA : ∀ q : Nat, s.heap.size ≤ q → (fun q : Nat => s.heap.size ≤ q) q := fun _ h => h
  have hbA : ¬ (fun q : Nat => s.heap.size ≤ q) b := Nat.not_le.mpr hbl
  have hSF : CF p m c cL_law 9 s #[Value.ref b] RL := ⟨hx, hb, hml, hown, hG⟩
  have hP : va_P D vwCl [((a 0), .inr (9, [.ref (a 1), .ref (a 12), .ref (a 32), .ref (a 38), .ref (a 46)])), ((a 1), .inr (5, [.int 0, .int 0, .ref (a 2), .ref (a 3), .ref (a 4), .ref (a 5), .ref (a 6), .ref (a 7), .ref (a 8), .ref (a 9), .ref (a 10), .ref (a 11)])), ((a 12), .inr (4, [.int 0, .int 0, .long 0, .ref (a 13), .ref (a 14), .ref (a 15), .ref (a 16), .ref (a 17), .ref (a 18), .ref (a 19), .ref (a 20), .ref (a 21), .ref (a 22), .ref (a 24), .ref (a 26), .ref (a 28), .ref (a 30)])), ((a 19), .inl (cA 1, 512, .inr (.inl (fun _ => 0)))), ((a 24), .inr (8, [.ref (a 25)])), ((a 25), .inl (cA 1, 8, .inr (.inl (fun _ => 0)))), ((a 52), .inr (15, [.ref (a 53), .ref (a 54), .ref (a 55), .ref (a 56), .ref (a 57), .ref (a 58), .ref (a 59), .ref (a 60), .ref (a 61), .ref (a 62), .ref (a 63), .ref (a 64), .ref (a 65), .ref (a 66), .ref (a 67), .ref (a 68), .ref (a 69), .ref (a 70), .long 0, .int 0, .int 2, .int 0, .int 0, .int 0, .int 0, .int 0, .int 0])), ((a 53), .inr (2, [.int 0, .ref g.1, .int 0])), ((a 54), .inr (2, [.int 0, .ref g.1, .int 0])), ((a 57), .inl (cA 1, 512, .inr (.inl (fun _ => 0)))), ((a 71), .inl (cA 1, 1, .inr (.inl (fun _ => 0))))] H := hP.sub [0, 1, 12, 19, 24, 25, 52, 53, 54, 57, 71] rfl
  have hD : va_D (fun q : Nat => s.heap.size ≤ q) [((a 0), .inr (9, [.ref (a 1), .ref (a 12), .ref (a 32), .ref (a 38), .ref (a 46)])), ((a 1), .inr (5, [.int 0, .int 0, .ref (a 2), .ref (a 3), .ref (a 4), .ref (a 5), .ref (a 6), .ref (a 7), .ref (a 8), .ref (a 9), .ref (a 10), .ref (a 11)])), ((a 12), .inr (4, [.int 0, .int 0, .long 0, .ref (a 13), .ref (a 14), .ref (a 15), .ref (a 16), .ref (a 17), .ref (a 18), .ref (a 19), .ref (a 20), .ref (a 21), .ref (a 22), .ref (a 24), .ref (a 26), .ref (a 28), .ref (a 30)])), ((a 19), .inl (cA 1, 512, .inr (.inl (fun _ => 0)))), ((a 24), .inr (8, [.ref (a 25)])), ((a 25), .inl (cA 1, 8, .inr (.inl (fun _ => 0)))), ((a 52), .inr (15, [.ref (a 53), .ref (a 54), .ref (a 55), .ref (a 56), .ref (a 57), .ref (a 58), .ref (a 59), .ref (a 60), .ref (a 61), .ref (a 62), .ref (a 63), .ref (a 64), .ref (a 65), .ref (a 66), .ref (a 67), .ref (a 68), .ref (a 69), .ref (a 70), .long 0, .int 0, .int 2, .int 0, .int 0, .int 0, .int 0, .int 0, .int 0])), ((a 53), .inr (2, [.int 0, .ref g.1, .int 0])), ((a 54), .inr (2, [.int 0, .ref g.1, .int 0])), ((a 57), .inl (cA 1, 512, .inr (.inl (fun _ => 0)))), ((a 71), .inl (cA 1, 1, .inr (.inl (fun _ => 0))))] := hD.sub [0, 1, 12, 19, 24, 25, 52, 53, 54, 57, 71] (by decide) rfl
  have hl : lv_has ls 9 [(5, .int 0), (4, .ref (a 72)), (3, .ref (a 71)), (2, .ref (a 52)), (1, .ref (a 0)), (0, .ref b)] := hl
  refine lv_aload_n hx hb dL_law_652 rfl (lv_at hl 4 rfl) ?_
  refine lv_aload_n hx hb dL_law_653 rfl (lv_at hl 5 rfl) ?_
  refine lv_iload hx hb dL_law_654 (lv_at hl 0 rfl) ?_
  refine lv_iconst (v := 1) hx hb dL_law_656 (by decide) ?_
  refine k_iadd (v := 1) hx hb dL_law_657 (by decide) ?_
  refine k_script (x := (xs 1)) hx hb hX hbl hbA hS 1 (by decide) rfl (by subst hL; unfold vp_in; decide) dL_law_658 ?_
  refine lv_aload_n hx hb dL_law_659 rfl (lv_at hl 2 rfl) ?_
  refine ct_SW (wr := [((a 52), .inr (15, [.ref (a 53), .ref (a 54), .ref (a 55), .ref (a 56), .ref (a 57), .ref (a 58), .ref (a 59), .ref (a 60), .ref (a 61), .ref (a 62), .ref (a 63), .ref (a 64), .ref (a 65), .ref (a 66), .ref (a 67), .ref (a 68), .ref (a 69), .ref (a 70), .long 0, .int 0, .int 2, .int 0, .int 0, .int 0, .int 0, .int 0, .int 0])), ((a 53), .inr (2, [.int 0, .ref g.1, .int 0])), ((a 54), .inr (2, [.int 0, .ref g.1, .int 0])), ((a 57), .inl (cA 1, 512, .inr (.inl (fun _ => 0))))]) hSF hl.1 hP hD hS hA hK hGV (c163_L_isBalanced l hfl D cA g (a 0) (a 71) (a 1) (a 12) (a 32) (a 38) (a 46) (a 13) (a 14) (a 15) (a 16) (a 17) (a 18) (a 19) (a 20) (a 21) (a 22) (a 24) (a 26) (a 28) (a 30) (a 2) (a 3) (a 4) (a 5) (a 6) (a 7) (a 8) (a 9) (a 10) (a 11) (a 25) ((xs 1)) k0 k1) goW_L_152 pd_L_isBalanced.2 ⟨(Nat.le_of_ble_eq_true rfl), (Nat.le_of_ble_eq_true rfl)⟩ ⟨(Nat.le_of_ble_eq_true rfl), (Nat.le_of_ble_eq_true rfl)⟩ dL_law_660 rfl (Nat.le_of_ble_eq_true rfl) [0, 2, 1, 3, 4, 5, 10] [6, 7, 8, 9] rfl (by decide) rfl (by decide) (by decide) (fun q => [((a 52), .inr (15, [.ref (a 53), .ref (a 54), .ref (a 55), .ref (a 56), .ref (a 57), .ref (a 58), .ref (a 59), .ref (a 60), .ref (a 61), .ref (a 62), .ref (a 63), .ref (a 64), .ref (a 65), .ref (a 66), .ref (a 67), .ref (a 68), .ref (a 69), .ref (a 70), .long 0, .int 0, .int 2, .int 0, .int 0, .int 0, .int 0, .int 0, .int 0])), ((a 53), .inr (2, [.int 0, .ref g.1, .int 0])), ((a 54), .inr (2, [.int 0, .ref g.1, .int 0])), ((a 57), .inl (cA 1, 512, .inr (.inl (fun _ => 0)))), ((a 0), .inr (9, [.ref (a 1), .ref (a 12), .ref (a 32), .ref (a 38), .ref (a 46)])), ((a 12), .inr (4, [.int 1, .int 46, .long 1, .ref (a 13), .ref (a 14), .ref (a 15), .ref (a 16), .ref (a 17), .ref (a 18), .ref (a 19), .ref (a 20), .ref (a 21), .ref (a 22), .ref (a 24), .ref (a 26), .ref (a 28), .ref (a 30)])), ((a 1), .inr (5, [.int 0, .int 0, .ref (a 2), .ref (a 3), .ref (a 4), .ref (a 5), .ref (a 6), .ref (a 7), .ref (a 8), .ref (a 9), .ref (a 10), .ref (a 11)])), ((a 19), .inl (cA 1, 512, .inr (.inl (vp_updL (fun _ => 0) 0 1)))), ((a 24), .inr (8, [.ref (a 25)])), ((a 25), .inl (cA 1, 8, .inr (.inl (vp_updL (vp_updL (vp_updL (vp_updL (vp_updL (vp_updL (vp_updL (vp_updL (fun _ => 0) 2 0) 3 0) 4 0) 5 0) 6 0) 7 0) 0 1) 1 0)))), ((a 71), .inl (cA 1, 1, .inr (.inl (vp_updL (fun _ => 0) 0 1))))]) (fun _ => rfl) (fun q1 H locs hP hD hS => ?_)
  refine W.eq (g2 := F0 m 663 ls [.int 0]) rfl ?_
  refine lv_istore (lv' := [(6, .int 0), (5, .int 0), (4, .ref (a 72)), (3, .ref (a 71)), (2, .ref (a 52)), (1, .ref (a 0)), (0, .ref b)]) hx hb dL_law_663 hl (by decide) rfl (fun ls hl => ?_)
  refine lv_aload_n hx hb dL_law_665 rfl (lv_at hl 4 rfl) ?_
  refine lv_aload_n hx hb dL_law_666 rfl (lv_at hl 6 rfl) ?_
  refine lv_iload hx hb dL_law_667 (lv_at hl 1 rfl) ?_
  refine lv_iconst (v := 1) hx hb dL_law_669 (by decide) ?_
  refine k_iadd (v := 1) hx hb dL_law_670 (by decide) ?_
  refine k_script (x := (xs 1)) hx hb hX hbl hbA hS 1 (by decide) rfl (by subst hL; unfold vp_in; decide) dL_law_671 ?_
  refine ct_V (wr := [((a 71), .inl (cA 1, 1, .inr (.inl (vp_updL (fun _ => 0) 0 1))))]) hSF hl.1 hP hD hS hA hK hGV (c168_X12_isBalanced l hfl D cA g (a 52) (a 53) (a 54) (a 55) (a 56) (a 57) (a 58) (a 59) (a 60) (a 61) (a 62) (a 63) (a 64) (a 65) (a 66) (a 67) (a 68) (a 69) (a 70) ((xs 1)) k2 k3) goV_L_154 pd_X12_isBalanced ⟨(Nat.le_of_ble_eq_true rfl), (Nat.le_of_ble_eq_true rfl)⟩ ⟨(Nat.le_of_ble_eq_true rfl), (Nat.le_of_ble_eq_true rfl)⟩ (va_recv hK hP (ci := 15) (q0 := 0) rfl rfl) dL_law_672 rfl (Nat.le_of_ble_eq_true rfl) [0, 2, 1, 3] [10] rfl (by decide) rfl (by decide) (by decide) (fun q => [((a 71), .inl (cA 1, 1, .inr (.inl (vp_updL (fun _ => 0) 0 1)))), ((a 52), .inr (15, [.ref (a 53), .ref (a 54), .ref (a 55), .ref (a 56), .ref (a 57), .ref (a 58), .ref (a 59), .ref (a 60), .ref (a 61), .ref (a 62), .ref (a 63), .ref (a 64), .ref (a 65), .ref (a 66), .ref (a 67), .ref (a 68), .ref (a 69), .ref (a 70), .long 1, .int 0, .int 2, .int 0, .int 1, .int 0, .int 0, .int 0, .int 46])), ((a 54), .inr (2, [.int 0, .ref g.1, .int 0])), ((a 53), .inr (2, [.int 0, .ref g.1, .int 0])), ((a 57), .inl (cA 1, 512, .inr (.inl (vp_updL (vp_updL (fun _ => 0) 0 0) 0 1))))]) (fun _ => rfl) (fun q2 H locs hP hD hS => ?_)
  refine W.eq (g2 := F0 m 675 ls [.int 1]) rfl ?_
  refine lv_istore (lv' := [(7, .int 1), (6, .int 0), (5, .int 0), (4, .ref (a 72)), (3, .ref (a 71)), (2, .ref (a 52)), (1, .ref (a 0)), (0, .ref b)]) hx hb dL_law_675 hl (by decide) rfl (fun ls hl => ?_)
  refine lv_aload_n hx hb dL_law_677 rfl (lv_at hl 5 rfl) ?_
  refine ct_V (wr := [((a 71), .inl (cA 1, 1, .inr (.inl (vp_updL (fun _ => 0) 0 1))))]) hSF hl.1 hP hD hS hA hK hGV (c169_X12_thrown l hfl D cA g (a 52) (a 53) (a 54) (a 55) (a 56) (a 57) (a 58) (a 59) (a 60) (a 61) (a 62) (a 63) (a 64) (a 65) (a 66) (a 67) (a 68) (a 69) (a 70)) goV_L_125 pd_X12_thrown ⟨(Nat.le_of_ble_eq_true rfl), (Nat.le_of_ble_eq_true rfl)⟩ ⟨(Nat.le_of_ble_eq_true rfl), (Nat.le_of_ble_eq_true rfl)⟩ (va_recv hK hP (ci := 15) (q0 := 1) rfl rfl) dL_law_678 rfl (Nat.le_of_ble_eq_true rfl) [1] [0] rfl (by decide) rfl (by decide) (by decide) (fun q => [((a 71), .inl (cA 1, 1, .inr (.inl (vp_updL (fun _ => 0) 0 1)))), ((a 52), .inr (15, [.ref (a 53), .ref (a 54), .ref (a 55), .ref (a 56), .ref (a 57), .ref (a 58), .ref (a 59), .ref (a 60), .ref (a 61), .ref (a 62), .ref (a 63), .ref (a 64), .ref (a 65), .ref (a 66), .ref (a 67), .ref (a 68), .ref (a 69), .ref (a 70), .long 1, .int 0, .int 2, .int 0, .int 1, .int 0, .int 0, .int 0, .int 46]))]) (fun _ => rfl) (fun q3 H locs hP hD hS => ?_)
  refine W.eq (g2 := F0 m 681 ls [.int 0]) rfl ?_
  refine lv_iload hx hb dL_law_681 (lv_at hl 1 rfl) ?_
  refine k_icmp_eq_t (tgt := 688) hx hb dL_law_683 (by decide) (by decide) ?_
  refine lv_iload hx hb dL_law_688 (lv_at hl 1 rfl) ?_
  refine k_if_ne_f (tgt := 712) hx hb dL_law_690 (by decide) (by decide) ?_
  refine lv_aload_n hx hb dL_law_693 rfl (lv_at hl 4 rfl) ?_
  refine lv_iconst (v := 0) hx hb dL_law_694 (by decide) ?_
  refine k_lald (v := 1) hx hb hK hP 0 rfl 0 (by decide) rfl (by unfold vp_in; decide) dL_law_695 ?_
  refine lv_iload hx hb dL_law_696 (lv_at hl 0 rfl) ?_
  refine k_if_eq_f (tgt := 705) hx hb dL_law_698 (by decide) (by decide) ?_
  refine lv_lconst (v := 1) hx hb dL_law_701 (by decide) ?_
  refine lv_goto (tgt := 706) hx hb dL_law_702 (by decide) ?_
  refine k_lcmp (v := 0) hx hb dL_law_706 (by decide +kernel) ?_
  refine k_if_eq_t (tgt := 712) hx hb dL_law_707 (by decide) (by decide) ?_
  refine lv_goto (tgt := 1963) hx hb dL_law_712 (by decide) ?_
  exact law_tail l hL C0 (Nat.le_of_ble_eq_true rfl) (Nat.le_of_ble_eq_true rfl) hS (lv_sub hl [2, 7] rfl)
set_option maxHeartbeats 4000000 in
set_option maxRecDepth 100000 in
theorem lc_8_0 {p : Program} {e : Env} {s : State} {m : MethodId} {below : List Frame} {meth : Method} {c : Code} (l : Launch) (hfl : l.stackTraces = false) {b L : Nat} {xs : Nat → Int32} (hL : L = 6) (C0 : lw_At p s m meth c b L xs) (D : va_G) (cA : Nat → ClassId) (g : gv_T) (hK : va_K D vwCl (TYS cA) s) (hGV : GV g (fun q : Nat => s.heap.size ≤ q) s s.heap) (a : Nat → Nat) {H : Heap} {locs : List Loc} (hP : va_P D vwCl (WL cA g a) H) (hD : va_D (fun q : Nat => s.heap.size ≤ q) (WL cA g a)) (hS : va_S (fun q : Nat => s.heap.size ≤ q) s.heap H locs) {ls : Array Slot} (hl : lv_has ls 9 [(5, .int 0), (4, .ref (a 72)), (3, .ref (a 71)), (2, .ref (a 52)), (1, .ref (a 0)), (0, .ref b)]) : W p l e room_1 s m #[Value.ref b] below meth c H locs 73 8292 (lw_Z below #[Value.ref b] s) (F0 m 715 ls []) := by
  obtain ⟨hx, hb, hr, hml, hown, hts, hX, hbl, hlocks, hgv⟩ := id C0
  have hb : c.code = cL_law := hb
  have hown : s.vm.findClass RL = some m.cls := hown
  have hG : ∀ w ∈ GW, w.before #[Value.ref b] s = true := fun w hw => hts w (List.mem_filter.mp hw).1
  have hA : ∀ q : Nat, s.heap.size ≤ q → (fun q : Nat => s.heap.size ≤ q) q := fun _ h => h
  have hbA : ¬ (fun q : Nat => s.heap.size ≤ q) b := Nat.not_le.mpr hbl
  have hSF : CF p m c cL_law 9 s #[Value.ref b] RL := ⟨hx, hb, hml, hown, hG⟩
  have hP : va_P D vwCl [((a 0), .inr (9, [.ref (a 1), .ref (a 12), .ref (a 32), .ref (a 38), .ref (a 46)])), ((a 1), .inr (5, [.int 0, .int 0, .ref (a 2), .ref (a 3), .ref (a 4), .ref (a 5), .ref (a 6), .ref (a 7), .ref (a 8), .ref (a 9), .ref (a 10), .ref (a 11)])), ((a 12), .inr (4, [.int 0, .int 0, .long 0, .ref (a 13), .ref (a 14), .ref (a 15), .ref (a 16), .ref (a 17), .ref (a 18), .ref (a 19), .ref (a 20), .ref (a 21), .ref (a 22), .ref (a 24), .ref (a 26), .ref (a 28), .ref (a 30)])), ((a 19), .inl (cA 1, 512, .inr (.inl (fun _ => 0)))), ((a 24), .inr (8, [.ref (a 25)])), ((a 25), .inl (cA 1, 8, .inr (.inl (fun _ => 0)))), ((a 52), .inr (15, [.ref (a 53), .ref (a 54), .ref (a 55), .ref (a 56), .ref (a 57), .ref (a 58), .ref (a 59), .ref (a 60), .ref (a 61), .ref (a 62), .ref (a 63), .ref (a 64), .ref (a 65), .ref (a 66), .ref (a 67), .ref (a 68), .ref (a 69), .ref (a 70), .long 0, .int 0, .int 2, .int 0, .int 0, .int 0, .int 0, .int 0, .int 0])), ((a 53), .inr (2, [.int 0, .ref g.1, .int 0])), ((a 54), .inr (2, [.int 0, .ref g.1, .int 0])), ((a 57), .inl (cA 1, 512, .inr (.inl (fun _ => 0))))] H := hP.sub [0, 1, 12, 19, 24, 25, 52, 53, 54, 57] rfl
  have hD : va_D (fun q : Nat => s.heap.size ≤ q) [((a 0), .inr (9, [.ref (a 1), .ref (a 12), .ref (a 32), .ref (a 38), .ref (a 46)])), ((a 1), .inr (5, [.int 0, .int 0, .ref (a 2), .ref (a 3), .ref (a 4), .ref (a 5), .ref (a 6), .ref (a 7), .ref (a 8), .ref (a 9), .ref (a 10), .ref (a 11)])), ((a 12), .inr (4, [.int 0, .int 0, .long 0, .ref (a 13), .ref (a 14), .ref (a 15), .ref (a 16), .ref (a 17), .ref (a 18), .ref (a 19), .ref (a 20), .ref (a 21), .ref (a 22), .ref (a 24), .ref (a 26), .ref (a 28), .ref (a 30)])), ((a 19), .inl (cA 1, 512, .inr (.inl (fun _ => 0)))), ((a 24), .inr (8, [.ref (a 25)])), ((a 25), .inl (cA 1, 8, .inr (.inl (fun _ => 0)))), ((a 52), .inr (15, [.ref (a 53), .ref (a 54), .ref (a 55), .ref (a 56), .ref (a 57), .ref (a 58), .ref (a 59), .ref (a 60), .ref (a 61), .ref (a 62), .ref (a 63), .ref (a 64), .ref (a 65), .ref (a 66), .ref (a 67), .ref (a 68), .ref (a 69), .ref (a 70), .long 0, .int 0, .int 2, .int 0, .int 0, .int 0, .int 0, .int 0, .int 0])), ((a 53), .inr (2, [.int 0, .ref g.1, .int 0])), ((a 54), .inr (2, [.int 0, .ref g.1, .int 0])), ((a 57), .inl (cA 1, 512, .inr (.inl (fun _ => 0))))] := hD.sub [0, 1, 12, 19, 24, 25, 52, 53, 54, 57] (by decide) rfl
  have hl : lv_has ls 9 [(5, .int 0), (4, .ref (a 72)), (3, .ref (a 71)), (2, .ref (a 52)), (1, .ref (a 0)), (0, .ref b)] := hl
  refine lv_aload_n hx hb dL_law_715 rfl (lv_at hl 4 rfl) ?_
  refine lv_aload_n hx hb dL_law_716 rfl (lv_at hl 2 rfl) ?_
  refine ct_SW (wr := [((a 52), .inr (15, [.ref (a 53), .ref (a 54), .ref (a 55), .ref (a 56), .ref (a 57), .ref (a 58), .ref (a 59), .ref (a 60), .ref (a 61), .ref (a 62), .ref (a 63), .ref (a 64), .ref (a 65), .ref (a 66), .ref (a 67), .ref (a 68), .ref (a 69), .ref (a 70), .long 0, .int 0, .int 2, .int 0, .int 0, .int 0, .int 0, .int 0, .int 0])), ((a 53), .inr (2, [.int 0, .ref g.1, .int 0])), ((a 54), .inr (2, [.int 0, .ref g.1, .int 0])), ((a 57), .inl (cA 1, 512, .inr (.inl (fun _ => 0))))]) hSF hl.1 hP hD hS hA hK hGV (c171_L_weakest l hfl D cA g (a 0) (a 71) (a 1) (a 12) (a 32) (a 38) (a 46) (a 13) (a 14) (a 15) (a 16) (a 17) (a 18) (a 19) (a 20) (a 21) (a 22) (a 24) (a 26) (a 28) (a 30) (a 2) (a 3) (a 4) (a 5) (a 6) (a 7) (a 8) (a 9) (a 10) (a 11) (a 25)) goW_L_155 pd_L_weakest.2 ⟨(Nat.le_of_ble_eq_true rfl), (Nat.le_of_ble_eq_true rfl)⟩ ⟨(Nat.le_of_ble_eq_true rfl), (Nat.le_of_ble_eq_true rfl)⟩ dL_law_717 rfl (Nat.le_of_ble_eq_true rfl) [0, 2, 1, 3, 4, 5] [6, 7, 8, 9] rfl (by decide) rfl (by decide) (by decide) (fun q => [((a 52), .inr (15, [.ref (a 53), .ref (a 54), .ref (a 55), .ref (a 56), .ref (a 57), .ref (a 58), .ref (a 59), .ref (a 60), .ref (a 61), .ref (a 62), .ref (a 63), .ref (a 64), .ref (a 65), .ref (a 66), .ref (a 67), .ref (a 68), .ref (a 69), .ref (a 70), .long 0, .int 0, .int 2, .int 0, .int 0, .int 0, .int 0, .int 0, .int 0])), ((a 53), .inr (2, [.int 0, .ref g.1, .int 0])), ((a 54), .inr (2, [.int 0, .ref g.1, .int 0])), ((a 57), .inl (cA 1, 512, .inr (.inl (fun _ => 0)))), ((a 0), .inr (9, [.ref (a 1), .ref (a 12), .ref (a 32), .ref (a 38), .ref (a 46)])), ((a 12), .inr (4, [.int 1, .int 46, .long 1, .ref (a 13), .ref (a 14), .ref (a 15), .ref (a 16), .ref (a 17), .ref (a 18), .ref (a 19), .ref (a 20), .ref (a 21), .ref (a 22), .ref (a 24), .ref (a 26), .ref (a 28), .ref (a 30)])), ((a 1), .inr (5, [.int 0, .int 0, .ref (a 2), .ref (a 3), .ref (a 4), .ref (a 5), .ref (a 6), .ref (a 7), .ref (a 8), .ref (a 9), .ref (a 10), .ref (a 11)])), ((a 19), .inl (cA 1, 512, .inr (.inl (vp_updL (fun _ => 0) 0 1)))), ((a 24), .inr (8, [.ref (a 25)])), ((a 25), .inl (cA 1, 8, .inr (.inl (vp_updL (vp_updL (vp_updL (vp_updL (vp_updL (vp_updL (vp_updL (vp_updL (fun _ => 0) 2 0) 3 0) 4 0) 5 0) 6 0) 7 0) 0 1) 1 0))))]) (fun _ => rfl) (fun q1 H locs hP hD hS => ?_)
  refine W.eq (g2 := F0 m 720 ls [.int 2]) rfl ?_
  refine lv_istore (lv' := [(6, .int 2), (5, .int 0), (4, .ref (a 72)), (3, .ref (a 71)), (2, .ref (a 52)), (1, .ref (a 0)), (0, .ref b)]) hx hb dL_law_720 hl (by decide) rfl (fun ls hl => ?_)
  refine lv_aload_n hx hb dL_law_722 rfl (lv_at hl 4 rfl) ?_
  refine ct_V (wr := []) hSF hl.1 hP hD hS hA hK hGV (c173_X12_weakest l hfl D cA g (a 52) (a 53) (a 54) (a 55) (a 56) (a 57) (a 58) (a 59) (a 60) (a 61) (a 62) (a 63) (a 64) (a 65) (a 66) (a 67) (a 68) (a 69) (a 70)) goV_L_158 pd_X12_weakest ⟨(Nat.le_of_ble_eq_true rfl), (Nat.le_of_ble_eq_true rfl)⟩ ⟨(Nat.le_of_ble_eq_true rfl), (Nat.le_of_ble_eq_true rfl)⟩ (va_recv hK hP (ci := 15) (q0 := 0) rfl rfl) dL_law_723 rfl (Nat.le_of_ble_eq_true rfl) [0, 2, 1, 3] [] rfl (by decide) rfl (by decide) (by decide) (fun q => [((a 52), .inr (15, [.ref (a 53), .ref (a 54), .ref (a 55), .ref (a 56), .ref (a 57), .ref (a 58), .ref (a 59), .ref (a 60), .ref (a 61), .ref (a 62), .ref (a 63), .ref (a 64), .ref (a 65), .ref (a 66), .ref (a 67), .ref (a 68), .ref (a 69), .ref (a 70), .long 1, .int 2, .int 2, .int 0, .int 1, .int 0, .int 0, .int 0, .int 46])), ((a 54), .inr (2, [.int 0, .ref g.1, .int 0])), ((a 53), .inr (2, [.int 0, .ref g.1, .int 0])), ((a 57), .inl (cA 1, 512, .inr (.inl (vp_updL (vp_updL (fun _ => 0) 0 0) 0 1))))]) (fun _ => rfl) (fun q2 H locs hP hD hS => ?_)
  refine W.eq (g2 := F0 m 726 ls [.int 0]) rfl ?_
  refine lv_istore (lv' := [(7, .int 0), (6, .int 2), (5, .int 0), (4, .ref (a 72)), (3, .ref (a 71)), (2, .ref (a 52)), (1, .ref (a 0)), (0, .ref b)]) hx hb dL_law_726 hl (by decide) rfl (fun ls hl => ?_)
  refine lv_aload_n hx hb dL_law_728 rfl (lv_at hl 5 rfl) ?_
  refine ct_V (wr := []) hSF hl.1 hP hD hS hA hK hGV (c174_X12_thrown l hfl D cA g (a 52) (a 53) (a 54) (a 55) (a 56) (a 57) (a 58) (a 59) (a 60) (a 61) (a 62) (a 63) (a 64) (a 65) (a 66) (a 67) (a 68) (a 69) (a 70)) goV_L_125 pd_X12_thrown ⟨(Nat.le_of_ble_eq_true rfl), (Nat.le_of_ble_eq_true rfl)⟩ ⟨(Nat.le_of_ble_eq_true rfl), (Nat.le_of_ble_eq_true rfl)⟩ (va_recv hK hP (ci := 15) (q0 := 0) rfl rfl) dL_law_729 rfl (Nat.le_of_ble_eq_true rfl) [0] [] rfl (by decide) rfl (by decide) (by decide) (fun q => [((a 52), .inr (15, [.ref (a 53), .ref (a 54), .ref (a 55), .ref (a 56), .ref (a 57), .ref (a 58), .ref (a 59), .ref (a 60), .ref (a 61), .ref (a 62), .ref (a 63), .ref (a 64), .ref (a 65), .ref (a 66), .ref (a 67), .ref (a 68), .ref (a 69), .ref (a 70), .long 1, .int 2, .int 2, .int 0, .int 1, .int 0, .int 0, .int 0, .int 46]))]) (fun _ => rfl) (fun q3 H locs hP hD hS => ?_)
  refine W.eq (g2 := F0 m 732 ls [.int 2]) rfl ?_
  refine lv_iload hx hb dL_law_732 (lv_at hl 1 rfl) ?_
  refine k_icmp_eq_t (tgt := 739) hx hb dL_law_734 (by decide) (by decide) ?_
  refine lv_iload hx hb dL_law_739 (lv_at hl 1 rfl) ?_
  refine k_if_ne_t (tgt := 756) hx hb dL_law_741 (by decide) (by decide) ?_
  refine lv_goto (tgt := 1963) hx hb dL_law_756 (by decide) ?_
  exact law_tail l hL C0 (Nat.le_of_ble_eq_true rfl) (Nat.le_of_ble_eq_true rfl) hS (lv_sub hl [2, 7] rfl)
set_option maxHeartbeats 4000000 in
set_option maxRecDepth 100000 in
theorem lc_9_0 {p : Program} {e : Env} {s : State} {m : MethodId} {below : List Frame} {meth : Method} {c : Code} (l : Launch) (hfl : l.stackTraces = false) {b L : Nat} {xs : Nat → Int32} (hL : L = 6) (C0 : lw_At p s m meth c b L xs) (D : va_G) (cA : Nat → ClassId) (g : gv_T) (hK : va_K D vwCl (TYS cA) s) (hGV : GV g (fun q : Nat => s.heap.size ≤ q) s s.heap) (a : Nat → Nat) {H : Heap} {locs : List Loc} (hP : va_P D vwCl (WL cA g a) H) (hD : va_D (fun q : Nat => s.heap.size ≤ q) (WL cA g a)) (hS : va_S (fun q : Nat => s.heap.size ≤ q) s.heap H locs) {ls : Array Slot} (hl : lv_has ls 9 [(5, .int 0), (4, .ref (a 72)), (3, .ref (a 71)), (2, .ref (a 52)), (1, .ref (a 0)), (0, .ref b)]) (kk : Int32) (hk : (((xs 3)).toUInt32 % 65536).toInt32 = kk) (k0 : (xs 1) < 0) (k1 : (lg_cmp ((xs 1)).toInt64 0) < 0) : W p l e room_1 s m #[Value.ref b] below meth c H locs 73 8292 (lw_Z below #[Value.ref b] s) (F0 m 759 ls []) := by
  obtain ⟨hx, hb, hr, hml, hown, hts, hX, hbl, hlocks, hgv⟩ := id C0
  have hb : c.code = cL_law := hb
  have hown : s.vm.findClass RL = some m.cls := hown
  have hG : ∀ w ∈ GW, w.before #[Value.ref b] s = true := fun w hw => hts w (List.mem_filter.mp hw).1
  have hA : ∀ q : Nat, s.heap.size ≤ q → (fun q : Nat => s.heap.size ≤ q) q := fun _ h => h
  have hbA : ¬ (fun q : Nat => s.heap.size ≤ q) b := Nat.not_le.mpr hbl
  have hSF : CF p m c cL_law 9 s #[Value.ref b] RL := ⟨hx, hb, hml, hown, hG⟩
  have hP : va_P D vwCl [((a 0), .inr (9, [.ref (a 1), .ref (a 12), .ref (a 32), .ref (a 38), .ref (a 46)])), ((a 52), .inr (15, [.ref (a 53), .ref (a 54), .ref (a 55), .ref (a 56), .ref (a 57), .ref (a 58), .ref (a 59), .ref (a 60), .ref (a 61), .ref (a 62), .ref (a 63), .ref (a 64), .ref (a 65), .ref (a 66), .ref (a 67), .ref (a 68), .ref (a 69), .ref (a 70), .long 0, .int 0, .int 2, .int 0, .int 0, .int 0, .int 0, .int 0, .int 0])), ((a 54), .inr (2, [.int 0, .ref g.1, .int 0]))] H := hP.sub [0, 52, 54] rfl
  have hD : va_D (fun q : Nat => s.heap.size ≤ q) [((a 0), .inr (9, [.ref (a 1), .ref (a 12), .ref (a 32), .ref (a 38), .ref (a 46)])), ((a 52), .inr (15, [.ref (a 53), .ref (a 54), .ref (a 55), .ref (a 56), .ref (a 57), .ref (a 58), .ref (a 59), .ref (a 60), .ref (a 61), .ref (a 62), .ref (a 63), .ref (a 64), .ref (a 65), .ref (a 66), .ref (a 67), .ref (a 68), .ref (a 69), .ref (a 70), .long 0, .int 0, .int 2, .int 0, .int 0, .int 0, .int 0, .int 0, .int 0])), ((a 54), .inr (2, [.int 0, .ref g.1, .int 0]))] := hD.sub [0, 52, 54] (by decide) rfl
  have hl : lv_has ls 9 [(5, .int 0), (4, .ref (a 72)), (3, .ref (a 71)), (2, .ref (a 52)), (1, .ref (a 0)), (0, .ref b)] := hl
  refine lv_aload_n hx hb dL_law_759 rfl (lv_at hl 4 rfl) ?_
  refine lv_aload_n hx hb dL_law_760 rfl (lv_at hl 5 rfl) ?_
  refine lv_iload hx hb dL_law_761 (lv_at hl 0 rfl) ?_
  refine lv_iconst (v := 1) hx hb dL_law_763 (by decide) ?_
  refine k_iadd (v := 1) hx hb dL_law_764 (by decide) ?_
  refine k_script (x := (xs 1)) hx hb hX hbl hbA hS 1 (by decide) rfl (by subst hL; unfold vp_in; decide) dL_law_765 ?_
  refine lv_aload_n hx hb dL_law_766 rfl (lv_at hl 5 rfl) ?_
  refine lv_iload hx hb dL_law_767 (lv_at hl 0 rfl) ?_
  refine lv_iconst (v := 2) hx hb dL_law_769 (by decide) ?_
  refine k_iadd (v := 2) hx hb dL_law_770 (by decide) ?_
  refine k_script (x := (xs 2)) hx hb hX hbl hbA hS 2 (by decide) rfl (by subst hL; unfold vp_in; decide) dL_law_771 ?_
  refine lv_aload_n hx hb dL_law_772 rfl (lv_at hl 5 rfl) ?_
  refine lv_iload hx hb dL_law_773 (lv_at hl 0 rfl) ?_
  refine lv_iconst (v := 3) hx hb dL_law_775 (by decide) ?_
  refine k_iadd (v := 3) hx hb dL_law_776 (by decide) ?_
  refine k_script (x := (xs 3)) hx hb hX hbl hbA hS 3 (by decide) rfl (by subst hL; unfold vp_in; decide) dL_law_777 ?_
  refine lv_i2c (v := kk) hx hb dL_law_778 hk ?_
  refine lv_aload_n hx hb dL_law_779 rfl (lv_at hl 5 rfl) ?_
  refine lv_iload hx hb dL_law_780 (lv_at hl 0 rfl) ?_
  refine lv_iconst (v := 4) hx hb dL_law_782 (by decide) ?_
  refine k_iadd (v := 4) hx hb dL_law_783 (by decide) ?_
  refine k_script (x := (xs 4)) hx hb hX hbl hbA hS 4 (by decide) rfl (by subst hL; unfold vp_in; decide) dL_law_784 ?_
  refine lv_aload_n hx hb dL_law_785 rfl (lv_at hl 5 rfl) ?_
  refine lv_iload hx hb dL_law_786 (lv_at hl 0 rfl) ?_
  refine lv_iconst (v := 5) hx hb dL_law_788 (by decide) ?_
  refine k_iadd (v := 5) hx hb dL_law_789 (by decide) ?_
  refine k_script (x := (xs 5)) hx hb hX hbl hbA hS 5 (by decide) rfl (by subst hL; unfold vp_in; decide) dL_law_790 ?_
  refine lv_aload_n hx hb dL_law_791 rfl (lv_at hl 2 rfl) ?_
  refine ct_SW (wr := [((a 52), .inr (15, [.ref (a 53), .ref (a 54), .ref (a 55), .ref (a 56), .ref (a 57), .ref (a 58), .ref (a 59), .ref (a 60), .ref (a 61), .ref (a 62), .ref (a 63), .ref (a 64), .ref (a 65), .ref (a 66), .ref (a 67), .ref (a 68), .ref (a 69), .ref (a 70), .long 0, .int 0, .int 2, .int 0, .int 0, .int 0, .int 0, .int 0, .int 0])), ((a 54), .inr (2, [.int 0, .ref g.1, .int 0]))]) hSF hl.1 hP hD hS hA hK hGV (c176_L_joint l hfl D cA g (a 0) (a 71) (a 1) (a 12) (a 32) (a 38) (a 46) ((xs 1)) ((xs 2)) (kk) ((xs 4)) ((xs 5)) k0) goW_L_159 pd_L_joint.2 ⟨(Nat.le_of_ble_eq_true rfl), (Nat.le_of_ble_eq_true rfl)⟩ ⟨(Nat.le_of_ble_eq_true rfl), (Nat.le_of_ble_eq_true rfl)⟩ dL_law_792 rfl (Nat.le_of_ble_eq_true rfl) [0] [1, 2] rfl (by decide) rfl (by decide) (by decide) (fun q => [((a 52), .inr (15, [.ref (a 53), .ref (a 54), .ref (a 55), .ref (a 56), .ref (a 57), .ref (a 58), .ref (a 59), .ref (a 60), .ref (a 61), .ref (a 62), .ref (a 63), .ref (a 64), .ref (a 65), .ref (a 66), .ref (a 67), .ref (a 68), .ref (a 69), .ref (a 70), .long 0, .int 0, .int 2, .int 0, .int 0, .int 0, .int 0, .int 0, .int 0])), ((a 54), .inr (2, [.int 0, .ref g.1, .int 0])), ((a 0), .inr (9, [.ref (a 1), .ref (a 12), .ref (a 32), .ref (a 38), .ref (a 46)]))]) (fun _ => rfl) (fun q1 H locs hP hD hS => ?_)
  refine W.eq (g2 := F0 m 795 ls [.int 1]) rfl ?_
  refine lv_istore (lv' := [(6, .int 1), (5, .int 0), (4, .ref (a 72)), (3, .ref (a 71)), (2, .ref (a 52)), (1, .ref (a 0)), (0, .ref b)]) hx hb dL_law_795 hl (by decide) rfl (fun ls hl => ?_)
  refine lv_aload_n hx hb dL_law_797 rfl (lv_at hl 4 rfl) ?_
  refine lv_aload_n hx hb dL_law_798 rfl (lv_at hl 6 rfl) ?_
  refine lv_iload hx hb dL_law_799 (lv_at hl 1 rfl) ?_
  refine lv_iconst (v := 1) hx hb dL_law_801 (by decide) ?_
  refine k_iadd (v := 1) hx hb dL_law_802 (by decide) ?_
  refine k_script (x := (xs 1)) hx hb hX hbl hbA hS 1 (by decide) rfl (by subst hL; unfold vp_in; decide) dL_law_803 ?_
  refine lv_aload_n hx hb dL_law_804 rfl (lv_at hl 6 rfl) ?_
  refine lv_iload hx hb dL_law_805 (lv_at hl 1 rfl) ?_
  refine lv_iconst (v := 2) hx hb dL_law_807 (by decide) ?_
  refine k_iadd (v := 2) hx hb dL_law_808 (by decide) ?_
  refine k_script (x := (xs 2)) hx hb hX hbl hbA hS 2 (by decide) rfl (by subst hL; unfold vp_in; decide) dL_law_809 ?_
  refine lv_aload_n hx hb dL_law_810 rfl (lv_at hl 6 rfl) ?_
  refine lv_iload hx hb dL_law_811 (lv_at hl 1 rfl) ?_
  refine lv_iconst (v := 3) hx hb dL_law_813 (by decide) ?_
  refine k_iadd (v := 3) hx hb dL_law_814 (by decide) ?_
  refine k_script (x := (xs 3)) hx hb hX hbl hbA hS 3 (by decide) rfl (by subst hL; unfold vp_in; decide) dL_law_815 ?_
  refine lv_i2c (v := kk) hx hb dL_law_816 hk ?_
  refine lv_aload_n hx hb dL_law_817 rfl (lv_at hl 6 rfl) ?_
  refine lv_iload hx hb dL_law_818 (lv_at hl 1 rfl) ?_
  refine lv_iconst (v := 4) hx hb dL_law_820 (by decide) ?_
  refine k_iadd (v := 4) hx hb dL_law_821 (by decide) ?_
  refine k_script (x := (xs 4)) hx hb hX hbl hbA hS 4 (by decide) rfl (by subst hL; unfold vp_in; decide) dL_law_822 ?_
  refine lv_aload_n hx hb dL_law_823 rfl (lv_at hl 6 rfl) ?_
  refine lv_iload hx hb dL_law_824 (lv_at hl 1 rfl) ?_
  refine lv_iconst (v := 5) hx hb dL_law_826 (by decide) ?_
  refine k_iadd (v := 5) hx hb dL_law_827 (by decide) ?_
  refine k_script (x := (xs 5)) hx hb hX hbl hbA hS 5 (by decide) rfl (by subst hL; unfold vp_in; decide) dL_law_828 ?_
  refine ct_V (wr := []) hSF hl.1 hP hD hS hA hK hGV (c177_X12_joint l hfl D cA g (a 52) (a 53) (a 54) (a 55) (a 56) (a 57) (a 58) (a 59) (a 60) (a 61) (a 62) (a 63) (a 64) (a 65) (a 66) (a 67) (a 68) (a 69) (a 70) ((xs 1)) ((xs 2)) (kk) ((xs 4)) ((xs 5)) k1) goV_L_162 pd_X12_joint ⟨(Nat.le_of_ble_eq_true rfl), (Nat.le_of_ble_eq_true rfl)⟩ ⟨(Nat.le_of_ble_eq_true rfl), (Nat.le_of_ble_eq_true rfl)⟩ (va_recv hK hP (ci := 15) (q0 := 0) rfl rfl) dL_law_829 rfl (Nat.le_of_ble_eq_true rfl) [0, 1] [] rfl (by decide) rfl (by decide) (by decide) (fun q => [((a 52), .inr (15, [.ref (a 53), .ref (a 54), .ref (a 55), .ref (a 56), .ref (a 57), .ref (a 58), .ref (a 59), .ref (a 60), .ref (a 61), .ref (a 62), .ref (a 63), .ref (a 64), .ref (a 65), .ref (a 66), .ref (a 67), .ref (a 68), .ref (a 69), .ref (a 70), .long 0, .int 1, .int 2, .int 0, .int 0, .int 0, .int 0, .int 0, .int 0])), ((a 54), .inr (2, [.int 0, .ref g.1, .int 0]))]) (fun _ => rfl) (fun q2 H locs hP hD hS => ?_)
  refine W.eq (g2 := F0 m 832 ls [.int 0]) rfl ?_
  refine lv_istore (lv' := [(7, .int 0), (6, .int 1), (5, .int 0), (4, .ref (a 72)), (3, .ref (a 71)), (2, .ref (a 52)), (1, .ref (a 0)), (0, .ref b)]) hx hb dL_law_832 hl (by decide) rfl (fun ls hl => ?_)
  refine lv_aload_n hx hb dL_law_834 rfl (lv_at hl 5 rfl) ?_
  refine ct_V (wr := []) hSF hl.1 hP hD hS hA hK hGV (c17_X12_thrown l hfl D cA g (a 52) (a 53) (a 54) (a 55) (a 56) (a 57) (a 58) (a 59) (a 60) (a 61) (a 62) (a 63) (a 64) (a 65) (a 66) (a 67) (a 68) (a 69) (a 70)) goV_L_125 pd_X12_thrown ⟨(Nat.le_of_ble_eq_true rfl), (Nat.le_of_ble_eq_true rfl)⟩ ⟨(Nat.le_of_ble_eq_true rfl), (Nat.le_of_ble_eq_true rfl)⟩ (va_recv hK hP (ci := 15) (q0 := 0) rfl rfl) dL_law_835 rfl (Nat.le_of_ble_eq_true rfl) [0] [] rfl (by decide) rfl (by decide) (by decide) (fun q => [((a 52), .inr (15, [.ref (a 53), .ref (a 54), .ref (a 55), .ref (a 56), .ref (a 57), .ref (a 58), .ref (a 59), .ref (a 60), .ref (a 61), .ref (a 62), .ref (a 63), .ref (a 64), .ref (a 65), .ref (a 66), .ref (a 67), .ref (a 68), .ref (a 69), .ref (a 70), .long 0, .int 1, .int 2, .int 0, .int 0, .int 0, .int 0, .int 0, .int 0]))]) (fun _ => rfl) (fun q3 H locs hP hD hS => ?_)
  refine W.eq (g2 := F0 m 838 ls [.int 1]) rfl ?_
  refine lv_iload hx hb dL_law_838 (lv_at hl 1 rfl) ?_
  refine k_icmp_eq_t (tgt := 845) hx hb dL_law_840 (by decide) (by decide) ?_
  refine lv_iload hx hb dL_law_845 (lv_at hl 1 rfl) ?_
  refine k_if_ne_t (tgt := 862) hx hb dL_law_847 (by decide) (by decide) ?_
  refine lv_goto (tgt := 1963) hx hb dL_law_862 (by decide) ?_
  exact law_tail l hL C0 (Nat.le_of_ble_eq_true rfl) (Nat.le_of_ble_eq_true rfl) hS (lv_sub hl [2, 7] rfl)
