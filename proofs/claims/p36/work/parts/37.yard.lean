/-! the best way to cut is told by its cost -/
theorem l2i {x : Int64} {n : Nat} (h : x.toInt = (n : Int)) (hn : n < 2147483648) : x.toInt32 = nI n := by
  apply Int32.toInt_inj.mp
  rw [Int64.toInt_toInt32, nI_ti hn, h]
  exact Int.bmod_eq_of_le (by omega) (by omega)
theorem cNO : (4611686018427387904 : Int64).toInt = 4611686018427387904 := by decide +kernel
theorem cCH : (1953125 : Int64).toInt = 1953125 := by decide +kernel
theorem s_choose {J M S : Nat} {σ0 σ : Sg} {Q : Sg → Prop} {len : Nat → Nat} {p1 : Int64} (hS : S ≤ 5) (hlen : ∀ s, s < S → len s ≤ 900) (hg : Good J σ0 M len S (2 ^ M - 1) p1.toInt)
    (h0 : p1.toInt = 4611686018427387904 → ∀ τ, Kp [7, 8] [] [18] [] σ τ → gI τ 7 = 0 → Q τ)
    (h1 : ∀ τ (a : Nat → Nat), Kp [7, 8] [] [18] [] σ τ → gI τ 7 = 1 → (∀ m, m < 9 → (2 ^ M - 1).testBit m = true → a m < S) → (∀ s, s < S → ldN J σ0 M a (2 ^ M - 1) s ≤ len s) →
      gI τ 8 = nI (lenN len a (2 ^ M - 1) S) → (∀ m, m < 9 → gA τ 18 m = nI (if (2 ^ M - 1).testBit m = true then a m else 0)) → Q τ) : w_X0_choose p1 σ Q := by
  unfold w_X0_choose
  refine ⟨fun q => ?_, fun q => ?_⟩
  · rintro _ rfl
    have e : gI (sI σ 7 0) 7 = 0 := by rw [gI_sI, if_pos rfl]
    rw [e]
    exact ⟨fun q2 => absurd rfl q2, fun _ => h0 (by rw [q]; exact cNO) _ (Kp.rf.sI rfl) e⟩
  · rintro _ rfl
    have e : gI (sI σ 7 1) 7 = 1 := by rw [gI_sI, if_pos rfl]
    rw [e]
    refine ⟨fun _ => ?_, fun q2 => absurd q2 (by decide)⟩
    rcases hg with hg | ⟨a, a1, a2, a3⟩
    · exact absurd (leq.mpr (hg.trans cNO.symm)) q
    have k1 : lenN len a (2 ^ M - 1) S ≤ S * 900 := sn_le (fun s hs => by split; exact hlen s hs; omega)
    have k3 : S * 900 ≤ 5 * 900 := Nat.mul_le_mul_right _ hS
    obtain ⟨d, hd⟩ : ∃ z : Nat → Nat, z = fun m => if (2 ^ M - 1).testBit m = true then a m else 0 := ⟨_, rfl⟩
    have d4 : ∀ m, m < 9 → d m ≤ 4 := fun m hm => by
      rw [hd]
      show (if (2 ^ M - 1).testBit m = true then a m else 0) ≤ 4
      split
      · rename_i hb
        have := a1 m hm hb
        omega
      · omega
    have ecd : cdN a (2 ^ M - 1) = Vd d 9 := by rw [hd]; rfl
    have k2 : Vd d 9 < 1953125 := Vd_lt 9 d4
    rw [ecd] at a3
    have hpos : 0 < (1953125 : Int64).toInt := by rw [cCH]; decide
    have hp0 : 0 ≤ p1.toInt := by omega
    have t1 : (p1 / 1953125).toInt = ((lenN len a (2 ^ M - 1) S : Nat) : Int) := by rw [l_divp hpos hp0, cCH, a3]; omega
    have t2 : (lRem p1 1953125).toInt = ((Vd d 9 : Nat) : Int) := by rw [l_remp hpos hp0, cCH, a3]; omega
    have e1 := l2i t1 (by omega)
    have e2 := l2i t2 (by omega)
    rintro _ rfl
    rintro _ rfl
    rw [e1, e2]
    refine ⟨fun v i σ1 => ∃ c : Nat, c ≤ 9 ∧ i = nI c + (-1) ∧ v = nI (Vd d c) ∧ Kp [7, 8] [] [18] [] σ σ1 ∧ gI σ1 7 = 1 ∧ gI σ1 8 = nI (lenN len a (2 ^ M - 1) S) ∧ ∀ m, c ≤ m → m < 9 → gA σ1 18 m = nI (d m), fun _ i _ => (i.toInt + 1).toNat, ⟨9, by decide, by decide, rfl, (Kp.rf.sI rfl).sI rfl, ?_, ?_, fun m h2 h3 => by omega⟩, ?_⟩
    · rw [gI_sI, if_neg (by decide)]; exact e
    · rw [gI_sI, if_pos rfl]
    rintro _ _ σ1 ⟨c, hc, rfl, rfl, hK, g7, g8, hA⟩
    cases c with
    | zero =>
      refine ⟨fun _ => h1 σ1 a hK g7 a1 a2 g8 (fun m hm => ?_), fun q2 => absurd (by decide) q2⟩
      rw [hA m (Nat.zero_le _) hm, hd]
    | succ c =>
      rw [pk_m1]
      have dc := d4 c (by omega)
      have hV : Vd d (c + 1) = 5 * Vd d c + d c := rfl
      have hVlt : Vd d (c + 1) < 5 ^ (c + 1) := Vd_lt (c + 1) (fun k hk => d4 k (by omega))
      have h59 : 5 ^ (c + 1) ≤ 5 ^ 9 := Nat.pow_le_pow_right (by decide) (by omega)
      have h5 : (5 : Nat) ^ 9 = 1953125 := rfl
      refine ⟨fun q2 => absurd q2 (nI_pos (by omega)), fun _ => ⟨in_nI (by omega) (by decide), ?_⟩⟩
      rintro _ rfl
      rintro _ rfl
      have er : iRem (nI (Vd d (c + 1))) 5 = nI (d c) := by
        have := rem_nI (a := Vd d (c + 1)) (d := 5) (by omega) (by decide) (by decide)
        rw [hV, show (5 * Vd d c + d c) % 5 = d c by omega] at this
        rw [hV]; exact this
      have ed : nI (Vd d (c + 1)) / 5 = nI (Vd d c) := by
        have := div_nI (a := Vd d (c + 1)) (d := 5) (by omega) (by decide) (by decide)
        rw [hV, show (5 * Vd d c + d c) / 5 = Vd d c by omega] at this
        rw [hV]; exact this
      rw [er, ed, ixn (a := c) (by omega)]
      refine ⟨⟨c, by omega, rfl, rfl, hK.sA rfl, g7, g8, fun m h2 h3 => ?_⟩, ?_⟩
      · rw [gA_sA, if_pos rfl, upd_ap]
        by_cases em : m = c
        · rw [if_pos em, em]
        · rw [if_neg em]; exact hA m (by omega) h3
      · cases c with
        | zero => show ((nI 0 + (-1)).toInt + 1).toNat < ((nI 0).toInt + 1).toNat; decide
        | succ c =>
          show ((nI (c + 1) + (-1)).toInt + 1).toNat < ((nI (c + 1)).toInt + 1).toNat
          rw [pk_m1, nI_ti (by omega), nI_ti (by omega)]; omega
theorem Vd_0 : ∀ n, Vd (fun _ => 0) n = 0 := by
  intro n
  induction n with
  | zero => rfl
  | succ n ih => rw [Vd_s, ih]
/-- the way to cut is found, once -/
theorem s_cfind {N M T J S : Nat} {σ : Sg} {Q : Sg → Prop} (hF : Fr N M T σ) (hJ : Jo M J σ) (hC : Cu S σ) (h0 : ¬ gI σ 6 = 0 → CuOK M J S σ)
    (h : ∀ τ, Kp [6, 7, 8] [] [18, 22, 23] [11] σ τ → ¬ gI τ 6 = 0 → CuOK M J S τ → Cu S τ → (¬ gI σ 6 = 0 → τ = σ) → Q τ) : w_X0_find σ Q := by
  have hM9 : M ≤ 9 := hF.2.2.2.1
  have hJ12 : J ≤ 12 := hJ.2.1
  have h512 := p512 hM9
  have hpos := Nat.two_pow_pos M
  obtain ⟨c1, c2, c3, c4, c5⟩ := id hC
  obtain ⟨len, hl⟩ : ∃ z : Nat → Nat, z = fun s => ix (gA σ 19 s) := ⟨_, rfl⟩
  have hlen : ∀ s, s < S → gA σ 19 s = nI (len s) ∧ len s ≤ 900 := fun s hs => by
    obtain ⟨l, l1, l2, l3⟩ := c3 s hs
    have e : len s = l := by rw [hl]; show ix (gA σ 19 s) = l; rw [l1]; exact ixn (by omega)
    rw [e]; exact ⟨l1, l3⟩
  unfold w_X0_find
  refine ⟨fun q => ?_, fun q => h σ Kp.rf q (h0 q) hC (fun _ => rfl)⟩
  rintro _ rfl
  rw [hF.2.1, shl_1 (by omega)]
  refine s_measure hF hJ ⟨c4, c5⟩ (fun σ4 hK4 hT4 => ?_)
  have hsp : ∀ s, spN J σ M s ≤ 4500 := fun s => by
    have := sp_le (J := J) hF hJ12 s
    have : M * 474 ≤ 9 * 474 := Nat.mul_le_mul_right _ hM9
    omega
  refine ⟨fun i σ5 => ∃ n : Nat, n ≤ 2 ^ M ∧ i = nI n ∧ Kp [] [] [] [11] σ4 σ5 ∧ ∀ t, t < n → gB σ5 11 t = if t = 0 then 0 else 4611686018427387904, fun i _ => (((2 ^ M : Nat) : Int) - i.toInt).toNat, ⟨0, Nat.zero_le _, rfl, Kp.rf, fun t ht => absurd ht (Nat.not_lt_zero _)⟩, ?_⟩
  rintro _ σ5 ⟨n, hn, rfl, hK5, hB5⟩
  refine ⟨fun q2 => ?_, fun q2 => ?_⟩
  · have := le_end q2 hn (by omega)
    subst this
    have g0 : ∀ t, t < 2 ^ M → Good J σ M len 0 t (gB σ5 11 t).toInt := fun t ht => by
      rw [hB5 t ht]
      by_cases e : t = 0
      · subst e
        rw [if_pos rfl]
        refine Or.inr ⟨fun _ => 0, fun m hm hb => ?_, fun s hs => absurd hs (Nat.not_lt_zero _), ?_⟩
        · rw [Nat.zero_testBit] at hb; exact Bool.noConfusion hb
        · have e1 : cdN (fun _ => 0) 0 = 0 := by
            unfold cdN
            rw [Vd_congr (e := fun _ => 0) 9 (fun k _ => by rw [Nat.zero_testBit]; rfl)]
            exact Vd_0 9
          rw [e1]
          show (0 : Int64).toInt = ((0 * 1953125 + 0 : Nat) : Int)
          rw [Nat.zero_mul]
          rfl
      · rw [if_neg e]; exact Or.inl cNO
    refine ⟨fun i σ7 => ∃ k : Nat, k ≤ S ∧ i = nI k ∧ Kp [] [] [] [11] σ4 σ7 ∧ (∀ t, t < 2 ^ M → Good J σ M len k t (gB σ7 11 t).toInt) ∧ gB σ7 11 0 = 0, fun i _ => ((S : Int) - i.toInt).toNat, ⟨0, Nat.zero_le _, rfl, hK5, g0, by rw [hB5 0 hpos]; rfl⟩, ?_⟩
    rintro _ σ7 ⟨k, hk, rfl, hK7, hG7, hz7⟩
    have hK47 : Kp [] [] [22, 23] [11] σ σ7 := (hK4.mo rfl rfl rfl rfl).tr (hK7.mo rfl rfl rfl rfl)
    rw [hK47.I 5 rfl, c1]
    refine ⟨fun q3 => ?_, fun q3 => ?_⟩
    · have := le_end q3 hk (by omega)
      subst this
      rw [show nI (2 ^ M) - 1 = nI (2 ^ M - 1) from pk_sub (b := 1) hpos, ixn (a := 2 ^ M - 1) (by omega)]
      refine ⟨in_nI (by omega) (by decide), ?_⟩
      have spans : ∀ τ, gA τ 22 = gA σ7 22 → pieceN J τ = pieceN J σ → ∀ s, s < 2 ^ M → gA τ 22 s = nI (sn M (fun m => if s.testBit m then pieceN J τ m + 1 else 0)) := fun τ e1 e2 s hs => by
        rw [e1, hK7.A 22 rfl, e2, (hT4 s hs).1]
        rfl
      have cu : ∀ τ, Kp [6, 7, 8] [] [18] [] σ7 τ → Cu k τ := fun τ hKt => by
        refine ⟨(hKt.I 5 rfl).trans ((hK47.I 5 rfl).trans c1), c2, fun s hs => ?_, ?_, ?_⟩
        · rw [hKt.A 19 rfl, hK47.A 19 rfl]; exact c3 s hs
        · rw [hKt.A 22 rfl, hK7.A 22 rfl, (hT4 0 hpos).1]
          have : spN J σ M 0 = 0 := sn_zero (fun k _ => by rw [Nat.zero_testBit]; rfl)
          rw [this]; rfl
        · rw [hKt.A 23 rfl, hK7.A 23 rfl, (hT4 0 hpos).2]
          have : wtN 0 = 0 := by decide +kernel
          rw [this]; rfl
      have pc5 : ∀ τ, Kp [6, 7, 8] [] [18] [] σ7 τ → pieceN J τ = pieceN J σ := fun τ hKt =>
        pieceN_congr ((hKt.A 0 rfl).trans (hK47.A 0 rfl)) ((hKt.A 4 rfl).trans (hK47.A 4 rfl)) ((hKt.A 5 rfl).trans (hK47.A 5 rfl)) ((hKt.A 13 rfl).trans (hK47.A 13 rfl))
      refine s_choose (σ0 := σ) (len := len) (S := k) (J := J) (M := M) c2 (fun s hs => (hlen s hs).2) (hG7 (2 ^ M - 1) (by omega)) (fun hNO τ hKt t7 => ?_) (fun τ a hKt t7 a1 a2 t8 a18 => ?_)
      · rintro _ rfl
        have hKe : Kp [6, 7, 8] [] [18] [] σ7 (sI τ 6 1) := (hKt.mo rfl rfl rfl rfl).sI rfl
        refine h _ ((hK47.mo rfl rfl rfl rfl).tr (hKe.mo rfl rfl rfl rfl)) (by rw [gI_sI, if_pos rfl]; decide) ⟨spans _ (hKe.A 22 rfl) (pc5 _ hKe), Or.inl ⟨?_, ?_⟩⟩ (cu _ hKe) (fun q4 => absurd q q4)
        · rw [gI_sI, if_neg (by decide)]; exact t7
        · apply Nat.pos_of_ne_zero
          intro e
          subst e
          rw [show 2 ^ 0 - 1 = 0 from rfl, hz7] at hNO
          exact absurd hNO (by decide)
      · rintro _ rfl
        have hKe : Kp [6, 7, 8] [] [18] [] σ7 (sI τ 6 1) := (hKt.mo rfl rfl rfl rfl).sI rfl
        have bit : ∀ m, m < M → (2 ^ M - 1).testBit m = true := fun m hm => by rw [Nat.testBit_two_pow_sub_one]; exact decide_eq_true hm
        refine h _ ((hK47.mo rfl rfl rfl rfl).tr (hKe.mo rfl rfl rfl rfl)) (by rw [gI_sI, if_pos rfl]; decide) ⟨spans _ (hKe.A 22 rfl) (pc5 _ hKe), Or.inr ⟨?_, a, len, fun s hs => ?_, fun m hm => ⟨?_, a1 m (by omega) (bit m hm)⟩, fun s hs => ?_, fun s => usN a (2 ^ M - 1) s 9, fun s => ?_, ?_⟩⟩ (cu _ hKe) (fun q4 => absurd q q4)
        · rw [gI_sI, if_neg (by decide)]; exact t7
        · rw [hKe.A 19 rfl, hK47.A 19 rfl]; exact hlen s hs
        · show gA τ 18 m = nI (a m)
          rw [a18 m (by omega), if_pos (bit m hm)]
        · rw [pc5 _ hKe]
          have e : ldN J σ M a (2 ^ M - 1) s = sn M (fun m => if a m = s then pieceN J σ m + 1 else 0) := sn_congr (fun m hm => by
            by_cases q4 : a m = s
            · rw [if_pos ⟨bit m hm, q4⟩, if_pos q4]
            · rw [if_neg (fun z => q4 z.2), if_neg q4])
          rw [← e]
          exact a2 s hs
        · rw [usN_iff]
          constructor
          · rintro ⟨m, m1, m2, m3⟩
            rw [Nat.testBit_two_pow_sub_one] at m2
            exact ⟨m, of_decide_eq_true m2, m3⟩
          · rintro ⟨m, m1, m2⟩
            exact ⟨m, by omega, bit m m1, m2⟩
        · rw [gI_sI, if_neg (by decide), t8]
          rfl
    · have hlt : k < S := lt_of_nle q3 (by omega) (by omega)
      have hF7 : Fr N M T σ7 := hF.congr (hK47.I 0 rfl) (hK47.I 1 rfl) (fun k hk => hK47.A k (by
        rcases (show k = 0 ∨ k = 1 ∨ k = 2 ∨ k = 3 ∨ k = 4 ∨ k = 5 ∨ k = 6 ∨ k = 7 ∨ k = 8 ∨ k = 9 by omega) with e | e | e | e | e | e | e | e | e | e <;> subst e <;> rfl))
      refine s_fitting hF7 (by omega) (fun f hf => ?_)
      refine s_offer (σ0 := σ) (len := len) hM9 (by omega) (fun s hs => ⟨(hlen s (by omega)).2, by rw [hK47.A 19 rfl]; exact (hlen s (by omega)).1⟩) hf hsp (fun s hs => by rw [hK7.A 22 rfl, hK7.A 23 rfl]; exact hT4 s hs) hG7 hz7 (fun τ hKt hGt hzt => ?_)
      exact ⟨⟨k + 1, by omega, nI_1 k, hK7.tr hKt, hGt, hzt⟩, mu_n hlt (by omega)⟩
  · have hlt : n < 2 ^ M := lt_of_nle q2 (by omega) (by omega)
    have hmu := mu_n hlt (by omega)
    have hin : vp_in (nI n) 512 := in_nI (by omega) (by decide)
    have step : ∀ v : Int64, v = (if n = 0 then 0 else 4611686018427387904) → (∃ n' : Nat, n' ≤ 2 ^ M ∧ nI n + 1 = nI n' ∧ Kp [] [] [] [11] σ4 (sB σ5 11 n v) ∧ ∀ t, t < n' → gB (sB σ5 11 n v) 11 t = if t = 0 then 0 else 4611686018427387904) ∧ (((2 ^ M : Nat) : Int) - (nI n + 1).toInt).toNat < (((2 ^ M : Nat) : Int) - (nI n).toInt).toNat := fun v hv => by
      refine ⟨⟨n + 1, by omega, nI_1 n, hK5.sB rfl, fun t ht => ?_⟩, hmu⟩
      rw [gB_sB, if_pos rfl, updL_ap]
      by_cases e : t = n
      · rw [if_pos e, hv, e]
      · rw [if_neg e]; exact hB5 t (by omega)
    rw [ixn (a := n) (by omega)]
    refine ⟨fun q3 => ⟨hin, ?_⟩, fun q3 => ⟨hin, ?_⟩⟩
    · rintro _ rfl
      exact step _ (by rw [if_neg (fun e => q3 (by rw [e]; rfl))])
    · rintro _ rfl
      have e : n = 0 := (nI_eq2 (b := 0) (by omega) (by decide)).mp q3
      exact step _ (by rw [if_pos e])
theorem s_cfind2 {σ : Sg} {Q : Sg → Prop} (hf : ¬ gI σ 6 = 0) (h : Q σ) : w_X0_find σ Q := ⟨fun q => absurd q hf, fun _ => h⟩
section YD
variable {N M T J S : Nat} {σ : Sg}
theorem s_cc {Q : Sg → Prop} {X : String → Sg → Prop} (hf : ¬ gI σ 6 = 0) (h1 : ¬ gI σ 7 = 0 → Q σ) (h0 : gI σ 7 = 0 → X "java/util/NoSuchElementException" σ) : w_X6_checkCut σ Q X :=
  s_cfind2 hf ⟨h1, h0⟩
theorem s_L_wasteX {Q : Int32 → Sg → Prop} (hC : Cu S σ) (h : Q (-77) σ) : w_L_waste (nI S) σ Q := by
  have hS : S ≤ 5 := hC.2.1
  unfold w_L_waste w_X6_waste
  rw [hC.1]
  exact ⟨fun q => absurd q (nI_pos (by omega)), fun _ => ⟨fun q => absurd q (nI_nlt (Nat.le_refl _) (by omega)), fun _ => Or.inl ⟨rfl, h⟩⟩⟩
/-- what is left of a stick -/
theorem s_left {n : Nat} {Q : Int32 → Prop} {a len : Nat → Nat} (hF : Fr N M T σ) (hC : Cu S σ) (hn : n < S) (h22 : ∀ s, s < 2 ^ M → gA σ 22 s = nI (sn M (fun m => if s.testBit m then pieceN J σ m + 1 else 0)))
    (hl : gA σ 19 n = nI (len n)) (ha : ∀ m, m < M → gA σ 18 m = nI (a m) ∧ a m < S) (hld : sn M (fun m => if a m = n then pieceN J σ m + 1 else 0) ≤ len n)
    (h : Q (nI (len n - sn M (fun m => if a m = n then pieceN J σ m + 1 else 0)))) : w_X0_leftOf (nI n) (nI M) σ Q := by
  have hM9 : M ≤ 9 := hF.2.2.2.1
  have hS : S ≤ 5 := hC.2.1
  have h512 := p512 hM9
  unfold w_X0_leftOf
  rw [ixn (a := n) (by omega)]
  refine ⟨fun c i => ∃ m x : Nat, m ≤ M ∧ i = nI m ∧ c = nI x ∧ x < 2 ^ m ∧ ∀ k, x.testBit k = (decide (k < m) && decide (a k = n)), fun _ i => ((M : Int) - i.toInt).toNat, ⟨0, 0, Nat.zero_le _, rfl, rfl, by decide, fun k => by rw [Nat.zero_testBit, decide_eq_false (Nat.not_lt_zero k), Bool.false_and]⟩, ?_⟩
  rintro _ _ ⟨m, x, hm, rfl, rfl, hx, hb⟩
  refine ⟨fun q => ?_, fun q => ?_⟩
  · have := le_end q hm (by omega)
    subst this
    rw [ixn (a := x) (by omega), hl, h22 x hx]
    have e : sn m (fun k => if x.testBit k then pieceN J σ k + 1 else 0) = sn m (fun k => if a k = n then pieceN J σ k + 1 else 0) := sn_congr (fun k hk => by
      rw [hb k, decide_eq_true hk, Bool.true_and]
      by_cases q2 : a k = n
      · rw [decide_eq_true q2, if_pos rfl, if_pos q2]
      · rw [decide_eq_false q2, if_neg Bool.false_ne_true, if_neg q2])
    rw [e, pk_sub hld]
    exact ⟨in_nI (by omega) (by decide), in_nI (by omega) (by decide), h⟩
  · have hlt : m < M := lt_of_nle q (by omega) (by omega)
    have hmu := mu_n hlt (by omega)
    have hpow : 2 ^ (m + 1) = 2 * 2 ^ m := by rw [Nat.pow_succ]; omega
    obtain ⟨a1, a2⟩ := ha m hlt
    rw [ixn (a := m) (by omega), a1]
    refine ⟨in_nI (by omega) (by decide), fun q2 => ?_, fun q2 => ?_⟩
    · rintro _ rfl
      refine ⟨⟨m + 1, x, by omega, nI_1 m, ?_, by omega, fun k => ?_⟩, hmu⟩
      · show nI x ||| nI 0 = nI x
        rw [nI_or, Nat.or_zero]
      · rw [hb k]
        by_cases e : k = m
        · subst e
          have : ¬ a k = n := fun z => q2 (by rw [z])
          rw [decide_eq_false this, Bool.and_false, Bool.and_false]
        · rw [show decide (k < m) = decide (k < m + 1) from decide_eq_decide.mpr ⟨fun z => by omega, fun z => by omega⟩]
    · rintro _ rfl
      have e2 : a m = n := (nI_eq2 (by omega) (by omega)).mp q2
      refine ⟨⟨m + 1, x ||| 2 ^ m, by omega, nI_1 m, by rw [shl_1 (by omega), nI_or], Nat.or_lt_two_pow (by omega) (Nat.pow_lt_pow_right (by decide) (Nat.lt_succ_self m)), fun k => ?_⟩, hmu⟩
      rw [Nat.testBit_or, Nat.testBit_two_pow, hb k]
      by_cases e : k = m
      · subst e
        rw [decide_eq_true e2, decide_eq_true rfl, Bool.or_true, decide_eq_true (Nat.lt_succ_self k)]
        rfl
      · rw [decide_eq_false (show ¬ m = k from fun z => e z.symm), Bool.or_false, show decide (k < m) = decide (k < m + 1) from decide_eq_decide.mpr ⟨fun z => by omega, fun z => by omega⟩]
theorem sn_pos {n : Nat} {f : Nat → Nat} (h : 0 < sn n f) : ∃ k, k < n ∧ 0 < f k := by
  apply Classical.byContradiction
  intro hn
  have : sn n f = 0 := sn_zero (fun k hk => by
    apply Nat.eq_zero_of_not_pos
    exact fun z => hn ⟨k, hk, z⟩)
  omega
theorem sn_ge {n k : Nat} {f : Nat → Nat} (hk : k < n) : f k ≤ sn n f := by
  induction n with
  | zero => exact absurd hk (Nat.not_lt_zero _)
  | succ n ih =>
    rw [sn_s]
    by_cases e : k = n
    · rw [e]; omega
    · have := ih (by omega); omega
/-- the law's check of the sticks -/
theorem s_isYard {Q : Int32 → Sg → Prop} (hF : Fr N M T σ) (hJ : Jo M J σ) (hC : Cu S σ) (h0 : ¬ gI σ 6 = 0 → CuOK M J S σ)
    (h : ∀ τ, Kp [6, 7, 8] [] [18, 22, 23] [11] σ τ → ¬ gI τ 6 = 0 → CuOK M J S τ → Cu S τ → Q 1 τ) : w_L_isYard (nI M) (nI S) σ Q := by
  have hM9 : M ≤ 9 := hF.2.2.2.1
  have hS5 : S ≤ 5 := hC.2.1
  have hJ12 : J ≤ 12 := hJ.2.1
  unfold w_L_isYard w_L_wood w_X6_wood w_X6_checkCut
  refine s_cfind hF hJ hC h0 (fun τ hK hf hO hCt _ => ?_)
  have hQ := h τ hK hf hO hCt
  have hFt : Fr N M T τ := hF.congr (hK.I 0 rfl) (hK.I 1 rfl) (fun k hk => hK.A k (by
    rcases (show k = 0 ∨ k = 1 ∨ k = 2 ∨ k = 3 ∨ k = 4 ∨ k = 5 ∨ k = 6 ∨ k = 7 ∨ k = 8 ∨ k = 9 by omega) with e | e | e | e | e | e | e | e | e | e <;> subst e <;> rfl))
  have hJt : Jo M J τ := hJ.congr (hK.I 4 rfl) (fun k h1 h2 => hK.A k (by
    rcases (show k = 13 ∨ k = 14 ∨ k = 15 ∨ k = 16 ∨ k = 17 by omega) with e | e | e | e | e <;> subst e <;> rfl))
  have t0 : (0 : Int32).toInt = 0 := rfl
  obtain ⟨h22, hcase⟩ := id hO
  have piece1 : ∀ m, m < M → 1 ≤ pieceN J τ m ∧ pieceN J τ m ≤ 473 := fun m hm => piece_bd hFt hm hJ12
  rcases hcase with ⟨e7, hM0⟩ | ⟨e7, a, len, hl, ha, hld, u, hu, e8⟩
  · -- no way to cut
    refine ⟨fun q => absurd e7 q, fun _ => ⟨rfl, ?_⟩⟩
    intro J3 hJ3
    refine ⟨fun q => absurd q (by decide), fun _ => ⟨fun q => absurd rfl q, fun _ => ⟨fun q => absurd q (nI_nle hM0 (by omega)), fun _ => hJ3 1 ?_⟩⟩⟩
    rintro f8 _ f10 _
    refine ⟨fun is i s _ _ => ∃ m : Nat, m ≤ M ∧ i = nI m ∧ is = 1 ∧ τ = s, fun _ i _ _ _ => ((M : Int) - i.toInt).toNat, ?_, ⟨0, Nat.zero_le _, rfl, rfl, rfl⟩, ?_⟩
    · show ((M : Int) - (0 : Int32).toInt).toNat ≤ 9
      omega
    rintro _ _ _ f0 f1 ⟨m, hm, rfl, rfl, rfl⟩
    refine ⟨fun q => ?_, fun q => ?_⟩
    · refine ⟨fun is _ _ _ s => is = 1 ∧ τ = s, fun _ _ _ _ _ => 0, (show 0 ≤ 5 by decide), ⟨rfl, rfl⟩, ?_⟩
      rintro _ _ _ i9 _ ⟨rfl, rfl⟩
      have fin : w_L_waste (nI S) τ (fun r17 σ18 => (¬ r17 = (-77) → Q 0 σ18) ∧ (r17 = (-77) → Q 1 σ18)) := s_L_wasteX hCt ⟨fun q => absurd rfl q, fun _ => hQ⟩
      exact ⟨fun _ => ⟨fun q2 => absurd q2 (by decide), fun _ => ⟨fun _ => fin, fun q2 => absurd (by decide) q2⟩⟩, fun _ => ⟨fun _ => ⟨fun q2 => absurd q2 (by decide), fun _ => ⟨fun _ => fin, fun q2 => absurd (by decide) q2⟩⟩, fun q2 => absurd (by decide) q2⟩⟩
    · have hlt : m < M := lt_of_nle q (by omega) (by omega)
      have hmu := mu_n hlt (by omega)
      unfold w_L_stickOf w_X6_stickOf
      refine s_cM hFt.2.1 hM9 hlt (s_cc hf (fun q2 => absurd e7 q2) (fun _ => Or.inr ⟨rfl, ?_⟩))
      intro J53 hJ53
      refine s_L_piece hFt hJt hlt ⟨fun q2 => absurd q2 (nI_nle (piece1 m hlt).1 (by have := (piece1 m hlt).2; omega)), fun _ => ⟨fun q2 => absurd q2 (by decide), fun _ => ⟨fun q2 => absurd rfl q2, fun _ => hJ53 1 ?_⟩⟩⟩
      rintro _ rfl
      intro J61 hJ61
      exact ⟨fun _ => hJ61 f0 f1 ⟨⟨m + 1, by omega, nI_1 m, rfl, rfl⟩, hmu⟩, fun q2 => absurd (by decide) q2⟩
  · -- cut
    have n7 : ¬ gI τ 7 = 0 := by rw [e7]; decide
    have len9 : ∀ s, s < S → len s ≤ 900 := fun s hs => (hl s hs).2
    have W5 : sn S (fun s => if u s = true then len s else 0) ≤ 4500 := by
      have := sn_le (n := S) (b := 900) (f := fun s => if u s = true then len s else 0) (fun s hs => by split; exact len9 s hs; omega)
      have : S * 900 ≤ 5 * 900 := Nat.mul_le_mul_right _ hS5
      omega
    refine ⟨fun _ => ?_, fun q => absurd q n7⟩
    dsimp only
    rw [e8]
    intro J3 hJ3
    refine ⟨fun _ => hJ3 1 ?_, fun q => absurd (nI_pos' (by omega)) q⟩
    rintro f8 rfl f10 rfl
    have ld9 : ∀ k, k ≤ M → ∀ s, sn k (fun j => if a j = s then pieceN J τ j + 1 else 0) ≤ 4500 := fun k hk s => by
      have := sn_le (n := k) (b := 474) (f := fun j => if a j = s then pieceN J τ j + 1 else 0) (fun j hj => by
        have := (piece1 j (by omega)).2
        split <;> omega)
      have : k * 474 ≤ 9 * 474 := Nat.mul_le_mul_right _ (by omega)
      omega
    have ct9 : ∀ k, k ≤ M → ∀ s, sn k (fun j => if a j = s then 1 else 0) ≤ 9 := fun k hk s => by
      have := sn_le (n := k) (b := 1) (f := fun j => if a j = s then 1 else 0) (fun j hj => by split <;> omega)
      omega
    refine ⟨fun is i s f0 f1 => ∃ m : Nat, m ≤ M ∧ i = nI m ∧ is = 1 ∧ τ = s ∧ ∀ t, f0 t = nI (sn m (fun j => if a j = t then pieceN J τ j + 1 else 0)) ∧ f1 t = nI (sn m (fun j => if a j = t then 1 else 0)), fun _ i _ _ _ => ((M : Int) - i.toInt).toNat, ?_, ⟨0, Nat.zero_le _, rfl, rfl, rfl, fun _ => ⟨rfl, rfl⟩⟩, ?_⟩
    · show ((M : Int) - (0 : Int32).toInt).toNat ≤ 9
      omega
    rintro _ _ _ f0 f1 ⟨m, hm, rfl, rfl, rfl, hf01⟩
    refine ⟨fun q => ?_, fun q => ?_⟩
    · have := le_end q hm (by omega)
      subst this
      refine ⟨fun is lf al i s => ∃ n l : Nat, n ≤ S ∧ i = nI n ∧ is = 1 ∧ τ = s ∧ lf = nI l ∧ l ≤ n * 900 ∧ al = nI (sn n (fun s => if u s = true then len s else 0)), fun _ _ _ i _ => ((S : Int) - i.toInt).toNat, ?_, ⟨0, 0, Nat.zero_le _, rfl, rfl, rfl, rfl, Nat.zero_le _, rfl⟩, ?_⟩
      · show ((S : Int) - (0 : Int32).toInt).toNat ≤ 5
        omega
      rintro _ _ _ _ _ ⟨n, l, hn, rfl, rfl, rfl, rfl, hl9, rfl⟩
      have notneg : ¬ nI (sn S (fun s => if u s = true then len s else 0)) < 0 := nI_pos (by omega)
      have n5 : n * 900 ≤ 5 * 900 := Nat.mul_le_mul_right _ (by omega)
      refine ⟨fun q2 => ?_, fun q2 => ⟨fun q3 => absurd q3 notneg, fun _ => ?_⟩⟩
      · have := le_end q2 hn (by omega)
        subst this
        refine ⟨fun q3 => absurd q3 (by decide), fun _ => ⟨fun q3 => absurd q3 notneg, fun _ => ⟨fun q3 => absurd rfl q3, fun _ => ⟨fun q3 => absurd q3 (nI_pos (by omega)), fun _ => ?_⟩⟩⟩⟩
        exact s_L_wasteX hCt ⟨fun q3 => absurd rfl q3, fun _ => hQ⟩
      · have hlt : n < S := lt_of_nle q2 (by omega) (by omega)
        have hmu := mu_n hlt (by omega)
        have l9 := len9 n hlt
        have hldn := hld n hlt
        have waste : ∀ (P : Int32 → Sg → Prop), P (nI (len n - sn m (fun j => if a j = n then pieceN J τ j + 1 else 0))) τ → w_L_waste (nI n) τ P := fun P hP => by
          unfold w_L_waste w_X6_waste
          refine ⟨fun q3 => absurd q3 (nI_pos (by omega)), fun _ => ⟨fun _ => s_cc hf (fun _ => ?_) (fun q3 => absurd q3 n7), fun q3 => ?_⟩⟩
          · rw [hFt.2.1]
            exact s_left hFt hCt hlt h22 (hl n hlt).1 ha hldn hP
          · rw [hCt.1] at q3
            exact absurd (nI_lt hlt (by omega)) q3
        refine waste _ ?_
        intro J38 hJ38
        refine ⟨fun q3 => absurd q3 (nI_pos (by omega)), fun _ => hJ38 1 ?_⟩
        rintro _ rfl
        intro J41 hJ41
        rw [ixn (a := n) (by omega), (hf01 n).1, (hf01 n).2]
        have hin5 : vp_in (nI n) 5 := in_nI (by omega) (by decide)
        have cn := ct9 m (Nat.le_refl _) n
        have next : ∀ v : Int32, v = nI (if u n = true then len n else 0) → J41 v τ := fun v hv => by
          subst hv
          refine hJ41 _ _ ?_
          rintro _ rfl
          refine waste _ ?_
          rintro _ rfl
          refine ⟨⟨n + 1, l + (len n - sn m (fun j => if a j = n then pieceN J τ j + 1 else 0)), by omega, nI_1 n, rfl, rfl, by rw [nI_add], by omega, ?_⟩, hmu⟩
          rw [sn_s, nI_add]
        refine ⟨hin5, fun q3 => next 0 ?_, fun q3 => waste _ ⟨hin5, next _ ?_⟩⟩
        · have hc0 : sn m (fun j => if a j = n then 1 else 0) = 0 := by
            have := (nI_le2 (b := 0) (by omega) (by decide)).mp q3
            omega
          have hun : ¬ u n = true := fun z => by
            obtain ⟨j, j1, j2⟩ := (hu n).mp z
            have := sn_ge (f := fun j => if a j = n then 1 else 0) j1
            simp only [if_pos j2] at this
            omega
          rw [if_neg hun]
          rfl
        · have hc1 : 0 < sn m (fun j => if a j = n then 1 else 0) := by
            apply Nat.pos_of_ne_zero
            intro z
            exact q3 (by rw [z]; exact Int32.le_refl _)
          obtain ⟨j, j1, j2⟩ := sn_pos hc1
          have hj : a j = n := by
            apply Classical.byContradiction
            intro z
            rw [if_neg z] at j2
            exact absurd j2 (Nat.lt_irrefl 0)
          rw [if_pos ((hu n).mpr ⟨j, j1, hj⟩), nI_add, show len n - sn m (fun j => if a j = n then pieceN J τ j + 1 else 0) + sn m (fun j => if a j = n then pieceN J τ j + 1 else 0) = len n by omega]
    · have hlt : m < M := lt_of_nle q (by omega) (by omega)
      have hmu := mu_n hlt (by omega)
      obtain ⟨a1, a2⟩ := ha m hlt
      unfold w_L_stickOf w_X6_stickOf
      refine s_cM hFt.2.1 hM9 hlt (s_cc hf (fun _ => ?_) (fun q2 => absurd q2 n7))
      rw [ixn (a := m) (by omega), a1]
      refine ⟨in_nI (by omega) (by decide), ?_⟩
      intro J53 hJ53
      have am0 : ¬ nI (a m) < 0 := nI_pos (by omega)
      refine s_L_piece hFt hJt hlt ⟨fun q2 => absurd q2 (nI_nle (piece1 m hlt).1 (by have := (piece1 m hlt).2; omega)), fun _ => ⟨fun _ => ⟨fun q2 => absurd q2 am0, fun _ => ⟨fun q2 => ?_, fun _ => hJ53 1 ?_⟩⟩, fun q2 => absurd (nI_pos' (by omega)) q2⟩⟩
      · have := (nI_le2 (by omega) (by omega)).mp q2
        omega
      rintro _ rfl
      intro J61 hJ61
      have hin5 : vp_in (nI (a m)) 5 := in_nI (by omega) (by decide)
      refine ⟨fun q2 => absurd q2 am0, fun _ => ⟨hin5, s_L_piece hFt hJt hlt ⟨hin5, ?_⟩⟩⟩
      rintro _ rfl
      refine ⟨hin5, hin5, ?_⟩
      rintro _ rfl
      rw [ixn (a := a m) (by omega)]
      refine hJ61 _ _ ⟨⟨m + 1, by omega, nI_1 m, rfl, rfl, fun t => ?_⟩, hmu⟩
      obtain ⟨g1, g2⟩ := hf01 t
      rw [sn_s, sn_s, upd_ap, upd_ap]
      by_cases e : t = a m
      · subst e
        rw [if_pos rfl, if_pos rfl, if_pos rfl, if_pos rfl, g1, g2, nI_1, nI_add]
        exact ⟨rfl, nI_1 _⟩
      · rw [if_neg e, if_neg e, if_neg (fun z => e z.symm), if_neg (fun z => e z.symm)]
        exact ⟨g1, g2⟩
end YD
