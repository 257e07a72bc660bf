/-! pulls -/
theorem s_bT0 {k : Nat} {σ : Sg} {Q : Int32 → Prop} (hk : k < 8) (h : Q (if bT σ (2 * k) = true then 1 else 0)) : w_X2_isBorne (nI k) 0 σ Q := by
  have := s_bT (p := 2 * k) (σ := σ) (Q := Q) (by omega) h
  rw [show 2 * k / 2 = k by omega, show 2 * k % 2 = 0 by omega] at this
  exact this
theorem s_bT1 {k : Nat} {σ : Sg} {Q : Int32 → Prop} (hk : k < 8) (h : Q (if bT σ (2 * k + 1) = true then 1 else 0)) : w_X2_isBorne (nI k) 1 σ Q := by
  have := s_bT (p := 2 * k + 1) (σ := σ) (Q := Q) (by omega) h
  rw [show (2 * k + 1) / 2 = k by omega, show (2 * k + 1) % 2 = 1 by omega] at this
  exact this
theorem s_carry {i : Nat} {σ : Sg} {Q : Sg → Prop} (hi : i < 25) (hd : 0 < (gL σ 0).toInt)
    (hW : -4000000000000000000 ≤ fW σ i ∧ fW σ i ≤ 4000000000000000000) (hR : -4000000000000000000 ≤ fR σ i ∧ fR σ i ≤ 4000000000000000000)
    (h : ∀ τ, Kp [] [] [] [0, 1] σ τ → (∀ j, j ≠ i → gB τ 0 j = gB σ 0 j ∧ gB τ 1 j = gB σ 1 j) → fW τ i = fW σ i + fR σ i / (gL σ 0).toInt → fR τ i = fR σ i % (gL σ 0).toInt → Q τ) : w_X1_carry (nI i) σ Q := by
  unfold w_X1_carry
  rw [ixn (by omega)]
  have hin : vp_in (nI i) 25 := in_nI hi (by decide)
  have z : (0 : Int64).toInt = 0 := rfl
  refine ⟨fun q => ?_, fun _ => ⟨hin, hin, ?_⟩⟩
  · rw [lle, z] at q; omega
  · refine s_floorDiv hd (fun r hr => ⟨hin, ?_⟩)
    rintro _ rfl
    refine ⟨hin, ?_⟩
    refine s_floorMod (show 0 < (gL (sB σ 0 i (gB σ 0 i + r)) 0).toInt from hd) (fun r2 hr2 => ⟨hin, ?_⟩)
    rintro _ rfl
    have hb := ediv_bd hd hR (by decide)
    refine h _ ((Kp.rf.sB rfl).sB rfl) (fun j hj => ⟨?_, ?_⟩) ?_ ?_
    · rw [gB_sB, if_neg (by decide), gB_sB, if_pos rfl, updL_ap, if_neg hj]
    · rw [gB_sB, if_pos rfl, updL_ap, if_neg hj, gB_sB, if_neg (by decide)]
    · show (gB (sB (sB σ 0 i (gB σ 0 i + r)) 1 i r2) 0 i).toInt = _
      rw [gB_sB, if_neg (by decide), gB_sB, if_pos rfl, updL_ap, if_pos rfl]
      exact l_add (a := fW σ i) (b := fR σ i / (gL σ 0).toInt) rfl hr (by omega)
    · show (gB (sB (sB σ 0 i (gB σ 0 i + r)) 1 i r2) 1 i).toInt = _
      rw [gB_sB, if_pos rfl, updL_ap, if_pos rfl, hr2, gB_sB, if_neg (by decide), gL_sB]
      rfl
theorem s_setPull {i all : Nat} {p3 : Int32} {σ : Sg} {Q : Sg → Prop} {s d : Int} (hi : i < 9) (hall : all < 512) (hs : p3.toInt = s) (hs1 : s = 1 ∨ s = -1)
    (ed : (gL σ 0).toInt = d) (hd : 0 < d) (hd2 : d ≤ 30000000000000)
    (h4 : -5000000000000 ≤ (gB σ 4 (all ^^^ 2 ^ i)).toInt ∧ (gB σ 4 (all ^^^ 2 ^ i)).toInt ≤ 5000000000000)
    (h5 : -250000000000000 ≤ (gB σ 5 (all ^^^ 2 ^ i)).toInt ∧ (gB σ 5 (all ^^^ 2 ^ i)).toInt ≤ 250000000000000)
    (h : ∀ τ, Kp [] [] [] [0, 1] σ τ → (∀ j, j ≠ i → gB τ 0 j = gB σ 0 j ∧ gB τ 1 j = gB σ 1 j) → 0 ≤ fR τ i → fR τ i < d →
      fW τ i * d + fR τ i = s * (256 * (gB σ 4 (all ^^^ 2 ^ i)).toInt + (gB σ 5 (all ^^^ 2 ^ i)).toInt) → Q τ) : w_X1_setPull (nI i) (nI all) p3 σ Q := by
  have hx := xor_lt9 hall hi
  have hin : vp_in (nI i) 25 := in_nI (by omega) (by decide)
  have hinx : vp_in (nI (all ^^^ 2 ^ i)) 512 := in_nI hx (by decide)
  have z : (0 : Int64).toInt = 0 := rfl
  have c256 : (256 : Int64).toInt = 256 := rfl
  unfold w_X1_setPull
  rw [shl_1 (by omega), nI_xor, ixn (a := all ^^^ 2 ^ i) (by omega), ixn (a := i) (by omega)]
  refine ⟨hinx, ?_⟩
  intro v2 e2
  refine ⟨hinx, ?_⟩
  intro v4 e4
  have hs2 : (p3.toInt64).toInt = s := by rw [Int32.toInt_toInt64]; exact hs
  have t2 : v2.toInt = s * (gB σ 4 (all ^^^ 2 ^ i)).toInt := by
    rw [e2]; exact l_mul (B := 5000000000000) hs2 rfl (by rcases hs1 with e | e <;> rw [e] <;> omega) (by decide)
  have t4 : v4.toInt = s * (gB σ 5 (all ^^^ 2 ^ i)).toInt := by
    rw [e4]; exact l_mul (B := 250000000000000) hs2 rfl (by rcases hs1 with e | e <;> rw [e] <;> omega) (by decide)
  have b2 : -5000000000000 ≤ v2.toInt ∧ v2.toInt ≤ 5000000000000 := by
    rw [t2]; rcases hs1 with e | e <;> rw [e] <;> omega
  have b4 : -250000000000000 ≤ v4.toInt ∧ v4.toInt ≤ 250000000000000 := by
    rw [t4]; rcases hs1 with e | e <;> rw [e] <;> omega
  have hd' : 0 < (gL σ 0).toInt := by omega
  refine ⟨fun q => ?_, fun _ => s_floorDiv hd' (fun r6 hr6 => ⟨hin, ?_⟩)⟩
  · rw [lle, z] at q; omega
  rintro _ rfl
  refine s_floorMod (show 0 < (gL (sB σ 0 i (256 * r6)) 0).toInt from hd') (fun r9 hr9 => ⟨hin, ?_⟩)
  rintro _ rfl
  rw [gL_sB, ed] at hr9
  rw [ed] at hr6
  have q6 := ediv_bd hd b2 (by decide)
  have q9 := Int.emod_nonneg v2.toInt (Int.ne_of_gt hd)
  have q9' := Int.emod_lt_of_pos v2.toInt hd
  have k6 : (256 * r6).toInt = 256 * (v2.toInt / d) := l_mul (B := 1280000000000000) c256 hr6 (by omega) (by decide)
  have k9 : (256 * r9).toInt = 256 * (v2.toInt % d) := l_mul (B := 7680000000000000) c256 hr9 (by omega) (by decide)
  have k10 : (256 * r9 + v4).toInt = 256 * (v2.toInt % d) + v4.toInt := l_add k9 rfl (by omega)
  have eW : fW (sB (sB σ 0 i (256 * r6)) 1 i (256 * r9 + v4)) i = 256 * (v2.toInt / d) := by
    show (gB (sB (sB σ 0 i (256 * r6)) 1 i (256 * r9 + v4)) 0 i).toInt = _
    rw [gB_sB, if_neg (by decide), gB_sB, if_pos rfl, updL_ap, if_pos rfl, k6]
  have eR : fR (sB (sB σ 0 i (256 * r6)) 1 i (256 * r9 + v4)) i = 256 * (v2.toInt % d) + v4.toInt := by
    show (gB (sB (sB σ 0 i (256 * r6)) 1 i (256 * r9 + v4)) 1 i).toInt = _
    rw [gB_sB, if_pos rfl, updL_ap, if_pos rfl, k10]
  refine s_carry (by omega) (show 0 < (gL (sB (sB σ 0 i (256 * r6)) 1 i (256 * r9 + v4)) 0).toInt from hd') (by rw [eW]; omega) (by rw [eR]; omega) (fun τ hK hj hW hR => ?_)
  rw [eW, eR] at hW
  rw [eR] at hR
  have ed' : (gL (sB (sB σ 0 i (256 * r6)) 1 i (256 * r9 + v4)) 0).toInt = d := ed
  rw [ed'] at hW hR
  refine h τ (((Kp.rf.sB rfl).sB rfl).tr hK) (fun j hj2 => ⟨?_, ?_⟩) ?_ ?_ ?_
  · rw [(hj j hj2).1, gB_sB, if_neg (by decide), gB_sB, if_pos rfl, updL_ap, if_neg hj2]
  · rw [(hj j hj2).2, gB_sB, if_pos rfl, updL_ap, if_neg hj2, gB_sB, if_neg (by decide)]
  · rw [hR]; exact Int.emod_nonneg _ (Int.ne_of_gt hd)
  · rw [hR]; exact Int.emod_lt_of_pos _ hd
  · have e7 : s * (256 * (gB σ 4 (all ^^^ 2 ^ i)).toInt + (gB σ 5 (all ^^^ 2 ^ i)).toInt) = 256 * v2.toInt + v4.toInt := by
      rw [t2, t4, Int.mul_add, Int.mul_left_comm]
    rw [hW, hR, Int.add_mul, Int.mul_assoc, e7]
    have g1 := em v2.toInt d
    have g2 := em (256 * (v2.toInt % d) + v4.toInt) d
    omega
/-! what is asked, in two parts -/
theorem hi_lo (y : Int32) : 256 * (iShr y 8).toInt + (y &&& 255).toInt = y.toInt ∧ 0 ≤ (y &&& 255).toInt ∧ (y &&& 255).toInt ≤ 255 := by
  have e1 : (iShr y 8).toInt = y.toInt / 256 := by
    unfold iShr
    rw [pk_shr y (8 &&& 31) 8 (by decide +kernel), Int.shiftRight_eq_div_pow]
    rfl
  have e2 : (y &&& 255).toInt = ((y.toBitVec.toNat % 256 : Nat) : Int) := by
    rw [pk_and y 8 (by decide +kernel), nI_ti (by have := Nat.mod_lt y.toBitVec.toNat (show 0 < 2 ^ 8 by decide); omega)]
  have e3 : y.toInt = (y.toBitVec.toNat : Int) ∨ y.toInt = (y.toBitVec.toNat : Int) - 4294967296 := by
    have : y.toInt = y.toBitVec.toInt := rfl
    rw [this, BitVec.toInt_eq_toNat_cond]
    split
    · exact Or.inl rfl
    · exact Or.inr rfl
  omega
theorem wayT_bd {N M T m k ax : Nat} {σ : Sg} (hF : Fr N M T σ) (hm : m < M) (hk : k < N) (hax : ax < 2) : -24 ≤ (wayT σ m k ax).toInt ∧ (wayT σ m k ax).toInt ≤ 24 := by
  have hN : N ≤ 5 := hF.2.2.1
  have hp := hF.2.2.2.2.2.1
  unfold wayT
  rcases oEnd_cases (k := k) hF hm with e | ⟨b, hb, e⟩
  · rw [e, if_neg neg1]; exact ⟨by decide, by decide⟩
  · rw [e, if_pos (nI_pos' (by omega)), ix2x (by omega) (by omega)]
    obtain ⟨x, y, e1, e2, e3, e4, e5⟩ := hp k hk
    obtain ⟨x', y', f1, f2, f3, f4, f5⟩ := hp b hb
    rcases (show ax = 0 ∨ ax = 1 by omega) with h | h <;> subst h
    · rw [Nat.add_zero, Nat.add_zero, e1, f1, pk_sub_toInt (by omega) (by omega)]
      omega
    · rw [e2, f2, pk_sub_toInt (by omega) (by omega)]
      omega
theorem mabs_ti {x : Int64} (h : -9223372036854775808 < x.toInt) : (mabsl x).toInt = if 0 < x.toInt then x.toInt else -x.toInt := by
  unfold mabsl
  have z : (0 : Int64).toInt = 0 := rfl
  by_cases h0 : 0 < x
  · have := llt.mp h0
    rw [z] at this
    rw [if_pos h0, if_pos this]
  · have : ¬ 0 < x.toInt := fun q => h0 (llt.mpr (by rw [z]; exact q))
    rw [if_neg h0, if_neg this, li_neg x h]
theorem sm_ext {n k : Nat} {f : Nat → Int} (h : ∀ m, n ≤ m → f m = 0) : sm (n + k) f = sm n f := by
  induction k with
  | zero => rfl
  | succ k ih => rw [← Nat.add_assoc, sm_s, ih, h _ (by omega), Int.add_zero]
theorem e_all : ∀ n, n < 8 → ∀ m, m < n → eS (2 ^ n - 1) m = (if (n - 1 - m) % 2 = 0 then 1 else -1) ∧ (2 ^ n - 1) ^^^ 2 ^ m < 2 ^ n ∧ pc ((2 ^ n - 1) ^^^ 2 ^ m) = n - 1 := by decide +kernel
theorem e_all0 : ∀ n, n < 8 → ∀ m, m < 9 → n ≤ m → eS (2 ^ n - 1) m = 0 := by decide +kernel
theorem quo_bd {w r d X B : Int} (hd : 0 < d) (h0 : 0 ≤ r) (h1 : r < d) (he : w * d + r = X) (hX : -B ≤ X ∧ X ≤ B) (hB : 0 ≤ B) : -B ≤ w ∧ w ≤ B := by
  have e : X / d = w := ((Int.ediv_emod_unique (a := X) (q := w) (r := r) hd).mpr ⟨by rw [Int.mul_comm]; omega, h0, h1⟩).1
  rw [← e]
  exact ediv_bd hd hX hB
/-- the pulls of a frame that stands -/
def FoP (N M : Nat) (σ τ : Sg) (d : Int) : Prop :=
  0 < d ∧ d ≤ 30000000000000 ∧ (gL τ 0).toInt = d ∧
  (∀ i, i < M → 0 ≤ fR τ i ∧ fR τ i < d ∧ -1100000000000000 ≤ fW τ i ∧ fW τ i ≤ 1100000000000000) ∧
  (∀ p, p < 2 * N → bT σ p = false → (gA σ 1 p).toInt * d + sm M (fun m => wayI σ m p * (fW τ m * d + fR τ m)) = 0)
theorem s_findPulls {N M T : Nat} {σ : Sg} {Q : Int32 → Sg → Prop} (hF : Fr N M T σ) (hN : 2 ≤ N)
    (h0 : ∀ c : Int32, c = 108 ∨ c = 116 ∨ c = 99 → ∀ τ, Kp [] [0] [10, 11, 12] [0, 1, 3, 4, 5] σ τ → Q c τ)
    (h1 : M ≤ 7 → ∀ τ d, Kp [] [0] [10, 11, 12] [0, 1, 3, 4, 5] σ τ → FoP N M σ τ d → Q 46 τ) : w_X1_findPulls σ Q := by
  have hN5 : N ≤ 5 := hF.2.2.1
  have hM9 : M ≤ 9 := hF.2.2.2.1
  obtain ⟨h7, h71⟩ := rb_7 hF hN
  unfold w_X1_findPulls
  rw [hF.1, hF.2.1]
  refine ⟨fun r i => ∃ k : Nat, k ≤ N ∧ i = nI k ∧ r = nI (rb σ (2 * k)), fun _ i => ((N : Int) - i.toInt).toNat, ⟨0, Nat.zero_le _, rfl, rfl⟩, ?_⟩
  rintro _ _ ⟨k, hk, rfl, rfl⟩
  have hrk := rb_mono (σ := σ) (show 2 * k ≤ 2 * N by omega)
  refine ⟨fun q => ?_, fun q => ?_⟩
  · have := le_end q hk (by omega)
    subst this
    obtain ⟨n, hn⟩ : ∃ n, n = rb σ (2 * k) := ⟨_, rfl⟩
    rw [← hn] at h7 h71 ⊢
    refine ⟨fun q2 => ?_, fun q2 => ⟨fun _ => h0 116 (Or.inr (Or.inl rfl)) σ Kp.rf, fun _ => h0 108 (Or.inl rfl) σ Kp.rf⟩⟩
    have hMn : M = n := (nI_eq2 (by omega) (by omega)).mp q2
    subst hMn
    refine s_fillRows hF hN (fun σ5 hK5 hR => ?_)
    obtain ⟨w, hw⟩ : ∃ z : Nat → Nat → Int, z = fun r m => if r < M ∧ m < M then (gA σ5 10 (9 * r + m)).toInt else 0 := ⟨_, rfl⟩
    obtain ⟨a, ha⟩ : ∃ z : Nat → Int, z = fun r => if r < M then (gA σ5 11 r).toInt else 0 := ⟨_, rfl⟩
    obtain ⟨b, hb⟩ : ∃ z : Nat → Int, z = fun r => if r < M then (gA σ5 12 r).toInt else 0 := ⟨_, rfl⟩
    have gw : ∀ r m, r < M → m < M → (gA σ5 10 (9 * r + m)).toInt = w r m := fun r m h1 h2 => by rw [hw]; exact (if_pos ⟨h1, h2⟩).symm
    have ga : ∀ r, r < M → (gA σ5 11 r).toInt = a r ∧ (gA σ5 12 r).toInt = b r := fun r h1 => by rw [ha, hb]; exact ⟨(if_pos h1).symm, (if_pos h1).symm⟩
    have row : ∀ r, r < M → ∃ p, p < 2 * k ∧ bT σ p = false ∧ rb σ p = r := fun r hr => rb_sur _ (by omega)
    have loadb : ∀ p, -1122 ≤ (gA σ 1 p).toInt ∧ (gA σ 1 p).toInt ≤ 1122 := fun p => by
      have h1 := hF.2.2.2.2.2.2.2.1 p
      have h2 : T ≤ 34 := hF.2.2.2.2.1
      omega
    have wb : ∀ r m, -24 ≤ w r m ∧ w r m ≤ 24 := fun r m => by
      by_cases hrm : r < M ∧ m < M
      · rw [← gw r m hrm.1 hrm.2]
        obtain ⟨p, p1, p2, p3⟩ := row r hrm.1
        rw [← p3, (hR p p1 p2).1 m hrm.2]
        exact wayT_bd hF hrm.2 (by omega) (Nat.mod_lt _ (by decide))
      · have e : w r m = 0 := by rw [hw]; exact if_neg hrm
        rw [e]; exact ⟨by decide, by decide⟩
    have ab : ∀ r, (-5 ≤ a r ∧ a r ≤ 5) ∧ (-255 ≤ b r ∧ b r ≤ 255) ∧ (-1122 ≤ 256 * a r + b r ∧ 256 * a r + b r ≤ 1122) := fun r => by
      by_cases hr : r < M
      · obtain ⟨p, p1, p2, p3⟩ := row r hr
        obtain ⟨g1, g2⟩ := ga r hr
        obtain ⟨-, k1, k2⟩ := hR p p1 p2
        have hl := hi_lo (-(gA σ 1 p))
        have lb := loadb p
        rw [ti_neg _ (by omega)] at hl
        rw [← g1, ← g2, ← p3, k1, k2]
        omega
      · have e1 : a r = 0 := by rw [ha]; exact if_neg hr
        have e2 : b r = 0 := by rw [hb]; exact if_neg hr
        rw [e1, e2]; exact ⟨⟨by decide, by decide⟩, ⟨by decide, by decide⟩, ⟨by decide, by decide⟩⟩
    have asked : ∀ p, p < 2 * k → bT σ p = false → 256 * a (rb σ p) + b (rb σ p) = -(gA σ 1 p).toInt := fun p p1 p2 => by
      have hr : rb σ p < M := by have := rb_lt p1 p2; omega
      obtain ⟨g1, g2⟩ := ga _ hr
      obtain ⟨-, k1, k2⟩ := hR p p1 p2
      have hl := hi_lo (-(gA σ 1 p))
      have lb := loadb p
      rw [ti_neg _ (by omega)] at hl
      rw [← g1, ← g2, k1, k2]
      omega
    have hM8 : M < 8 := by omega
    have hp2 := p128 hM8
    obtain ⟨hall, hpc⟩ := d_all M hM8
    have hpow : 1 ≤ 2 ^ M := Nat.pos_of_ne_zero (by have := Nat.two_pow_pos M; omega)
    refine s_dets (w := w) (a := a) (b := b) hM8 wb (fun r => (ab r).1) (fun r => (ab r).2.1) gw ga (fun σ7 hK7 hT => ?_)
    have hK7' : Kp [] [0] [10, 11, 12] [0, 1, 3, 4, 5] σ σ7 := (hK5.mo rfl rfl rfl rfl).tr (hK7.mo rfl rfl rfl rfl)
    rw [shl_1 (by omega), show nI (2 ^ M) - 1 = nI (2 ^ M - 1) from pk_sub (b := 1) hpow, ixn (a := 2 ^ M - 1) (by omega)]
    refine ⟨in_nI (by omega) (by decide), ?_⟩
    intro v9 e9
    have z : (0 : Int64).toInt = 0 := rfl
    have hdet : v9.toInt = dt w M (2 ^ M - 1) := by
      rw [e9, (hT (2 ^ M - 1) (by omega)).1, hpc]
    have hdb := dt_bd w wb M (2 ^ M - 1) hall hpc
    have hbd7 := bd_le M hM8
    refine ⟨fun q3 => ?_, fun _ => h0 99 (Or.inr (Or.inr rfl)) σ7 hK7'⟩
    have hne : v9.toInt ≠ 0 := fun e => q3 (leq.mpr (e.trans z.symm))
    rintro _ rfl
    obtain ⟨d, hd⟩ : ∃ d : Int, d = if 0 < v9.toInt then v9.toInt else -v9.toInt := ⟨_, rfl⟩
    obtain ⟨sg, hsg⟩ : ∃ s : Int, s = if 0 < v9.toInt then 1 else -1 := ⟨_, rfl⟩
    have hd0 : 0 < d := by rw [hd]; split <;> omega
    have hd1 : d ≤ 30000000000000 := by rw [hd]; split <;> omega
    have hsd : sg * dt w M (2 ^ M - 1) = d := by rw [← hdet, hd, hsg]; split <;> omega
    have hL : (gL (sL σ7 0 (mabsl v9)) 0).toInt = d := by
      rw [gL_sL, if_pos rfl, mabs_ti (by omega), hd]
    have tabs : ∀ m, m < M → (gB σ7 4 ((2 ^ M - 1) ^^^ 2 ^ m)).toInt = fs w a (M - 1) ((2 ^ M - 1) ^^^ 2 ^ m) ∧ (gB σ7 5 ((2 ^ M - 1) ^^^ 2 ^ m)).toInt = fs w b (M - 1) ((2 ^ M - 1) ^^^ 2 ^ m) := fun m hm => by
      obtain ⟨-, q1, q2⟩ := e_all M hM8 m hm
      have := (hT _ q1).2 (by omega)
      rw [q2] at this
      exact this
    have hbd6 := bd_le2 (M - 1) (by omega)
    have fbd : ∀ (c : Nat → Int) (C : Int), 0 ≤ C → (∀ r, -C ≤ c r ∧ c r ≤ C) → ∀ m, m < M → -(C * 963158999040) ≤ fs w c (M - 1) ((2 ^ M - 1) ^^^ 2 ^ m) ∧ fs w c (M - 1) ((2 ^ M - 1) ^^^ 2 ^ m) ≤ C * 963158999040 := fun c C hC hc m hm => by
      obtain ⟨-, q1, q2⟩ := e_all M hM8 m hm
      have g := fs_bd w c C hC wb hc (M - 1) _ (by omega) q2
      have g2 : C * ((((M - 1 : Nat) : Int) + 1) * bd (M - 1)) ≤ C * 963158999040 := Int.mul_le_mul_of_nonneg_left hbd6 hC
      omega
    refine ⟨fun i σ12 => ∃ m : Nat, m ≤ M ∧ i = nI m ∧ Kp [] [] [] [0, 1] (sL σ7 0 (mabsl v9)) σ12 ∧ ∀ j, j < m → 0 ≤ fR σ12 j ∧ fR σ12 j < d ∧ fW σ12 j * d + fR σ12 j = sg * eS (2 ^ M - 1) j * (256 * fs w a (M - 1) ((2 ^ M - 1) ^^^ 2 ^ j) + fs w b (M - 1) ((2 ^ M - 1) ^^^ 2 ^ j)), fun i _ => ((M : Int) - i.toInt).toNat, ⟨0, Nat.zero_le _, rfl, Kp.rf, fun j hj => absurd hj (Nat.not_lt_zero _)⟩, ?_⟩
    rintro _ σ12 ⟨m, hm, rfl, hK12, hX⟩
    have hK12' : Kp [] [0] [10, 11, 12] [0, 1, 3, 4, 5] σ σ12 := (hK7'.sL rfl).tr (hK12.mo rfl rfl rfl rfl)
    have hL12 : (gL σ12 0).toInt = d := by rw [hK12.L 0 rfl]; exact hL
    refine ⟨fun q4 => ?_, fun q4 => ?_⟩
    · have := le_end q4 hm (by omega)
      subst this
      have lin : ∀ S, 256 * fs w a (m - 1) S + fs w b (m - 1) S = fs w (fun r => 256 * a r + b r) (m - 1) S := fun S => (fs_lin w a b 256 (m - 1) S).symm
      refine h1 (by omega) σ12 d hK12' ⟨hd0, hd1, hL12, fun i hi => ?_, fun p p1 p2 => ?_⟩
      · obtain ⟨x1, x2, x3⟩ := hX i hi
        rw [lin] at x3
        have g := fbd (fun r => 256 * a r + b r) 1122 (by decide) (fun r => (ab r).2.2) i hi
        have hse : sg * eS (2 ^ m - 1) i = 1 ∨ sg * eS (2 ^ m - 1) i = -1 := by
          rw [(e_all m hM8 i hi).1, hsg]
          split <;> split <;> decide
        have := quo_bd (B := 1100000000000000) hd0 x1 x2 x3 (by rcases hse with e | e <;> rw [e] <;> omega) (by decide)
        exact ⟨x1, x2, this⟩
      · have hr : rb σ p < m := by have := rb_lt p1 p2; omega
        obtain ⟨n', hn'⟩ : ∃ n', m = n' + 1 := ⟨m - 1, by omega⟩
        have c1 := cramer w a n' (rb σ p) (by omega) (by omega)
        have c2 := cramer w b n' (rb σ p) (by omega) (by omega)
        rw [← hn'] at c1 c2
        rw [show n' = m - 1 by omega] at c1 c2
        have cut : ∀ f : Nat → Int, sm 9 (fun q => eS (2 ^ m - 1) q * w (rb σ p) q * f q) = sm m (fun q => eS (2 ^ m - 1) q * w (rb σ p) q * f q) := fun f => by
          have : sm (m + (9 - m)) (fun q => if q < 9 then eS (2 ^ m - 1) q * w (rb σ p) q * f q else 0) = sm m (fun q => if q < 9 then eS (2 ^ m - 1) q * w (rb σ p) q * f q else 0) := sm_ext (fun q hq => by
            by_cases h9 : q < 9
            · rw [if_pos h9, e_all0 m hM8 q h9 hq, Int.zero_mul, Int.zero_mul]
            · rw [if_neg h9])
          rw [show m + (9 - m) = 9 by omega] at this
          rw [sm_congr (g := fun q => eS (2 ^ m - 1) q * w (rb σ p) q * f q) (fun q hq => if_pos hq), sm_congr (n := m) (g := fun q => eS (2 ^ m - 1) q * w (rb σ p) q * f q) (fun q hq => if_pos (by omega))] at this
          exact this
        rw [cut] at c1 c2
        have es : sm m (fun q => wayI σ q p * (fW σ12 q * d + fR σ12 q)) = sg * (256 * sm m (fun q => eS (2 ^ m - 1) q * w (rb σ p) q * fs w a (m - 1) ((2 ^ m - 1) ^^^ 2 ^ q)) + sm m (fun q => eS (2 ^ m - 1) q * w (rb σ p) q * fs w b (m - 1) ((2 ^ m - 1) ^^^ 2 ^ q))) := by
          rw [← sm_lmul, ← sm_add, ← sm_lmul]
          refine sm_congr (fun q hq => ?_)
          rw [(hX q hq).2.2]
          have ew : wayI σ q p = w (rb σ p) q := by
            rw [← gw _ _ hr hq, (hR p p1 p2).1 q hq]; rfl
          rw [ew]
          grind
        rw [es, c1, c2]
        have as := asked p p1 p2
        have e3 : sg * (256 * (a (rb σ p) * dt w m (2 ^ m - 1)) + b (rb σ p) * dt w m (2 ^ m - 1)) = (256 * a (rb σ p) + b (rb σ p)) * (sg * dt w m (2 ^ m - 1)) := by grind
        rw [e3, hsd, as, Int.neg_mul]
        omega
    · have hmlt : m < M := lt_of_nle q4 (by omega) (by omega)
      have hmu := mu_n hmlt (by omega)
      obtain ⟨t4, t5⟩ := tabs m hmlt
      have e4 : gB σ12 4 = gB σ7 4 := hK12.B 4 rfl
      have e5 : gB σ12 5 = gB σ7 5 := hK12.B 5 rfl
      have f4 := fbd a 5 (by decide) (fun r => (ab r).1) m hmlt
      have f5 := fbd b 255 (by decide) (fun r => (ab r).2.1) m hmlt
      have hee := (e_all M hM8 m hmlt).1
      have step : ∀ (p3 : Int32) (s : Int), p3.toInt = s → s = sg * eS (2 ^ M - 1) m → w_X1_setPull (nI m) (nI (2 ^ M - 1)) p3 σ12 (fun σ17 => (∃ m' : Nat, m' ≤ M ∧ nI m + 1 = nI m' ∧ Kp [] [] [] [0, 1] (sL σ7 0 (mabsl v9)) σ17 ∧ ∀ j, j < m' → 0 ≤ fR σ17 j ∧ fR σ17 j < d ∧ fW σ17 j * d + fR σ17 j = sg * eS (2 ^ M - 1) j * (256 * fs w a (M - 1) ((2 ^ M - 1) ^^^ 2 ^ j) + fs w b (M - 1) ((2 ^ M - 1) ^^^ 2 ^ j))) ∧ ((M : Int) - (nI m + 1).toInt).toNat < ((M : Int) - (nI m).toInt).toNat) := by
        intro p3 s hs hss
        have hs1 : s = 1 ∨ s = -1 := by
          rw [hss, hee, hsg]
          split <;> split <;> decide
        refine s_setPull (s := s) (d := d) (by omega) (by omega) hs hs1 hL12 hd0 hd1 (by rw [e4, t4]; omega) (by rw [e5, t5]; omega) (fun τ hK hj r0 r1 he => ⟨⟨m + 1, by omega, nI_1 m, hK12.tr hK, fun j hjm => ?_⟩, hmu⟩)
        by_cases ej : j = m
        · subst ej
          rw [e4, e5, t4, t5, hss] at he
          exact ⟨r0, r1, he⟩
        · obtain ⟨g1, g2⟩ := hj j ej
          have k1 : fW τ j = fW σ12 j := by unfold fW; rw [g1]
          have k2 : fR τ j = fR σ12 j := by unfold fR; rw [g2]
          rw [k1, k2]
          exact hX j (by omega)
      rw [show nI M - 1 - nI m = nI (M - 1 - m) from (congrArg (· - nI m) (pk_sub (b := 1) (show 1 ≤ M by omega))).trans (pk_sub (by omega)), odd_nI (by omega)]
      have o1 : (1 : Int32).toInt = 1 := rfl
      have o2 : (-1 : Int32).toInt = -1 := rfl
      have hle : v9 ≤ 0 ↔ ¬ 0 < v9.toInt := by rw [lle, z]; omega
      have hmod := Nat.mod_two_eq_zero_or_one (M - 1 - m)
      refine ⟨fun q5 => ?_, fun q5 => ?_⟩
      · have e0 : (M - 1 - m) % 2 = 0 := (nI_eq2 (b := 0) (by omega) (by decide)).mp q5
        rw [if_pos e0] at hee
        refine ⟨fun q6 => step _ _ o2 ?_, fun q6 => step _ _ o1 ?_⟩
        · rw [hee, hsg, if_neg (hle.mp q6)]; rfl
        · rw [hee, hsg, if_pos (by rw [hle] at q6; omega)]; rfl
      · have e0 : ¬ (M - 1 - m) % 2 = 0 := fun e => q5 (by rw [e]; rfl)
        rw [if_neg e0] at hee
        refine ⟨fun q6 => step _ _ o1 ?_, fun q6 => step _ _ o2 ?_⟩
        · rw [hee, hsg, if_neg (hle.mp q6)]; rfl
        · rw [hee, hsg, if_pos (by rw [hle] at q6; omega)]; rfl
  · have hklt : k < N := lt_of_nle q (by omega) (by omega)
    have hmu := mu_n hklt (by omega)
    have z0 : ∀ r : Nat, nI r + 0 = nI r := fun r => nI_add r 0
    have e2 : 2 * (k + 1) = 2 * k + 1 + 1 := by omega
    refine s_bT0 (by omega) ?_
    cases hb0 : bT σ (2 * k)
    · rw [if_neg Bool.false_ne_true]
      refine ⟨fun _ => ?_, fun q2 => absurd rfl q2⟩
      rintro _ rfl
      refine s_bT1 (by omega) ?_
      cases hb1 : bT σ (2 * k + 1)
      · rw [if_neg Bool.false_ne_true]
        refine ⟨fun _ => ?_, fun q2 => absurd rfl q2⟩
        rintro _ rfl
        exact ⟨⟨k + 1, by omega, nI_1 k, by rw [e2, rb_n hb1, rb_n hb0, nI_1, nI_1]⟩, hmu⟩
      · rw [if_pos rfl]
        refine ⟨fun q2 => absurd q2 (by decide), fun _ => ?_⟩
        rintro _ rfl
        exact ⟨⟨k + 1, by omega, nI_1 k, by rw [e2, rb_y hb1, rb_n hb0, nI_1, z0]⟩, hmu⟩
    · rw [if_pos rfl]
      refine ⟨fun q2 => absurd q2 (by decide), fun _ => ?_⟩
      rintro _ rfl
      refine s_bT1 (by omega) ?_
      cases hb1 : bT σ (2 * k + 1)
      · rw [if_neg Bool.false_ne_true]
        refine ⟨fun _ => ?_, fun q2 => absurd rfl q2⟩
        rintro _ rfl
        exact ⟨⟨k + 1, by omega, nI_1 k, by rw [e2, rb_n hb1, rb_y hb0, z0, nI_1]⟩, hmu⟩
      · rw [if_pos rfl]
        refine ⟨fun q2 => absurd q2 (by decide), fun _ => ?_⟩
        rintro _ rfl
        exact ⟨⟨k + 1, by omega, nI_1 k, by rw [e2, rb_y hb1, rb_y hb0, z0, z0]⟩, hmu⟩
