/-! joints -/
def Jo (M J : Nat) (σ : Sg) : Prop :=
  gI σ 4 = nI J ∧ J ≤ 12 ∧ ∀ j, j < J → ∃ a b w t k : Nat, gA σ 13 j = nI a ∧ gA σ 14 j = nI b ∧ a < M ∧ b < M ∧ gA σ 15 j = nI w ∧ w < 5 ∧ gA σ 16 j = nI t ∧ 2 ≤ t ∧ t ≤ 20 ∧ gA σ 17 j = nI k ∧ 1 ≤ k ∧ k ≤ 31
theorem Jo.congr {M J : Nat} {σ τ : Sg} (h : Jo M J σ) (h0 : gI τ 4 = gI σ 4) (hA : ∀ k, 13 ≤ k → k < 18 → gA τ k = gA σ k) : Jo M J τ := by
  unfold Jo at *
  rw [h0, hA 13 (by decide) (by decide), hA 14 (by decide) (by decide), hA 15 (by decide) (by decide), hA 16 (by decide) (by decide), hA 17 (by decide) (by decide)]
  exact h
theorem Jo.more {M J : Nat} {σ : Sg} (h : Jo M J σ) : Jo (M + 1) J σ := by
  obtain ⟨h1, h2, h3⟩ := h
  refine ⟨h1, h2, fun j hj => ?_⟩
  obtain ⟨a, b, w, t, k, e1, e2, e3, e4, e5⟩ := h3 j hj
  exact ⟨a, b, w, t, k, e1, e2, by omega, by omega, e5⟩
def rv (k : Nat) : Nat → Nat
  | 0 => 0
  | n + 1 => (rv k n * 2 ^ 1) ||| ((k / 2 ^ n) &&& 1)
theorem rv_lt : ∀ n, n < 6 → ∀ k, k < 32 → rv k n < 64 := by decide +kernel
theorem rv_5 : ∀ k, k < 32 → 0 < k → 0 < rv k 5 ∧ rv k 5 < 32 := by decide +kernel
theorem back_5 : ∀ x, x < 32 → 0 < x → ¬ (((((nI x &&& 1) * 16) + ((nI x &&& 2) * 4)) + (nI x &&& 4)) + ((nI x &&& 8) / 4)) + ((nI x &&& 16) / 16) ≤ 0 := by decide +kernel
theorem s_misread {j k : Nat} {σ : Sg} {Q : Int32 → Prop} (hj : j < 12) (hk : gA σ 17 j = nI k) (hk2 : k ≤ 31) (h : Q (nI (rv k 5))) : w_X3_misreadMark (nI j) σ Q := by
  unfold w_X3_misreadMark
  refine ⟨fun r i => ∃ n : Nat, n ≤ 5 ∧ i = nI n ∧ r = nI (rv k n), fun _ i => (5 - i.toInt).toNat, ⟨0, by decide, rfl, rfl⟩, ?_⟩
  rintro _ _ ⟨n, hn, rfl, rfl⟩
  refine ⟨fun q => ?_, fun q => ⟨in_nI hj (by decide), ?_⟩⟩
  · have : n = 5 := by
      have := (nI_le2 (a := 5) (b := n) (by decide) (by omega)).mp q
      omega
    rw [this]; exact h
  · have hlt : n < 5 := by
      apply Nat.lt_of_not_le
      exact fun z => q ((nI_le2 (a := 5) (b := n) (by decide) (by omega)).mpr z)
    rintro _ rfl
    rw [ixn (by omega), hk]
    have hr := rv_lt n (by omega) k (by omega)
    refine ⟨⟨n + 1, by omega, nI_1 n, ?_⟩, ?_⟩
    · show (iShl (nI (rv k n)) (nI 1)) ||| ((iShr (nI k) (nI n)) &&& nI 1) = nI (rv k (n + 1))
      rw [shl_nI (by decide) (by omega), shr_nI (by omega) (by omega), nI_and, nI_or]
      rfl
    · show (5 - (nI n + 1).toInt).toNat < (5 - (nI n).toInt).toNat
      rw [nI_1, nI_ti (by omega), nI_ti (by omega)]
      omega
/-- how far a joint opens -/
def gapT (σ : Sg) (j : Nat) : Int32 :=
  if gA σ 8 (ix (gA σ 13 j)) - gA σ 9 (ix (gA σ 13 j)) ≤ 0 then 0 else gA σ 16 j - ((gA σ 16 j * (1000 - (3 * (gA σ 8 (ix (gA σ 13 j)) - gA σ 9 (ix (gA σ 13 j)))))) / 1000)
theorem gap_dec : ∀ t, t < 21 → ∀ d, d < 51 → 0 ≤ nI t - ((nI t * (1000 - (3 * nI d))) / 1000) ∧ nI t - ((nI t * (1000 - (3 * nI d))) / 1000) ≤ 20 := by decide +kernel
theorem gapT_range {N M T J j : Nat} {σ : Sg} (hF : Fr N M T σ) (hJ : Jo M J σ) (hj : j < J) : 0 ≤ gapT σ j ∧ gapT σ j ≤ 20 := by
  obtain ⟨-, -, -, hM, -, -, -, -, -, -, hm⟩ := hF
  obtain ⟨-, -, h⟩ := hJ
  obtain ⟨a, b, w, t, k, e1, e2, e3, e4, e5, e6, e7, e8, e9, e10, e11⟩ := h j hj
  obtain ⟨⟨m1, m2⟩, ⟨m3, m4⟩⟩ := hm a e3
  unfold gapT
  rw [e1, ixn (by omega), e7]
  split
  · exact ⟨by decide, by decide⟩
  · rename_i q
    have e := ti_sub (gA σ 8 a) (gA σ 9 a) (by omega)
    obtain ⟨d, hd, he⟩ : ∃ d : Nat, d < 51 ∧ gA σ 8 a - gA σ 9 a = nI d := by
      refine ⟨((gA σ 8 a).toInt - (gA σ 9 a).toInt).toNat, by omega, ?_⟩
      rw [teq, e, nI_ti (by omega)]
      rw [tle, e] at q
      have : (0 : Int32).toInt = 0 := rfl
      omega
    rw [he]
    exact gap_dec t (by omega) d hd
theorem s_opening {N M T J j : Nat} {σ : Sg} {Q : Int32 → Prop} (hF : Fr N M T σ) (hJ : Jo M J σ) (hj : j < J) (h : Q (gapT σ j)) : w_X3_opening (nI j) σ Q := by
  obtain ⟨-, -, -, hM, -⟩ := hF
  obtain ⟨-, hJ2, h3⟩ := hJ
  obtain ⟨a, b, w, t, k, e1, e2, e3, -⟩ := h3 j hj
  unfold w_X3_opening
  rw [ixn (by omega)]
  unfold gapT at h
  refine ⟨in_nI (by omega) (by decide), ?_⟩
  rintro _ rfl
  have hin : vp_in (gA σ 13 j) 9 := by rw [e1]; exact in_nI (by omega) (by decide)
  refine ⟨hin, hin, ?_⟩
  rintro _ rfl
  refine ⟨in_nI (by omega) (by decide), ?_⟩
  rintro _ rfl
  refine ⟨fun q => ?_, fun q => ?_⟩
  · rwa [if_pos q] at h
  · rwa [if_neg q] at h
theorem s_L_gap {N M T J j : Nat} {σ : Sg} {Q : Int32 → Prop} (hF : Fr N M T σ) (hJ : Jo M J σ) (hj : j < J) (h : Q (gapT σ j)) : w_L_gap (nI j) σ Q := by
  unfold w_L_gap w_X6_gap
  exact s_cJ hJ.1 hJ.2.1 hj (s_opening hF hJ hj h)
theorem s_L_misread {M J j : Nat} {σ : Sg} {Q : Int32 → Prop} (hJ : Jo M J σ) (hj : j < J) (h : ∀ x : Nat, 0 < x → x < 32 → Q (nI x)) : w_L_misread (nI j) σ Q := by
  obtain ⟨h1, h2, h3⟩ := id hJ
  obtain ⟨a, b, w, t, k, -, -, -, -, -, -, -, -, -, e, e2, e3⟩ := h3 j hj
  have := rv_5 k (by omega) (by omega)
  unfold w_L_misread w_X6_misread
  exact s_cJ h1 h2 hj (s_misread (by omega) e e3 (h _ this.1 this.2))
/-- whether a joint is thin enough -/
def thin (σ : Sg) (j : Nat) : Prop := ¬ mmin (gA σ 6 (ix (gA σ 13 j))) (gA σ 6 (ix (gA σ 14 j))) / 3 < gA σ 16 j
theorem s_thin {M J j : Nat} {σ : Sg} {Q : Int32 → Prop} (hM : M ≤ 9) (hJ : Jo M J σ) (hj : j < J) (h1 : thin σ j → Q 1) (h0 : ¬ thin σ j → Q 0) : w_X3_isThinEnough (nI j) σ Q := by
  obtain ⟨-, hJ2, h3⟩ := hJ
  obtain ⟨a, b, w, t, k, e1, e2, e3, e4, -⟩ := h3 j hj
  unfold w_X3_isThinEnough
  rw [ixn (by omega)]
  refine ⟨in_nI (by omega) (by decide), by rw [e1]; exact in_nI (by omega) (by decide), ?_⟩
  rintro _ rfl
  refine ⟨in_nI (by omega) (by decide), by rw [e2]; exact in_nI (by omega) (by decide), ?_⟩
  rintro _ rfl
  exact ⟨in_nI (by omega) (by decide), fun q => h0 (fun z => z q), fun q => h1 q⟩
theorem s_L_isRight {M J j : Nat} {σ : Sg} {Q : Int32 → Prop} (hM : M ≤ 9) (hJ : Jo M J σ) (hj : j < J) (h1 : thin σ j → Q 1) (h0 : ¬ thin σ j → Q 0) : w_L_isRight (nI j) σ Q := by
  unfold w_L_isRight w_X6_isRight
  refine s_cJ hJ.1 hJ.2.1 hj (s_thin hM hJ hj (fun t => ⟨rfl, fun q => absurd q (by decide), fun _ => h1 t⟩) (fun t => ⟨rfl, fun _ => h0 t, fun q => absurd rfl q⟩))
theorem s_L_isRightX {M J j : Nat} {σ : Sg} {Q : Int32 → Prop} (hJ : Jo M J σ) (hj : J ≤ j) (hj2 : j < 1000) (h : Q (-77)) : w_L_isRight (nI j) σ Q := by
  unfold w_L_isRight w_X6_isRight
  exact s_cJx hJ.1 hJ.2.1 hj hj2 ⟨rfl, rfl, h⟩
/-- how many of the first n joints are thin enough -/
noncomputable def tc (σ : Sg) : Nat → Nat
  | 0 => 0
  | n + 1 => tc σ n + (@ite Nat (thin σ n) (Classical.propDecidable _) 1 0)
theorem tc_y {σ : Sg} {n : Nat} (h : thin σ n) : tc σ (n + 1) = tc σ n + 1 := by
  show tc σ n + (@ite Nat (thin σ n) (Classical.propDecidable _) 1 0) = _
  rw [if_pos h]
theorem tc_n {σ : Sg} {n : Nat} (h : ¬ thin σ n) : tc σ (n + 1) = tc σ n := by
  show tc σ n + (@ite Nat (thin σ n) (Classical.propDecidable _) 1 0) = _
  rw [if_neg h]; rfl
theorem tc_le (σ : Sg) (n : Nat) : tc σ n ≤ n := by
  induction n with
  | zero => exact Nat.le_refl _
  | succ n ih =>
    by_cases h : thin σ n
    · rw [tc_y h]; omega
    · rw [tc_n h]; omega
theorem share_ok : ∀ j, j < 13 → 0 < j → ∀ r, r < 13 → vf_n32 (FP.fdiv (FP.i2f (nI r)) (FP.i2f (nI j))) ∧ Op.cmpValue (FP.fcmp (FP.fdiv (FP.i2f (nI r)) (FP.i2f (nI j))) (FP.fdiv (FP.i2f (nI r)) (FP.i2f (nI j)))) .l = 0 := by
  unfold vf_n32
  decide +kernel
theorem s_L_rightShare {M J : Nat} {σ : Sg} {Q : UInt32 → Prop} (hM : M ≤ 9) (hJ : Jo M J σ) (h0 : J = 0 → Q 3264479232) (h1 : 0 < J → Q (FP.fdiv (FP.i2f (nI (tc σ J))) (FP.i2f (nI J)))) : w_L_rightShare σ Q := by
  obtain ⟨e1, e2, e3⟩ := id hJ
  unfold w_L_rightShare w_X6_rightShare
  rw [e1]
  refine ⟨fun q => ?_, fun q => ⟨rfl, rfl, h0 ((nI_eq2 (b := 0) (by omega) (by decide)).mp q)⟩⟩
  have hpos : 0 < J := by
    apply Nat.pos_of_ne_zero
    rintro rfl
    exact q rfl
  refine ⟨fun r i => ∃ n : Nat, n ≤ J ∧ i = nI n ∧ r = nI (tc σ n), fun _ i => (J - i.toInt).toNat, ⟨0, by omega, rfl, rfl⟩, ?_⟩
  rintro _ _ ⟨n, hn, rfl, rfl⟩
  have htl := tc_le σ n
  refine ⟨fun q => ?_, fun q => ?_⟩
  · have : n = J := by
      have := (nI_le2 (a := J) (b := n) (by omega) (by omega)).mp q
      omega
    subst this
    exact ⟨(share_ok n (by omega) hpos _ (by omega)).1, h1 hpos⟩
  · have hlt : n < J := by
      apply Nat.lt_of_not_le
      exact fun z => q ((nI_le2 (by omega) (by omega)).mpr z)
    have hmu : (((J : Nat) : Int) - (nI n + 1).toInt).toNat < (((J : Nat) : Int) - (nI n).toInt).toNat := by
      rw [nI_1, nI_ti (by omega), nI_ti (by omega)]
      omega
    refine s_thin hM hJ hlt (fun t => ⟨fun q => absurd q (by decide), fun _ => ?_⟩) (fun t => ⟨fun _ => ?_, fun q => absurd rfl q⟩)
    · rintro _ rfl
      exact ⟨⟨n + 1, by omega, nI_1 n, by rw [tc_y t]; exact nI_1 _⟩, hmu⟩
    · rintro _ rfl
      exact ⟨⟨n + 1, by omega, nI_1 n, by rw [tc_n t]; exact nI_add _ 0⟩, hmu⟩
theorem s_L_widest {N M T J : Nat} {σ : Sg} {Q : Int32 → Prop} (hF : Fr N M T σ) (hJ : Jo M J σ) (h0 : J = 0 → Q (-75)) (h1 : ∀ w, w < J → (∀ j, j < J → gapT σ j ≤ gapT σ w) → Q (nI w)) : w_L_widest σ Q := by
  obtain ⟨e1, e2, e3⟩ := id hJ
  unfold w_L_widest w_X6_widest
  rw [e1]
  refine ⟨fun q => ?_, fun q => ⟨rfl, rfl, h0 ((nI_eq2 (b := 0) (by omega) (by decide)).mp q)⟩⟩
  have hpos : 0 < J := by
    apply Nat.pos_of_ne_zero
    rintro rfl
    exact q rfl
  refine ⟨fun r i => ∃ n w : Nat, n ≤ J ∧ i = nI n ∧ r = nI w ∧ w < J ∧ ∀ j, j < n → gapT σ j ≤ gapT σ w, fun _ i => (J - i.toInt).toNat, ⟨1, 0, hpos, rfl, rfl, hpos, fun j hj => by rw [show j = 0 by omega]; exact Int32.le_refl _⟩, ?_⟩
  rintro _ _ ⟨n, w, hn, rfl, rfl, hw, hmax⟩
  refine ⟨fun q => ?_, fun q => ?_⟩
  · have : n = J := by
      have := (nI_le2 (a := J) (b := n) (by omega) (by omega)).mp q
      omega
    subst this
    exact h1 w hw hmax
  · have hlt : n < J := by
      apply Nat.lt_of_not_le
      exact fun z => q ((nI_le2 (by omega) (by omega)).mpr z)
    have hmu : (((J : Nat) : Int) - (nI n + 1).toInt).toNat < (((J : Nat) : Int) - (nI n).toInt).toNat := by
      rw [nI_1, nI_ti (by omega), nI_ti (by omega)]
      omega
    refine s_opening hF hJ hlt (s_opening hF hJ hw ⟨fun c => ?_, fun c => ?_⟩)
    · refine ⟨⟨n + 1, w, by omega, nI_1 n, rfl, hw, fun j hj => ?_⟩, hmu⟩
      by_cases e : j = n
      · rw [e]; exact c
      · exact hmax j (by omega)
    · refine ⟨⟨n + 1, n, by omega, nI_1 n, rfl, hlt, fun j hj => ?_⟩, hmu⟩
      by_cases e : j = n
      · rw [e]; exact Int32.le_refl _
      · exact Int32.le_trans (hmax j (by omega)) (Int32.le_of_lt (Int32.not_le.mp c))
