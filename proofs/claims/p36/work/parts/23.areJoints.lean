/-! clashes, and the law's check of the joints -/
def conf (σ : Sg) (j o : Nat) : Bool := decide (gA σ 17 j = gA σ 17 o) || decide (nI (rv (ix (gA σ 17 j)) 5) = gA σ 17 o)
theorem s_conf {M J j o : Nat} {σ : Sg} {Q : Int32 → Prop} (hJ : Jo M J σ) (hj : j < J) (ho : o < J) (h : Q (if conf σ j o = true then 1 else 0)) : w_X3_canBeConfused (nI j) (nI o) σ Q := by
  obtain ⟨-, hJ2, h3⟩ := hJ
  obtain ⟨a, b, w, t, k, -, -, -, -, -, -, -, -, -, e, e2, e3⟩ := h3 j hj
  unfold w_X3_canBeConfused
  rw [ixn (by omega), ixn (by omega)]
  have ek : ix (gA σ 17 j) = k := by rw [e]; exact ixn (by omega)
  unfold conf at h
  rw [ek] at h
  refine ⟨in_nI (by omega) (by decide), in_nI (by omega) (by decide), fun q => ?_, fun q => s_misread (by omega) e e3 ⟨in_nI (by omega) (by decide), fun q2 => ?_, fun q2 => ?_⟩⟩
  · rwa [if_pos (by simp [q])] at h
  · rwa [if_neg (by simp [q, q2])] at h
  · rwa [if_pos (by simp [q2])] at h
def cl2 (σ : Sg) (n : Nat) : Nat → Nat
  | 0 => 0
  | o + 1 => cl2 σ n o + (if conf σ n o = true then 1 else 0)
def clN (σ : Sg) : Nat → Nat
  | 0 => 0
  | n + 1 => clN σ n + cl2 σ n n
theorem cl2_le (σ : Sg) (n o : Nat) : cl2 σ n o ≤ o := by
  induction o with
  | zero => exact Nat.le_refl _
  | succ o ih =>
    show cl2 σ n o + (if conf σ n o = true then 1 else 0) ≤ _
    split <;> omega
theorem clN_le (σ : Sg) (n : Nat) : clN σ n ≤ n * n := by
  induction n with
  | zero => exact Nat.le_refl _
  | succ n ih =>
    have := cl2_le σ n n
    show clN σ n + cl2 σ n n ≤ _
    have e : (n + 1) * (n + 1) = n * n + n + n + 1 := by rw [Nat.add_mul, Nat.mul_add]; omega
    omega
theorem s_clashes {M J : Nat} {σ : Sg} {Q : Int32 → Prop} (hJ : Jo M J σ) (h : Q (nI (clN σ J))) : w_X6_clashes σ Q := by
  obtain ⟨e1, e2, e3⟩ := id hJ
  unfold w_X6_clashes
  rw [e1]
  refine ⟨fun r i => ∃ n : Nat, n ≤ J ∧ i = nI n ∧ r = nI (clN σ n), fun _ i => (J - i.toInt).toNat, ⟨0, by omega, rfl, rfl⟩, ?_⟩
  rintro _ _ ⟨n, hn, rfl, rfl⟩
  refine ⟨fun q => ?_, fun q => ?_⟩
  · have : n = J := by
      have := (nI_le2 (a := J) (b := n) (by omega) (by omega)).mp q
      omega
    subst this
    exact h
  · have hlt : n < J := by
      apply Nat.lt_of_not_le
      exact fun z => q ((nI_le2 (by omega) (by omega)).mpr z)
    have hmu : (((J : Nat) : Int) - (nI n + 1).toInt).toNat < (((J : Nat) : Int) - (nI n).toInt).toNat := by
      rw [nI_1, nI_ti (by omega), nI_ti (by omega)]
      omega
    refine ⟨fun r i => ∃ o : Nat, o ≤ n ∧ i = nI o ∧ r = nI (clN σ n + cl2 σ n o), fun _ i => (n - i.toInt).toNat, ⟨0, by omega, rfl, rfl⟩, ?_⟩
    rintro _ _ ⟨o, ho, rfl, rfl⟩
    refine ⟨fun q2 => ?_, fun q2 => ?_⟩
    · have : o = n := by
        have := (nI_le2 (a := n) (b := o) (by omega) (by omega)).mp q2
        omega
      subst this
      exact ⟨⟨o + 1, by omega, nI_1 o, rfl⟩, hmu⟩
    · have hlt2 : o < n := by
        apply Nat.lt_of_not_le
        exact fun z => q2 ((nI_le2 (by omega) (by omega)).mpr z)
      have hmu2 : (((n : Nat) : Int) - (nI o + 1).toInt).toNat < (((n : Nat) : Int) - (nI o).toInt).toNat := by
        rw [nI_1, nI_ti (by omega), nI_ti (by omega)]
        omega
      refine s_conf hJ hlt (by omega) ?_
      by_cases c : conf σ n o = true
      · rw [if_pos c]
        refine ⟨fun q => absurd q (by decide), fun _ => ?_⟩
        rintro _ rfl
        refine ⟨⟨o + 1, by omega, nI_1 o, ?_⟩, hmu2⟩
        show nI _ + 1 = nI (clN σ n + (cl2 σ n o + (if conf σ n o = true then 1 else 0)))
        rw [if_pos c, nI_1]; rfl
      · rw [if_neg c]
        refine ⟨fun _ => ?_, fun q => absurd rfl q⟩
        rintro _ rfl
        refine ⟨⟨o + 1, by omega, nI_1 o, ?_⟩, hmu2⟩
        show nI _ + nI 0 = nI (clN σ n + (cl2 σ n o + (if conf σ n o = true then 1 else 0)))
        rw [if_neg c, nI_add]; rfl
theorem mmax_ge {x y : Int32} : x ≤ mmax x y ∧ y ≤ mmax x y := by
  unfold mmax
  split
  · rename_i h; exact ⟨Int32.le_of_lt h, Int32.le_refl _⟩
  · rename_i h; exact ⟨Int32.le_refl _, Int32.not_lt.mp h⟩
theorem s_areJoints {N M T J : Nat} {σ : Sg} {Q : Int32 → Prop} (hF : Fr N M T σ) (hJ : Jo M J σ) (h : Q 1) : w_L_areJoints (nI J) σ Q := by
  obtain ⟨e1, e2, e3⟩ := id hJ
  have hM : M ≤ 9 := hF.2.2.2.1
  have ht0 : (0 : Int32).toInt = 0 := rfl
  unfold w_L_areJoints
  refine s_L_isRightX hJ (Nat.le_refl _) (by omega) ?_
  intro J2 hJ2
  refine ⟨fun q => absurd rfl q, fun _ => hJ2 1 ?_⟩
  refine ⟨fun are right most i => ∃ n : Nat, n ≤ J ∧ are = 1 ∧ right = nI (tc σ n) ∧ i = nI n ∧ 0 ≤ most ∧ (∀ j, j < n → gapT σ j ≤ most) ∧ ((n = 0 ∧ most = 0) ∨ ∃ j, j < n ∧ most = gapT σ j), fun _ _ _ i => (J - i.toInt).toNat, ?_, ⟨0, by omega, rfl, rfl, rfl, Int32.le_refl _, fun j hj => absurd hj (Nat.not_lt_zero _), Or.inl ⟨rfl, rfl⟩⟩, ?_⟩
  · show (((J : Nat) : Int) - (0 : Int32).toInt).toNat ≤ 12
    omega
  rintro _ _ most _ ⟨n, hn, rfl, rfl, rfl, hm0, hm1, hm2⟩
  have htl := tc_le σ n
  refine ⟨fun q => ?_, fun q => ?_⟩
  · have : n = J := by
      have := (nI_le2 (a := J) (b := n) (by omega) (by omega)).mp q
      omega
    subst this
    have hcl := clN_le σ n
    have hnn : n * n ≤ 144 := Nat.mul_le_mul e2 e2
    have hfin : ∀ (w : Int32) (sh : UInt32), ((¬ nI n = 0 → w_L_gap w σ (fun r14 => (¬ r14 = most → Q 0) ∧ (r14 = most → vf_n32 (FP.fdiv (FP.i2f (nI (tc σ n))) (FP.i2f (nI n))) ∧ (¬ (Op.cmpValue (FP.fcmp sh (FP.fdiv (FP.i2f (nI (tc σ n))) (FP.i2f (nI n)))) .l) = 0 → Q 0) ∧ ((Op.cmpValue (FP.fcmp sh (FP.fdiv (FP.i2f (nI (tc σ n))) (FP.i2f (nI n)))) .l) = 0 → Q 1)))) ∧ (nI n = 0 → (¬ w = (-75) → Q 0) ∧ (w = (-75) → (¬ (Op.cmpValue (FP.fcmp sh 3264479232) .l) = 0 → Q 0) ∧ ((Op.cmpValue (FP.fcmp sh 3264479232) .l) = 0 → Q 1)))) →
        ((1 : Int32) = 0 → Q 0) ∧ (¬ (1 : Int32) = 0 → w_X6_clashes σ (fun r9 => (r9 < 0 → Q 0) ∧ (¬ r9 < 0 → w_X6_clashes σ (fun r11 => ((nI n * nI n) < r11 → Q 0) ∧ (¬ (nI n * nI n) < r11 → (¬ nI n = 0 → w_L_gap w σ (fun r14 => (¬ r14 = most → Q 0) ∧ (r14 = most → vf_n32 (FP.fdiv (FP.i2f (nI (tc σ n))) (FP.i2f (nI n))) ∧ (¬ (Op.cmpValue (FP.fcmp sh (FP.fdiv (FP.i2f (nI (tc σ n))) (FP.i2f (nI n)))) .l) = 0 → Q 0) ∧ ((Op.cmpValue (FP.fcmp sh (FP.fdiv (FP.i2f (nI (tc σ n))) (FP.i2f (nI n)))) .l) = 0 → Q 1)))) ∧ (nI n = 0 → (¬ w = (-75) → Q 0) ∧ (w = (-75) → (¬ (Op.cmpValue (FP.fcmp sh 3264479232) .l) = 0 → Q 0) ∧ ((Op.cmpValue (FP.fcmp sh 3264479232) .l) = 0 → Q 1)))))))) := by
      intro w sh hk
      refine ⟨fun q => absurd q (by decide), fun _ => s_clashes hJ ⟨fun q => absurd q (nI_pos (by omega)), fun _ => s_clashes hJ ⟨fun q => ?_, fun _ => hk⟩⟩⟩
      rw [pk_mul, nI_lt2 (by omega) (by omega)] at q
      omega
    refine s_L_widest hF hJ (fun hz => ?_) (fun w hw hmax => ?_)
    · refine s_L_rightShare hM hJ (fun _ => hfin _ _ ⟨fun q => absurd (by rw [hz]; rfl) q, fun _ => ⟨fun q => absurd rfl q, fun _ => ⟨fun q => absurd (by decide +kernel) q, fun _ => h⟩⟩⟩) (fun hp => by omega)
    · refine s_L_rightShare hM hJ (fun hz => by omega) (fun hp => hfin _ _ ⟨fun _ => ?_, fun q => ?_⟩)
      · refine s_L_gap hF hJ hw ⟨fun q => absurd ?_ q, fun _ => ?_⟩
        · rcases hm2 with ⟨hz, -⟩ | ⟨j, hj, hje⟩
          · omega
          · refine Int32.le_antisymm (hm1 w hw) ?_
            rw [hje]; exact hmax j hj
        · have := share_ok n (by omega) hp (tc σ n) (by omega)
          exact ⟨this.1, fun q => absurd this.2 q, fun _ => h⟩
      · have := (nI_eq2 (a := n) (b := 0) (by omega) (by decide)).mp q
        omega
  · have hlt : n < J := by
      apply Nat.lt_of_not_le
      exact fun z => q ((nI_le2 (by omega) (by omega)).mpr z)
    have hmu : (((J : Nat) : Int) - (nI n + 1).toInt).toNat < (((J : Nat) : Int) - (nI n).toInt).toNat := by
      rw [nI_1, nI_ti (by omega), nI_ti (by omega)]
      omega
    have hg := gapT_range hF hJ hlt
    refine s_L_misread hJ hlt (fun x hx0 hx => ?_)
    rintro _ rfl
    intro J22 hJ22
    refine ⟨fun q => absurd q (nI_nle hx0 (by omega)), fun _ => ⟨fun q => ?_, fun _ => ⟨fun q => absurd q (back_5 x hx hx0), fun _ => ?_⟩⟩⟩
    · have := (nI_le2 (a := 32) (b := x) (by decide) (by omega)).mp q
      omega
    · refine s_L_gap hF hJ hlt ⟨fun q => absurd q (Int32.not_lt.mpr hg.1), fun _ => s_L_gap hF hJ hlt ⟨fun q => absurd q (Int32.not_lt.mpr hg.2), fun _ => hJ22 1 ?_⟩⟩
      rintro _ rfl
      have hnext : ∀ r : Int32, r = nI (tc σ (n + 1)) → ∃ n_1 : Nat, n_1 ≤ J ∧ (1 : Int32) &&& 1 = 1 ∧ r = nI (tc σ n_1) ∧ nI n + 1 = nI n_1 ∧ 0 ≤ mmax most (gapT σ n) ∧ (∀ j, j < n_1 → gapT σ j ≤ mmax most (gapT σ n)) ∧ ((n_1 = 0 ∧ mmax most (gapT σ n) = 0) ∨ ∃ j, j < n_1 ∧ mmax most (gapT σ n) = gapT σ j) := by
        intro r hr
        refine ⟨n + 1, by omega, rfl, hr, nI_1 n, Int32.le_trans hm0 mmax_ge.1, fun j hj => ?_, Or.inr ?_⟩
        · by_cases e : j = n
          · rw [e]; exact mmax_ge.2
          · exact Int32.le_trans (hm1 j (by omega)) mmax_ge.1
        · unfold mmax
          split
          · exact ⟨n, by omega, rfl⟩
          · rename_i c
            rcases hm2 with ⟨hz, hz2⟩ | ⟨j, hj, hje⟩
            · subst hz
              refine ⟨0, by omega, ?_⟩
              rw [hz2] at c ⊢
              exact Int32.le_antisymm hg.1 (Int32.not_lt.mp c)
            · exact ⟨j, by omega, hje⟩
      refine s_L_isRight hM hJ hlt (fun t => ?_) (fun t => ?_)
      · rintro _ rfl
        refine s_L_gap hF hJ hlt ?_
        rintro _ rfl
        exact ⟨hnext _ (by rw [tc_y t]; exact nI_1 _), hmu⟩
      · rintro _ rfl
        refine s_L_gap hF hJ hlt ?_
        rintro _ rfl
        exact ⟨hnext _ (by rw [tc_n t]; exact nI_add _ 0), hmu⟩
