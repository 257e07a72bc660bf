/-! raising: what is gathered -/
section RS
variable {N M T J : Nat} {σ : Sg}
theorem s_onGround {m : Nat} {Q : Int32 → Prop} (hF : Fr N M T σ) (hm : m < M) (h : Q (if onG (fj σ) m = true then 1 else 0)) : w_X2_isOnGround (nI m) σ Q := by
  have hN5 : N ≤ 5 := hF.2.2.1
  have hM9 : M ≤ 9 := hF.2.2.2.1
  obtain ⟨a, b, e1, e2, ha, hb, -⟩ := hF.2.2.2.2.2.2.2.2.2.1 m hm
  unfold w_X2_isOnGround
  rw [ixn (a := m) (by omega)]
  have h9 : vp_in (nI m) 9 := in_nI (by omega) (by decide)
  have hia : vp_in (gA σ 4 m) 8 := by rw [e1]; exact in_nI (by omega) (by decide)
  have hib : vp_in (gA σ 5 m) 8 := by rw [e2]; exact in_nI (by omega) (by decide)
  have key : onG (fj σ) m = true ↔ (¬ gA σ 3 (ix (gA σ 4 m)) = 45 ∨ ¬ gA σ 3 (ix (gA σ 5 m)) = 45) := by
    show (decide (¬ gA σ 3 (ix (gA σ 4 m)) = 45) || decide (¬ gA σ 3 (ix (gA σ 5 m)) = 45)) = true ↔ _
    rw [Bool.or_eq_true, decide_eq_true_iff, decide_eq_true_iff]
  refine ⟨h9, hia, fun q => ?_, fun q => ⟨h9, hib, fun q2 => ?_, fun q2 => ?_⟩⟩
  · rwa [if_pos (key.mpr (Or.inl q))] at h
  · rwa [if_neg (fun z => by rcases key.mp z with z | z; exact z q; exact z q2)] at h
  · rwa [if_pos (key.mpr (Or.inr q2))] at h
theorem s_partner {j m : Nat} {Q : Int32 → Prop} (hj : j < 12) (h : Q (ptT (fj σ) j m)) : w_X3_partner (nI j) (nI m) σ Q := by
  unfold w_X3_partner
  rw [ixn (a := j) (by omega)]
  have h12 : vp_in (nI j) 12 := in_nI hj (by decide)
  have e : ptT (fj σ) j m = if gA σ 13 j = nI m then gA σ 14 j else if gA σ 14 j = nI m then gA σ 13 j else -1 := rfl
  rw [e] at h
  refine ⟨h12, fun q => ⟨h12, fun q2 => ?_, fun q2 => ⟨h12, ?_⟩⟩, fun q => ⟨h12, ?_⟩⟩
  · rwa [if_neg q, if_neg q2] at h
  · rwa [if_neg q, if_pos q2] at h
  · rwa [if_pos q] at h
theorem s_wayFor {j m : Nat} {Q : Int32 → Prop} (hj : j < 12) (h : Q (wfT (fj σ) j m)) : w_X3_wayFor (nI j) (nI m) σ Q := by
  unfold w_X3_wayFor
  rw [ixn (a := j) (by omega)]
  have h12 : vp_in (nI j) 12 := in_nI hj (by decide)
  have e : wfT (fj σ) j m = if gA σ 13 j = nI m then gA σ 15 j else if gA σ 15 j = 4 then gA σ 15 j else gA σ 15 j ^^^ 1 := rfl
  rw [e] at h
  refine ⟨h12, ?_⟩
  rintro _ rfl
  refine ⟨h12, fun q => ?_, fun q => ⟨fun q2 => ?_, fun q2 => ?_⟩⟩
  · rwa [if_pos q] at h
  · rwa [if_neg q, if_neg q2] at h
  · rwa [if_neg q, if_pos q2] at h
theorem wfT_nI {j m : Nat} (hJ : Jo M J σ) (hj : j < J) : ∃ w, w < 5 ∧ wfT (fj σ) j m = nI w := by
  obtain ⟨-, -, h⟩ := hJ
  obtain ⟨a, b, w, t, k, -, -, -, -, e, e5, -⟩ := h j hj
  have e1 : wfT (fj σ) j m = if gA σ 13 j = nI m then gA σ 15 j else if gA σ 15 j = 4 then gA σ 15 j else gA σ 15 j ^^^ 1 := rfl
  rw [e1, e]
  split
  · exact ⟨w, e5, rfl⟩
  · split
    · exact ⟨w, e5, rfl⟩
    · rename_i h4
      have hw : w < 4 := by
        apply Nat.lt_of_not_le
        intro z
        exact h4 (by rw [show w = 4 by omega]; rfl)
      refine ⟨w ^^^ 1, ?_, nI_xor w 1⟩
      have := Nat.xor_lt_two_pow (x := w) (y := 1) (n := 2) (by omega) (by decide)
      omega
def gmW (i3 : Int32) (σ6 : Sg) (K : Sg → Prop) : Prop :=
  vp_in i3 9 ∧ ∀ σ8 : Sg, σ8 = sA σ6 25 (ix i3) 0 → ∃ (I9 : Int32 → Sg → Prop) (μ9 : Int32 → Sg → Nat), I9 0 σ8 ∧ ∀ (i4_9 : Int32) (σ9 : Sg), I9 i4_9 σ9 → (5 ≤ i4_9 → ∃ (I11 : Int32 → Sg → Prop) (μ11 : Int32 → Sg → Nat), I11 0 σ9 ∧ ∀ (i4_11 : Int32) (σ11 : Sg), I11 i4_11 σ11 → ((gI σ11 4) ≤ i4_11 → K σ11) ∧ (¬ (gI σ11 4) ≤ i4_11 → w_X3_partner i4_11 i3 σ11 (fun r13 => (r13 < 0 → I11 (i4_11 + 1) σ11 ∧ μ11 (i4_11 + 1) σ11 < μ11 i4_11 σ11) ∧ (¬ r13 < 0 → vp_in i3 9 ∧ vp_in i3 9 ∧ ∀ σ17 : Sg, σ17 = sA σ11 25 (ix i3) ((gA σ11 25 (ix i3)) ||| (iShl 1 r13)) → w_X3_wayFor i4_11 i3 σ17 (fun r18 => vp_in ((i3 * 5) + r18) 45 ∧ vp_in ((i3 * 5) + r18) 45 ∧ ∀ σ21 : Sg, σ21 = sA σ17 24 (ix ((i3 * 5) + r18)) ((gA σ17 24 (ix ((i3 * 5) + r18))) ||| (iShl 1 r13)) → I11 (i4_11 + 1) σ21 ∧ μ11 (i4_11 + 1) σ21 < μ11 i4_11 σ11))))) ∧ (¬ 5 ≤ i4_9 → vp_in ((i3 * 5) + i4_9) 45 ∧ ∀ σ23 : Sg, σ23 = sA σ9 24 (ix ((i3 * 5) + i4_9)) 0 → I9 (i4_9 + 1) σ23 ∧ μ9 (i4_9 + 1) σ23 < μ9 i4_9 σ9)
theorem five_nI (m w : Nat) : (nI m * 5) + nI w = nI (m * 5 + w) := by
  show nI m * nI 5 + nI w = _
  rw [pk_mul, nI_add]
theorem fj_of {σ τ : Sg} (h3 : gA τ 3 = gA σ 3) (h4 : gA τ 4 = gA σ 4) (h5 : gA τ 5 = gA σ 5) (h13 : gA τ 13 = gA σ 13) (h14 : gA τ 14 = gA σ 14) (h15 : gA τ 15 = gA σ 15) (h9 : gI τ 9 = gI σ 9) : fj τ = fj σ := by
  unfold fj
  rw [h3, h4, h5, h13, h14, h15, h9]
theorem s_gm {m : Nat} {σ6 : Sg} {K : Sg → Prop} (hJ : Jo M J σ6) (hm : m < M) (hM9 : M ≤ 9)
    (h : ∀ τ, Kp [] [] [24, 25] [] σ6 τ → gA τ 25 m = jnT (fj σ6) m J → (∀ w, w < 5 → gA τ 24 (m * 5 + w) = akT (fj σ6) m w J) → (∀ q, q ≠ m → gA τ 25 q = gA σ6 25 q) → (∀ q, q < m * 5 → gA τ 24 q = gA σ6 24 q) → K τ) : gmW (nI m) σ6 K := by
  have hJ12 : J ≤ 12 := hJ.2.1
  have h9 : vp_in (nI m) 9 := in_nI (by omega) (by decide)
  unfold gmW
  rw [ixn (a := m) (by omega)]
  refine ⟨h9, ?_⟩
  rintro _ rfl
  refine ⟨fun i σ9 => ∃ w : Nat, w ≤ 5 ∧ i = nI w ∧ Kp [] [] [24, 25] [] σ6 σ9 ∧ gA σ9 25 m = 0 ∧ (∀ q, q ≠ m → gA σ9 25 q = gA σ6 25 q) ∧ (∀ q, q < m * 5 → gA σ9 24 q = gA σ6 24 q) ∧ ∀ u, u < w → gA σ9 24 (m * 5 + u) = 0, fun i _ => (((5 : Nat) : Int) - i.toInt).toNat, ⟨0, by decide, rfl, Kp.rf.sA rfl, ?_, fun q hq => ?_, fun q hq => ?_, fun u hu => absurd hu (Nat.not_lt_zero _)⟩, ?_⟩
  · rw [gA_sA, if_pos rfl, upd_ap, if_pos rfl]
  · rw [gA_sA, if_pos rfl, upd_ap, if_neg hq]
  · rw [gA_sA, if_neg (by decide)]
  rintro _ σ9 ⟨w, hw, rfl, hK9, z25, o25, o24, z24⟩
  refine ⟨fun q => ?_, fun q => ?_⟩
  · have := le_end (a := 5) q hw (by decide)
    subst this
    refine ⟨fun i σ11 => ∃ j : Nat, j ≤ J ∧ i = nI j ∧ Kp [] [] [24, 25] [] σ6 σ11 ∧ gA σ11 25 m = jnT (fj σ6) m j ∧ (∀ u, u < 5 → gA σ11 24 (m * 5 + u) = akT (fj σ6) m u j) ∧ (∀ q, q ≠ m → gA σ11 25 q = gA σ6 25 q) ∧ (∀ q, q < m * 5 → gA σ11 24 q = gA σ6 24 q), fun i _ => ((J : Int) - i.toInt).toNat, ⟨0, Nat.zero_le _, rfl, hK9, z25, z24, o25, o24⟩, ?_⟩
    rintro _ σ11 ⟨j, hj, rfl, hK, e25, e24, p25, p24⟩
    have hx : fj σ11 = fj σ6 := fj_of (hK.A 3 rfl) (hK.A 4 rfl) (hK.A 5 rfl) (hK.A 13 rfl) (hK.A 14 rfl) (hK.A 15 rfl) (hK.I 9 rfl)
    rw [hK.I 4 rfl, hJ.1]
    refine ⟨fun q2 => ?_, fun q2 => ?_⟩
    · have := le_end q2 hj (by omega)
      subst this
      exact h σ11 hK e25 e24 p25 p24
    · have hlt : j < J := lt_of_nle q2 (by omega) (by omega)
      have hmu := mu_n hlt (by omega)
      refine s_partner (by omega) ?_
      rw [hx]
      refine ⟨fun q3 => ⟨⟨j + 1, by omega, nI_1 j, hK, ?_, fun u hu => ?_, p25, p24⟩, hmu⟩, fun q3 => ⟨h9, h9, ?_⟩⟩
      · rw [e25]; exact (if_pos q3).symm
      · rw [e24 u hu]; exact (if_pos q3).symm
      · rintro _ rfl
        refine s_wayFor (by omega) ?_
        have hx17 : fj (sA σ11 25 m (gA σ11 25 m ||| iShl 1 (ptT (fj σ6) j m))) = fj σ6 := hx
        rw [hx17]
        obtain ⟨w', w5, ew⟩ := wfT_nI (m := m) hJ hlt
        rw [ew, five_nI, ixn (a := m * 5 + w') (by omega)]
        have h45 : vp_in (nI (m * 5 + w')) 45 := in_nI (by omega) (by decide)
        refine ⟨h45, h45, ?_⟩
        rintro _ rfl
        refine ⟨⟨j + 1, by omega, nI_1 j, (hK.sA rfl).sA rfl, ?_, fun u hu => ?_, fun q hq => ?_, fun q hq => ?_⟩, hmu⟩
        · rw [gA_sA, if_neg (by decide), gA_sA, if_pos rfl, upd_ap, if_pos rfl, e25]
          exact (if_neg q3).symm
        · rw [gA_sA, if_pos rfl, upd_ap]
          have ea : akT (fj σ6) m u (j + 1) = if ptT (fj σ6) j m < 0 then akT (fj σ6) m u j else if wfT (fj σ6) j m = nI u then akT (fj σ6) m u j ||| iShl 1 (ptT (fj σ6) j m) else akT (fj σ6) m u j := rfl
          rw [ea, if_neg q3, ew]
          by_cases e : u = w'
          · subst e
            rw [if_pos rfl, if_pos rfl, gA_sA, if_neg (by decide), e24 u hu]
          · rw [if_neg (by omega), if_neg (fun z => e ((nI_eq2 (by omega) (by omega)).mp z).symm), gA_sA, if_neg (by decide)]
            exact e24 u hu
        · rw [gA_sA, if_neg (by decide), gA_sA, if_pos rfl, upd_ap, if_neg hq]; exact p25 q hq
        · rw [gA_sA, if_pos rfl, upd_ap, if_neg (by omega), gA_sA, if_neg (by decide)]; exact p24 q hq
  · have hlt : w < 5 := lt_of_nle (a := 5) q (by decide) (by omega)
    rw [five_nI, ixn (a := m * 5 + w) (by omega)]
    refine ⟨in_nI (by omega) (by decide), ?_⟩
    rintro _ rfl
    refine ⟨⟨w + 1, by omega, nI_1 w, hK9.sA rfl, ?_, fun q hq => ?_, fun q hq => ?_, fun u hu => ?_⟩, mu_n hlt (by decide)⟩
    · rw [gA_sA, if_neg (by decide)]; exact z25
    · rw [gA_sA, if_neg (by decide)]; exact o25 q hq
    · rw [gA_sA, if_pos rfl, upd_ap, if_neg (by omega)]; exact o24 q hq
    · rw [gA_sA, if_pos rfl, upd_ap]
      by_cases e : u = w
      · rw [if_pos (by omega)]
      · rw [if_neg (by omega)]; exact z24 u (by omega)
theorem hN_lt (x : FJ) : ∀ m, hN x m < 2 ^ m := by
  intro m
  induction m with
  | zero => exact (show 0 < 1 by decide)
  | succ m ih =>
    have hpow : 2 ^ (m + 1) = 2 * 2 ^ m := by rw [Nat.pow_succ]; omega
    show (if onG x m = true then hN x m else hN x m ||| 2 ^ m) < _
    split
    · omega
    · exact Nat.or_lt_two_pow (by omega) (Nat.pow_lt_pow_right (by decide) (Nat.lt_succ_self m))
theorem s_gather {Q : Sg → Prop} (hF : Fr N M T σ) (hJ : Jo M J σ) (h11 : gI σ 11 = nI (2 ^ M - 1)) (h : ∀ τ, Kp [12] [] [24, 25] [] σ τ → RaG M J (fj σ) τ → Q τ) : w_X4_gather σ Q := by
  have hM9 : M ≤ 9 := hF.2.2.2.1
  unfold w_X4_gather
  rintro _ rfl
  refine ⟨fun i σ2 => ∃ m : Nat, m ≤ M ∧ i = nI m ∧ Kp [12] [] [24, 25] [] σ σ2 ∧ gI σ2 12 = nI (hN (fj σ) m) ∧ ∀ q, q < m → gA σ2 25 q = jnT (fj σ) q J ∧ ∀ w, w < 5 → gA σ2 24 (q * 5 + w) = akT (fj σ) q w J, fun i _ => ((M : Int) - i.toInt).toNat, ⟨0, Nat.zero_le _, rfl, Kp.rf.sI rfl, by rw [gI_sI, if_pos rfl]; rfl, fun q hq => absurd hq (Nat.not_lt_zero _)⟩, ?_⟩
  rintro _ σ2 ⟨m, hm, rfl, hK, e12, hq2⟩
  rw [hK.I 1 rfl, hF.2.1]
  refine ⟨fun q => ?_, fun q => ?_⟩
  · have := le_end q hm (by omega)
    subst this
    exact h σ2 hK ⟨(hK.I 11 rfl).trans h11, e12, fun q hq => (hq2 q hq).1, fun q hq => (hq2 q hq).2⟩
  · have hlt : m < M := lt_of_nle q (by omega) (by omega)
    have hmu := mu_n hlt (by omega)
    have hF2 : Fr N M T σ2 := hF.congr (hK.I 0 rfl) (hK.I 1 rfl) (fun k hk => hK.A k (by
      rcases (show k = 0 ∨ k = 1 ∨ k = 2 ∨ k = 3 ∨ k = 4 ∨ k = 5 ∨ k = 6 ∨ k = 7 ∨ k = 8 ∨ k = 9 by omega) with e | e | e | e | e | e | e | e | e | e <;> subst e <;> rfl))
    have hJ2 : Jo M J σ2 := hJ.congr (hK.I 4 rfl) (fun k h1 h2 => hK.A k (by
      rcases (show k = 13 ∨ k = 14 ∨ k = 15 ∨ k = 16 ∨ k = 17 by omega) with e | e | e | e | e <;> subst e <;> rfl))
    have hx2 : fj σ2 = fj σ := fj_of (hK.A 3 rfl) (hK.A 4 rfl) (hK.A 5 rfl) (hK.A 13 rfl) (hK.A 14 rfl) (hK.A 15 rfl) (hK.I 9 rfl)
    have body : ∀ v : Int32, v = nI (hN (fj σ) (m + 1)) → gmW (nI m) (sI σ2 12 v) (fun σ11 => (∃ m' : Nat, m' ≤ M ∧ nI m + 1 = nI m' ∧ Kp [12] [] [24, 25] [] σ σ11 ∧ gI σ11 12 = nI (hN (fj σ) m') ∧ ∀ q, q < m' → gA σ11 25 q = jnT (fj σ) q J ∧ ∀ w, w < 5 → gA σ11 24 (q * 5 + w) = akT (fj σ) q w J) ∧ ((M : Int) - (nI m + 1).toInt).toNat < ((M : Int) - (nI m).toInt).toNat) := by
      intro v hv
      have hK6 : Kp [12] [] [24, 25] [] σ (sI σ2 12 v) := hK.sI rfl
      have hJ6 : Jo M J (sI σ2 12 v) := hJ2.congr rfl (fun k h1 h2 => rfl)
      refine s_gm hJ6 hlt hM9 (fun τ hKt g25 g24 o25 o24 => ?_)
      have hx6 : fj (sI σ2 12 v) = fj σ := hx2
      rw [hx6] at g25 g24
      refine ⟨⟨m + 1, by omega, nI_1 m, hK6.tr (hKt.mo rfl rfl rfl rfl), by rw [hKt.I 12 rfl, gI_sI, if_pos rfl, hv], fun q hq => ?_⟩, hmu⟩
      by_cases e : q = m
      · subst e; exact ⟨g25, g24⟩
      · obtain ⟨f1, f2⟩ := hq2 q (by omega)
        exact ⟨(o25 q e).trans f1, fun w hw => (o24 _ (by omega)).trans (f2 w hw)⟩
    refine s_onGround hF2 hlt ?_
    rw [hx2, e12]
    have eh : hN (fj σ) (m + 1) = if onG (fj σ) m = true then hN (fj σ) m else hN (fj σ) m ||| 2 ^ m := rfl
    cases hg : onG (fj σ) m
    · rw [if_neg Bool.false_ne_true]
      refine ⟨fun _ => ?_, fun q2 => absurd rfl q2⟩
      rintro _ rfl
      exact body _ (by rw [eh, hg, if_neg Bool.false_ne_true, shl_1 (by omega), nI_or])
    · rw [if_pos rfl]
      refine ⟨fun q2 => absurd q2 (by decide), fun _ => ?_⟩
      rintro _ rfl
      exact body _ (by rw [eh, hg, if_pos rfl]; show nI (hN (fj σ) m) ||| nI 0 = _; rw [nI_or, Nat.or_zero])
theorem and_bit0 {z n : Nat} (h : z.testBit n = false) : z &&& 2 ^ n = 0 := by
  apply Nat.eq_of_testBit_eq
  intro i
  rw [Nat.testBit_and, Nat.testBit_two_pow, Nat.zero_testBit]
  by_cases e : n = i
  · subst e; rw [h]; rfl
  · rw [decide_eq_false e, Bool.and_false]
theorem s_propsFor {s : Nat} {x : FJ} {Q : Int32 → Prop} (hM9 : M ≤ 9) (hG : RaG M J x σ) (hs : s < 512) (h : Q (nI (prF J x M s))) : w_X4_propsFor (nI s) σ Q := by
  obtain ⟨-, g12, g25, -⟩ := hG
  unfold w_X4_propsFor
  rw [g12]
  refine ⟨fun r i => ∃ n : Nat, n ≤ 9 ∧ i = nI n ∧ r = nI (prK J x M s n), fun _ i => (((9 : Nat) : Int) - i.toInt).toNat, ⟨0, by decide, rfl, rfl⟩, ?_⟩
  rintro _ _ ⟨n, hn, rfl, rfl⟩
  refine ⟨fun q => ?_, fun q => ?_⟩
  · have := le_end (a := 9) q hn (by decide)
    subst this
    exact h
  · have hlt : n < 9 := lt_of_nle (a := 9) q (by decide) (by omega)
    have hmu := mu_n hlt (by decide)
    have ek : prK J x M s (n + 1) = prK J x M s n + (if (nI s &&& nI (hN x M)) &&& (iShl 1 (nI n)) = 0 then 0 else if 2 ≤ bcT (jnT x n J &&& nI s) then 0 else 1) := rfl
    refine ⟨fun q2 => ⟨⟨n + 1, by omega, nI_1 n, by rw [ek, if_pos q2]; rfl⟩, hmu⟩, fun q2 => ?_⟩
    have hnM : n < M := by
      apply Nat.lt_of_not_le
      intro z
      apply q2
      rw [nI_and, shl_1 (by omega), nI_and, and_bit0]
      · rfl
      · rw [Nat.testBit_and, tb_hi (hN_lt x M) z, Bool.and_false]
    refine ⟨in_nI hlt (by decide), ?_⟩
    rw [ixn (a := n) (by omega), g25 n hnM]
    refine s_bitCount ⟨fun q3 => ⟨⟨n + 1, by omega, nI_1 n, by rw [ek, if_neg q2, if_pos q3]; rfl⟩, hmu⟩, fun q3 => ⟨⟨n + 1, by omega, nI_1 n, by rw [ek, if_neg q2, if_neg q3, nI_1]⟩, hmu⟩⟩
theorem s_move {m s : Nat} {x : FJ} {Q : Int32 → Prop} (hM9 : M ≤ 9) (hG : RaG M J x σ) (hm : m < M) (h1 : mvF J x m s = true → Q 1) (h0 : mvF J x m s = false → Q 0) : w_X4_canMoveIn (nI m) (nI s) σ Q := by
  obtain ⟨-, -, -, g24⟩ := hG
  unfold w_X4_canMoveIn
  have mk : ∀ n, mvK J x m s n ≤ n := fun n => by
    induction n with
    | zero => exact Nat.le_refl _
    | succ n ih =>
      show mvK J x m s n + (if akT x m n J &&& nI s = 0 then 0 else 1) ≤ n + 1
      split <;> omega
  refine ⟨fun r i => ∃ n : Nat, n ≤ 5 ∧ i = nI n ∧ r = nI (mvK J x m s n), fun _ i => (((5 : Nat) : Int) - i.toInt).toNat, ⟨0, by decide, rfl, rfl⟩, ?_⟩
  rintro _ _ ⟨n, hn, rfl, rfl⟩
  refine ⟨fun q => ?_, fun q => ?_⟩
  · have := le_end (a := 5) q hn (by decide)
    subst this
    have hk := mk 5
    refine ⟨fun q2 => h0 ?_, fun q2 => h1 ?_⟩
    · have := (nI_lt2 (a := 1) (by decide) (by omega)).mp q2
      exact decide_eq_false (by omega)
    · have : ¬ 1 < mvK J x m s 5 := fun z => q2 ((nI_lt2 (a := 1) (by decide) (by omega)).mpr z)
      exact decide_eq_true (by omega)
  · have hlt : n < 5 := lt_of_nle (a := 5) q (by decide) (by omega)
    have hmu := mu_n hlt (by decide)
    have ek : mvK J x m s (n + 1) = mvK J x m s n + (if akT x m n J &&& nI s = 0 then 0 else 1) := rfl
    rw [five_nI, ixn (a := m * 5 + n) (by omega), g24 m hm n hlt]
    refine ⟨in_nI (by omega) (by decide), fun q2 => ?_, fun q2 => ?_⟩
    · rintro _ rfl
      exact ⟨⟨n + 1, by omega, nI_1 n, by rw [ek, if_pos q2]; exact nI_add _ 0⟩, hmu⟩
    · rintro _ rfl
      exact ⟨⟨n + 1, by omega, nI_1 n, by rw [ek, if_neg q2]; exact nI_add _ 1⟩, hmu⟩
/-! ways from set to set -/
theorem Pth_snoc {E : Nat → Nat → Prop} {t m : Nat} (hE : E t m) : ∀ n s, Pth E n s t → Pth E (n + 1) s (t + 2 ^ m) := by
  intro n
  induction n with
  | zero =>
    intro s h
    have h : s = t := h
    subst h
    exact ⟨m, hE, rfl⟩
  | succ n ih =>
    rintro s ⟨k, h1, h2⟩
    exact ⟨k, h1, ih _ h2⟩
theorem Pth_last {E : Nat → Nat → Prop} {t : Nat} : ∀ n s, Pth E (n + 1) s t → ∃ u m, Pth E n s u ∧ E u m ∧ t = u + 2 ^ m := by
  intro n
  induction n with
  | zero =>
    rintro s ⟨m, h1, h2⟩
    have h2 : s + 2 ^ m = t := h2
    exact ⟨s, m, rfl, h1, h2.symm⟩
  | succ n ih =>
    rintro s ⟨k, h1, h2⟩
    obtain ⟨u, m, g1, g2, g3⟩ := ih _ h2
    exact ⟨u, m, ⟨k, h1, g1⟩, g2, g3⟩
def clN2 (s m : Nat) : Nat := if s.testBit m = true then s - 2 ^ m else s
theorem cl_nI : ∀ s, s < 512 → ∀ m, m < 9 → (nI s &&& ((iShl 1 (nI m)) ^^^ (-1))) = nI (clN2 s m) := by decide +kernel
theorem cl_pc : ∀ s, s < 512 → ∀ m, m < 9 → s.testBit m = true → pc (s - 2 ^ m) + 1 = pc s ∧ 2 ^ m ≤ s ∧ (s - 2 ^ m).testBit m = false := by decide +kernel
theorem or_add : ∀ s, s < 512 → ∀ m, m < 9 → s.testBit m = false → s ||| 2 ^ m = s + 2 ^ m ∧ pc (s + 2 ^ m) = pc s + 1 ∧ (s + 2 ^ m).testBit m = true := by decide +kernel
theorem or_same : ∀ s, s < 512 → ∀ m, m < 9 → s.testBit m = true → s ||| 2 ^ m = s := by decide +kernel
theorem bit_sub {s m M : Nat} (hM : M ≤ 9) (hs : s < 2 ^ M) (h : s.testBit m = true) : m < M ∧ m < 9 ∧ 2 ^ m ≤ s ∧ s - 2 ^ m < s ∧ (s - 2 ^ m).testBit m = false ∧ s - 2 ^ m + 2 ^ m = s ∧ pc (s - 2 ^ m) + 1 = pc s := by
  have h512 := p512 hM
  have hm : m < M := by
    apply Nat.lt_of_not_le
    intro z
    rw [tb_hi hs z] at h
    exact Bool.noConfusion h
  obtain ⟨k1, k2, k3⟩ := cl_pc s (by omega) m (by omega) h
  have := Nat.two_pow_pos m
  exact ⟨hm, by omega, k2, by omega, k3, by omega, k1⟩
/-- a last step into a set -/
theorem path_in {x : FJ} {P : Nat} (hM : M ≤ 9) (hP : 0 < P) : (∃ n, Pth (Ed J x M) n 0 P) ↔ ∃ m, P.testBit m = true ∧ Ed J x M (P - 2 ^ m) m ∧ ∃ n, Pth (Ed J x M) n 0 (P - 2 ^ m) := by
  constructor
  · rintro ⟨n, h⟩
    cases n with
    | zero =>
      have h : 0 = P := h
      omega
    | succ n =>
      obtain ⟨u, m, g1, g2, g3⟩ := Pth_last n 0 h
      have h512 := p512 hM
      obtain ⟨e1, e2, e3, -⟩ := id g2
      have ho := or_add u (by omega) m (by omega) e3
      subst g3
      have e : u + 2 ^ m - 2 ^ m = u := by omega
      exact ⟨m, ho.2.2, by rw [e]; exact g2, n, by rw [e]; exact g1⟩
  · rintro ⟨m, h1, h2, n, h3⟩
    have h512 := p512 hM
    have := Pth_snoc h2 n 0 h3
    have hle : 2 ^ m ≤ P := by
      apply Nat.le_of_not_lt
      intro z
      rw [Nat.testBit_lt_two_pow z] at h1
      exact Bool.noConfusion h1
    rw [show P - 2 ^ m + 2 ^ m = P by omega] at this
    exact ⟨n + 1, this⟩
theorem s_forward {x : FJ} {Q : Sg → Prop} (hM9 : M ≤ 9) (hG : RaG M J x σ) (h9 : gI σ 9 = x.2.2.2.2.2.2)
    (h : ∀ τ, Kp [] [] [26] [] σ τ → (∀ t, t < 2 ^ M → ∃ c : Nat, c ≤ 9 ^ pc t ∧ gA τ 26 t = nI c ∧ (0 < c ↔ ∃ n, Pth (Ed J x M) n 0 t)) → Q τ) : w_X4_goForward (nI M) σ Q := by
  have h512 := p512 hM9
  have hpos := Nat.two_pow_pos M
  have g11 := hG.1
  unfold w_X4_goForward
  rintro _ rfl
  refine ⟨fun i σ2 => ∃ P : Nat, 1 ≤ P ∧ P ≤ 2 ^ M ∧ i = nI P ∧ Kp [] [] [26] [] σ σ2 ∧ ∀ t, t < P → ∃ c : Nat, c ≤ 9 ^ pc t ∧ gA σ2 26 t = nI c ∧ (0 < c ↔ ∃ n, Pth (Ed J x M) n 0 t), fun i _ => (((2 ^ M : Nat) : Int) - i.toInt).toNat, ⟨1, Nat.le_refl _, by omega, rfl, Kp.rf.sA rfl, fun t ht => ⟨1, ?_, ?_, ?_⟩⟩, ?_⟩
  · exact Nat.one_le_pow _ _ (by decide)
  · have e : t = 0 := by omega
    subst e
    rw [gA_sA, if_pos rfl, upd_ap, if_pos (show (0 : Nat) = ix 0 from rfl)]
    rfl
  · have e : t = 0 := by omega
    subst e
    exact ⟨fun _ => ⟨0, rfl⟩, fun _ => by decide⟩
  rintro _ σ2 ⟨P, hP1, hP, rfl, hK, hT⟩
  rw [hK.I 11 rfl, g11]
  refine ⟨fun q => ?_, fun q => ?_⟩
  · have : 2 ^ M - 1 < P := (nI_lt2 (by omega) (by omega)).mp q
    have e : P = 2 ^ M := by omega
    subst e
    exact h σ2 hK hT
  · have hlt : P < 2 ^ M := by
      apply Nat.lt_of_not_le
      intro z
      exact q (nI_lt (by omega) (by omega))
    have hmu := mu_n hlt (by omega)
    have hinP : vp_in (nI P) 512 := in_nI (by omega) (by decide)
    rw [ixn (a := P) (by omega)]
    refine ⟨hinP, ?_⟩
    rintro _ rfl
    have hK5 : Kp [] [] [26] [] σ (sA σ2 26 P 0) := hK.sA rfl
    have ragk : ∀ τ, Kp [] [] [26] [] σ τ → RaG M J x τ := fun τ hKt => by
      obtain ⟨k1, k2, k3, k4⟩ := hG
      exact ⟨(hKt.I 11 rfl).trans k1, (hKt.I 12 rfl).trans k2, fun m hm => by rw [hKt.A 25 rfl]; exact k3 m hm, fun m hm w hw => by rw [hKt.A 24 rfl]; exact k4 m hm w hw⟩
    refine s_propsFor hM9 (ragk _ hK5) (by omega) ?_
    rw [hK5.I 9 rfl, h9]
    -- the count of the set, put behind what stands
    have done : ∀ σ8 (c : Nat), Kp [] [] [26] [] σ σ8 → (∀ t, t ≠ P → gA σ8 26 t = gA σ2 26 t) → gA σ8 26 P = nI c → c ≤ 9 ^ pc P → (0 < c ↔ ∃ n, Pth (Ed J x M) n 0 P) →
        (∃ P' : Nat, 1 ≤ P' ∧ P' ≤ 2 ^ M ∧ nI P + 1 = nI P' ∧ Kp [] [] [26] [] σ σ8 ∧ ∀ t, t < P' → ∃ c : Nat, c ≤ 9 ^ pc t ∧ gA σ8 26 t = nI c ∧ (0 < c ↔ ∃ n, Pth (Ed J x M) n 0 t)) ∧ (((2 ^ M : Nat) : Int) - (nI P + 1).toInt).toNat < (((2 ^ M : Nat) : Int) - (nI P).toInt).toNat := fun σ8 c hK8 ho hc hle hiff => by
      refine ⟨⟨P + 1, by omega, by omega, nI_1 P, hK8, fun t ht => ?_⟩, hmu⟩
      by_cases e : t = P
      · subst e; exact ⟨c, hle, hc, hiff⟩
      · rw [ho t e]; exact hT t (by omega)
    have z26 : gA (sA σ2 26 P 0) 26 P = 0 := by rw [gA_sA, if_pos rfl, upd_ap, if_pos rfl]
    have o26 : ∀ t, t ≠ P → gA (sA σ2 26 P 0) 26 t = gA σ2 26 t := fun t ht => by rw [gA_sA, if_pos rfl, upd_ap, if_neg ht]
    refine ⟨fun q2 => ?_, fun q2 => ?_⟩
    · refine ⟨fun i s => s = sA σ2 26 P 0, fun _ _ => 0, rfl, ?_⟩
      rintro i _ rfl
      have no : (0 < 0 ↔ ∃ n, Pth (Ed J x M) n 0 P) := by
        constructor
        · intro z; exact absurd z (Nat.lt_irrefl 0)
        · intro z
          obtain ⟨m, m1, m2, -⟩ := (path_in hM9 (by omega)).mp z
          have := bit_sub hM9 hlt m1
          have e2 := m2.2.2.2.1
          rw [this.2.2.2.2.2.1] at e2
          exact absurd q2 (Int32.not_lt.mpr e2)
      exact ⟨fun _ => done _ 0 hK5 o26 z26 (Nat.zero_le _) no, fun _ => done _ 0 hK5 o26 z26 (Nat.zero_le _) no⟩
    · have hlim : nI (prF J x M P) ≤ x.2.2.2.2.2.2 := Int32.not_lt.mp q2
      have pc9 : ∀ m, P.testBit m = true → pc (P - 2 ^ m) = pc P - 1 ∧ 1 ≤ pc P := fun m hm => by
        have := (bit_sub hM9 hlt hm).2.2.2.2.2.2
        omega
      obtain ⟨W, hW⟩ : ∃ W, W = 9 ^ (pc P - 1) := ⟨_, rfl⟩
      have p8 : pc P - 1 ≤ 8 := by
        have : pc P ≤ 9 := pcn_le P 9
        omega
      have W8 : W ≤ 43046721 := by
        rw [hW]
        exact Nat.pow_le_pow_right (n := 9) (by decide) p8
      have W9 : 1 ≤ pc P → 9 ^ pc P = 9 * W := fun z => by
        obtain ⟨k, hk⟩ : ∃ k, pc P = k + 1 := ⟨pc P - 1, by omega⟩
        rw [hW, hk, Nat.pow_succ, Nat.mul_comm]
        rfl
      refine ⟨fun i σ10 => ∃ m c : Nat, m ≤ M ∧ i = nI m ∧ Kp [] [] [26] [] σ σ10 ∧ (∀ t, t ≠ P → gA σ10 26 t = gA σ2 26 t) ∧ gA σ10 26 P = nI c ∧ c ≤ m * W ∧ (0 < c ↔ ∃ l, l < m ∧ P.testBit l = true ∧ Ed J x M (P - 2 ^ l) l ∧ ∃ n, Pth (Ed J x M) n 0 (P - 2 ^ l)), fun i _ => ((M : Int) - i.toInt).toNat, ⟨0, 0, Nat.zero_le _, rfl, hK5, o26, z26, Nat.zero_le _, ⟨fun z => absurd z (Nat.lt_irrefl 0), fun ⟨l, hl, _⟩ => absurd hl (Nat.not_lt_zero _)⟩⟩, ?_⟩
      rintro _ σ10 ⟨m, c, hm, rfl, hK10, ho, hcP, hcle, hciff⟩
      refine ⟨fun q3 => ?_, fun q3 => ?_⟩
      · have := le_end q3 hm (by omega)
        subst this
        have hfin : (0 < c ↔ ∃ n, Pth (Ed J x m) n 0 P) := by
          rw [hciff, path_in hM9 (by omega)]
          constructor
          · rintro ⟨l, -, r⟩; exact ⟨l, r⟩
          · rintro ⟨l, r1, r2⟩; exact ⟨l, (bit_sub hM9 hlt r1).1, r1, r2⟩
        refine done σ10 c hK10 ho hcP ?_ hfin
        by_cases hpc : 1 ≤ pc P
        · rw [W9 hpc]
          exact Nat.le_trans hcle (Nat.mul_le_mul_right W hM9)
        · have hc0 : c = 0 := by
            apply Nat.eq_zero_of_not_pos
            intro z
            obtain ⟨l, -, r1, -⟩ := hciff.mp z
            exact hpc (pc9 l r1).2
          rw [hc0]
          exact Nat.zero_le _
      · have hmlt : m < M := lt_of_nle q3 (by omega) (by omega)
        have hmu2 := mu_n hmlt (by omega)
        have m9 : m * W + W = (m + 1) * W := by rw [Nat.add_mul, Nat.one_mul]
        have m8 : m * W ≤ 8 * 43046721 := Nat.mul_le_mul (by omega) W8
        have skip : ¬ (P.testBit m = true ∧ Ed J x M (P - 2 ^ m) m ∧ ∃ n, Pth (Ed J x M) n 0 (P - 2 ^ m)) →
            (∃ m' c' : Nat, m' ≤ M ∧ nI m + 1 = nI m' ∧ Kp [] [] [26] [] σ σ10 ∧ (∀ t, t ≠ P → gA σ10 26 t = gA σ2 26 t) ∧ gA σ10 26 P = nI c' ∧ c' ≤ m' * W ∧ (0 < c' ↔ ∃ l, l < m' ∧ P.testBit l = true ∧ Ed J x M (P - 2 ^ l) l ∧ ∃ n, Pth (Ed J x M) n 0 (P - 2 ^ l))) ∧ ((M : Int) - (nI m + 1).toInt).toNat < ((M : Int) - (nI m).toInt).toNat := fun hn => by
          refine ⟨⟨m + 1, c, by omega, nI_1 m, hK10, ho, hcP, by omega, ?_⟩, hmu2⟩
          rw [hciff]
          constructor
          · rintro ⟨l, l1, l2⟩; exact ⟨l, by omega, l2⟩
          · rintro ⟨l, l1, l2⟩
            by_cases e : l = m
            · subst e; exact absurd l2 hn
            · exact ⟨l, by omega, l2⟩
        rintro _ rfl
        rw [cl_nI P (by omega) m (by omega)]
        cases hb : P.testBit m
        · have ec : clN2 P m = P := by unfold clN2; rw [hb]; rfl
          rw [ec]
          exact ⟨fun _ => skip (fun z => by rw [hb] at z; exact Bool.noConfusion z.1), fun q4 => absurd rfl q4⟩
        · have ec : clN2 P m = P - 2 ^ m := by unfold clN2; rw [hb]; rfl
          obtain ⟨b1, b2, b3, b4, b5, b6, b7⟩ := bit_sub hM9 hlt hb
          rw [ec, ixn (a := P - 2 ^ m) (by omega)]
          have hinb : vp_in (nI (P - 2 ^ m)) 512 := in_nI (by omega) (by decide)
          obtain ⟨cb, cb1, cb2, cb3⟩ := hT (P - 2 ^ m) (by omega)
          rw [(pc9 m hb).1, ← hW] at cb1
          have ecb : gA σ10 26 (P - 2 ^ m) = nI cb := (ho _ (by omega)).trans cb2
          rw [ecb]
          refine ⟨fun q4 => absurd ((nI_eq2 (by omega) (by omega)).mp q4) (by omega), fun _ => ⟨hinb, fun q4 => ?_, fun q4 => ?_⟩⟩
          · have hc0 : cb = 0 := by
              have := (nI_le2 (b := 0) (by omega) (by decide)).mp q4
              omega
            exact skip (fun z => by
              have := cb3.mpr z.2.2
              omega)
          · have hc1 : 0 < cb := by
              apply Nat.pos_of_ne_zero
              rintro rfl
              exact q4 (Int32.le_refl _)
            refine s_move hM9 (ragk _ hK10) hmlt (fun hmv => ⟨fun q5 => absurd q5 (by decide), fun _ => ?_⟩) (fun hmv => ⟨fun _ => skip (fun z => ?_), fun q5 => absurd rfl q5⟩)
            · refine ⟨hinP, hinb, hinP, ?_⟩
              rintro _ rfl
              refine ⟨⟨m + 1, c + cb, by omega, nI_1 m, hK10.sA rfl, fun t ht => ?_, ?_, by omega, ?_⟩, hmu2⟩
              · rw [gA_sA, if_pos rfl, upd_ap, if_neg ht]; exact ho t ht
              · rw [gA_sA, if_pos rfl, upd_ap, if_pos rfl, hcP, nI_add]
              · constructor
                · intro _
                  exact ⟨m, by omega, hb, ⟨hmlt, by omega, b5, by rw [b6]; exact hlim, hmv⟩, cb3.mp hc1⟩
                · intro _; omega
            · have := z.2.1.2.2.2.2
              rw [hmv] at this
              exact Bool.noConfusion this
end RS
