/-! the law's calls, and what they keep -/
section MV
variable {N M J S T : Nat} {σ : Sg}
theorem k10 {P : Nat → Prop} (h0 : P 0) (h1 : P 1) (h2 : P 2) (h3 : P 3) (h4 : P 4) (h5 : P 5) (h6 : P 6) (h7 : P 7) (h8 : P 8) (h9 : P 9) : ∀ k, k < 10 → P k := by
  intro k hk
  rcases (show k = 0 ∨ k = 1 ∨ k = 2 ∨ k = 3 ∨ k = 4 ∨ k = 5 ∨ k = 6 ∨ k = 7 ∨ k = 8 ∨ k = 9 by omega) with e | e | e | e | e | e | e | e | e | e <;> subst e <;> assumption
theorem k13 {P : Nat → Prop} (h3 : P 13) (h4 : P 14) (h5 : P 15) (h6 : P 16) (h7 : P 17) : ∀ k, 13 ≤ k → k < 18 → P k := by
  intro k hk hk2
  rcases (show k = 13 ∨ k = 14 ∨ k = 15 ∨ k = 16 ∨ k = 17 by omega) with e | e | e | e | e <;> subst e <;> assumption
theorem Inv.frame {τ : Sg} (h : Inv N M J S T σ) (hK : Kp [2, 3] [0] [10, 11, 12] [0, 1, 2, 3, 4, 5, 6, 7, 8, 9, 10] σ τ) (hO : FoOK N M τ) : Inv N M J S T τ := by
  obtain ⟨h1, h2, h3, h4, h5, h6, h7⟩ := h
  refine ⟨h1.congr (hK.I 0 rfl) (hK.I 1 rfl) (k10 (hK.A 0 rfl) (hK.A 1 rfl) (hK.A 2 rfl) (hK.A 3 rfl) (hK.A 4 rfl) (hK.A 5 rfl) (hK.A 6 rfl) (hK.A 7 rfl) (hK.A 8 rfl) (hK.A 9 rfl)), h2.congr (hK.I 4 rfl) (k13 (hK.A 13 rfl) (hK.A 14 rfl) (hK.A 15 rfl) (hK.A 16 rfl) (hK.A 17 rfl)), h3.congr (hK.I 5 rfl) (hK.A 19 rfl) (congrFun (hK.A 22 rfl) 0) (congrFun (hK.A 23 rfl) 0), by rw [hK.I 9 rfl]; exact h4, fun _ => hO, fun q => ?_, fun q => ?_⟩
  · rw [hK.I 6 rfl] at q
    exact (h6 q).congr (hK.A 0 rfl) (hK.A 4 rfl) (hK.A 5 rfl) (hK.A 13 rfl) (hK.A 22 rfl) (hK.I 7 rfl) (hK.I 8 rfl) (hK.A 18 rfl) (hK.A 19 rfl)
  · rw [hK.I 10 rfl] at q
    exact (h7 q).congr (fj_of (hK.A 3 rfl) (hK.A 4 rfl) (hK.A 5 rfl) (hK.A 13 rfl) (hK.A 14 rfl) (hK.A 15 rfl) (hK.I 9 rfl)) (hK.I 11 rfl) (hK.I 12 rfl) (hK.A 24 rfl) (hK.A 25 rfl) (hK.A 26 rfl) (hK.A 27 rfl) (hK.A 28 rfl)
theorem Inv.yard {τ : Sg} (h : Inv N M J S T σ) (hK : Kp [6, 7, 8] [] [18, 22, 23] [11] σ τ) (hO : CuOK M J S τ) (hC : Cu S τ) : Inv N M J S T τ := by
  obtain ⟨h1, h2, h3, h4, h5, h6, h7⟩ := h
  refine ⟨h1.congr (hK.I 0 rfl) (hK.I 1 rfl) (k10 (hK.A 0 rfl) (hK.A 1 rfl) (hK.A 2 rfl) (hK.A 3 rfl) (hK.A 4 rfl) (hK.A 5 rfl) (hK.A 6 rfl) (hK.A 7 rfl) (hK.A 8 rfl) (hK.A 9 rfl)), h2.congr (hK.I 4 rfl) (k13 (hK.A 13 rfl) (hK.A 14 rfl) (hK.A 15 rfl) (hK.A 16 rfl) (hK.A 17 rfl)), hC, by rw [hK.I 9 rfl]; exact h4, fun q => ?_, fun _ => hO, fun q => ?_⟩
  · rw [hK.I 2 rfl] at q
    exact (h5 q).congr (hK.I 3 rfl) (hK.L 0 rfl) (hK.A 0 rfl) (hK.A 1 rfl) (hK.A 4 rfl) (hK.A 5 rfl) (hK.B 0 rfl) (hK.B 1 rfl) (hK.B 2 rfl)
  · rw [hK.I 10 rfl] at q
    exact (h7 q).congr (fj_of (hK.A 3 rfl) (hK.A 4 rfl) (hK.A 5 rfl) (hK.A 13 rfl) (hK.A 14 rfl) (hK.A 15 rfl) (hK.I 9 rfl)) (hK.I 11 rfl) (hK.I 12 rfl) (hK.A 24 rfl) (hK.A 25 rfl) (hK.A 26 rfl) (hK.A 27 rfl) (hK.A 28 rfl)
theorem Inv.raise {τ : Sg} (h : Inv N M J S T σ) (hK : Kp [10, 11, 12] [] [24, 25, 26, 27, 28] [] σ τ) (hO : RaOK M J τ) : Inv N M J S T τ := by
  obtain ⟨h1, h2, h3, h4, h5, h6, h7⟩ := h
  refine ⟨h1.congr (hK.I 0 rfl) (hK.I 1 rfl) (k10 (hK.A 0 rfl) (hK.A 1 rfl) (hK.A 2 rfl) (hK.A 3 rfl) (hK.A 4 rfl) (hK.A 5 rfl) (hK.A 6 rfl) (hK.A 7 rfl) (hK.A 8 rfl) (hK.A 9 rfl)), h2.congr (hK.I 4 rfl) (k13 (hK.A 13 rfl) (hK.A 14 rfl) (hK.A 15 rfl) (hK.A 16 rfl) (hK.A 17 rfl)), h3.congr (hK.I 5 rfl) (hK.A 19 rfl) (congrFun (hK.A 22 rfl) 0) (congrFun (hK.A 23 rfl) 0), by rw [hK.I 9 rfl]; exact h4, fun q => ?_, fun q => ?_, fun _ => hO⟩
  · rw [hK.I 2 rfl] at q
    exact (h5 q).congr (hK.I 3 rfl) (hK.L 0 rfl) (hK.A 0 rfl) (hK.A 1 rfl) (hK.A 4 rfl) (hK.A 5 rfl) (hK.B 0 rfl) (hK.B 1 rfl) (hK.B 2 rfl)
  · rw [hK.I 6 rfl] at q
    exact (h6 q).congr (hK.A 0 rfl) (hK.A 4 rfl) (hK.A 5 rfl) (hK.A 13 rfl) (hK.A 22 rfl) (hK.I 7 rfl) (hK.I 8 rfl) (hK.A 18 rfl) (hK.A 19 rfl)
theorem Inv.later (h : Inv N M J S T σ) (hT : T + 1 ≤ 34) : Inv N M J S (T + 1) σ := by
  obtain ⟨h1, h2⟩ := h
  exact ⟨h1.later hT, h2⟩
/-- the class's own check -/
theorem s_isSound {Q : Int32 → Sg → Prop} (hN : 2 ≤ N) (hI : Inv N M J S T σ) (h : ∀ τ, Inv N M J S T τ → Q 1 τ) : w_X6_isSound σ Q := by
  unfold w_X6_isSound
  refine s_find hI.1 hN hI.2.2.2.2.1 (fun τ hK hf hO _ => ?_)
  have hI1 := hI.frame hK hO
  have tail : w_X6_canRaise τ (fun r4 σ5 => w_X6_canTakeAway σ5 (fun r6 σ7 => (¬ r4 = r6 → Q 0 σ7) ∧ (r4 = r6 → Q 1 σ7))) := by
    refine s_canRaise hI1.1 hI1.2.1 hI1.2.2.2.2.2.2 (fun τ1 hR1 hc => ?_) (fun τ1 hR1 hc => ?_)
    · have hI2 := hI1.raise hR1.1 hR1.2.2.1
      refine s_canTake hI2.1 hI2.2.1 hI2.2.2.2.2.2.2 (fun τ2 hR2 _ => ⟨fun z => absurd rfl z, fun _ => h τ2 (hI2.raise hR2.1 hR2.2.2.1)⟩) (fun τ2 _ z => absurd (by rw [hR1.fj]; exact hc) z)
    · have hI2 := hI1.raise hR1.1 hR1.2.2.1
      refine s_canTake hI2.1 hI2.2.1 hI2.2.2.2.2.2.2 (fun τ2 _ z => absurd z (by rw [hR1.fj]; exact hc)) (fun τ2 hR2 _ => ⟨fun z => absurd rfl z, fun _ => h τ2 (hI2.raise hR2.1 hR2.2.2.1)⟩)
  refine ⟨fun _ => tail, fun h46 => ?_⟩
  refine ⟨fun i => ∃ k : Nat, k ≤ 31 ∧ i = nI k, fun i => (((31 : Nat) : Int) - i.toInt).toNat, ⟨0, by decide, rfl⟩, ?_⟩
  rintro _ ⟨k, hk, rfl⟩
  refine ⟨fun _ => tail, fun q => ?_⟩
  have hk30 : k < 31 := by
    apply Nat.lt_of_not_le
    intro z
    exact q (nI_lt (a := 30) (by omega) (by omega))
  exact s_holdsAt hI1.1 (hO.2 h46) ⟨fun _ => ⟨⟨k + 1, by omega, nI_1 k⟩, mu_n hk30 (by decide)⟩, fun z => absurd z (by decide)⟩
/-- a new member -/
theorem c_member {a b br gr : Nat} {Q : Int32 → Sg → Prop} (hI : Inv N M J S T σ) (ha : a < N) (hb : b < N) (hbr : 6 ≤ br ∧ br ≤ 40) (hgr : gr ≤ 3)
    (h1 : a = b → Q (-78) σ) (h2 : a ≠ b → M = 9 → Q (-79) σ) (h3 : a ≠ b → M < 9 → ∀ τ, Inv N (M + 1) J S T τ → Q (nI M) τ) : w_L_member (nI a) (nI b) (nI br) (nI gr) σ Q := by
  obtain ⟨hF, hJ, hC, hL, -, -, -⟩ := hI
  have hN5 : N ≤ 5 := hF.2.2.1
  have hM9 : M ≤ 9 := hF.2.2.2.1
  unfold w_L_member w_X6_member
  refine s_cN hF.1 (by omega) ha (s_cN hF.1 (by omega) hb (s_onePlace hF ha hb (fun e => ⟨fun _ => Or.inr (Or.inl ⟨rfl, h1 e⟩), fun z => absurd z (by decide)⟩) (fun e => ⟨fun z => absurd rfl z, fun _ => s_sectionY hbr hgr ⟨fun _ => ⟨fun q => ?_, fun q => ?_⟩, fun z => absurd z (by decide)⟩⟩)))
  · have hlt : M < 9 := by
      rw [hF.2.1] at q
      exact (nI_lt2 (b := 9) (by omega) (by decide)).mp q
    rintro _ rfl
    rintro _ rfl
    rintro _ rfl
    unfold w_X2_addMember
    rintro _ rfl
    have e1 : gI (sI (sI (sI σ 2 0) 6 0) 10 0) 1 = nI M := hF.2.1
    have h9 : vp_in (nI M) 9 := in_nI hlt (by decide)
    rw [e1, ixn (a := M) (by omega), nI_1]
    refine ⟨h9, ?_⟩
    rintro _ rfl
    refine ⟨h9, ?_⟩
    rintro _ rfl
    refine ⟨h9, ?_⟩
    rintro _ rfl
    refine ⟨h9, ?_⟩
    rintro _ rfl
    refine ⟨h9, ?_⟩
    rintro _ rfl
    refine ⟨h9, ?_⟩
    rintro _ rfl
    rintro _ rfl
    refine h3 e hlt _ ⟨?_, (hJ.congr rfl (k13 rfl rfl rfl rfl rfl)).more, hC.congr rfl rfl rfl rfl, hL, fun z => absurd rfl z, fun z => absurd rfl z, fun z => absurd rfl z⟩
    · obtain ⟨a1, a2, a3, a4, a5, a6, a7, a8, a9, a10, a11⟩ := hF
      refine ⟨a1, rfl, a3, by omega, a5, a6, a7, a8, a9, fun m hm => ?_, fun m hm => ?_⟩
      · show ∃ a' b' : Nat, upd (gA σ 4) M (nI a) m = nI a' ∧ upd (gA σ 5) M (nI b) m = nI b' ∧ a' < N ∧ b' < N ∧ a' ≠ b'
        rw [upd_ap, upd_ap]
        by_cases em : m = M
        · rw [if_pos em, if_pos em]; exact ⟨a, b, rfl, rfl, ha, hb, e⟩
        · rw [if_neg em, if_neg em]; exact a10 m (by omega)
      · show (10 ≤ (upd (gA σ 8) M 30 m).toInt ∧ (upd (gA σ 8) M 30 m).toInt ≤ 60) ∧ (10 ≤ (upd (gA σ 9) M 30 m).toInt ∧ (upd (gA σ 9) M 30 m).toInt ≤ 60)
        rw [upd_ap, upd_ap]
        by_cases em : m = M
        · rw [if_pos em, if_pos em]; decide
        · rw [if_neg em, if_neg em]; exact a11 m (by omega)
  · have hM : M = 9 := by
      rw [hF.2.1] at q
      have : ¬ M < 9 := fun z => q (nI_lt (b := 9) z (by decide))
      omega
    exact Or.inr (Or.inr ⟨rfl, h2 e hM⟩)
theorem ti_le33 {x y : Int32} {T : Nat} (hT : T + 1 ≤ 34) (hx : -(33 * (T : Int)) ≤ x.toInt ∧ x.toInt ≤ 33 * T) (hy : -33 ≤ y.toInt ∧ y.toInt ≤ 33) : -(33 * ((T + 1 : Nat) : Int)) ≤ (x + y).toInt ∧ (x + y).toInt ≤ 33 * ((T + 1 : Nat) : Int) := by
  rw [ti_add x y (by omega)]
  omega
/-- a load -/
theorem c_load {a : Nat} {r u : Int32} {Q : Int32 → Sg → Prop} (hI : Inv N M J S T σ) (hT : T + 1 ≤ 34) (ha : a < N) (hr : -33 ≤ r.toInt ∧ r.toInt ≤ 33) (hu : -33 ≤ u.toInt ∧ u.toInt ≤ 33)
    (h : ∀ v τ, ¬ v ≤ 0 → Inv N M J S (T + 1) τ → Q v τ) : w_L_load (nI a) r u σ Q := by
  obtain ⟨hF, hJ, hC, hL, -, h6, h7⟩ := hI
  have hN5 : N ≤ 5 := hF.2.2.1
  have e1 : (-999 : Int32).toInt = -999 := rfl
  have e2 : (999 : Int32).toInt = 999 := rfl
  unfold w_L_load w_X6_load
  refine s_cN hF.1 (by omega) ha (s_withinY (by rw [e1, e2]; omega) ⟨fun z => absurd z (by decide), fun _ => s_withinY (by rw [e1, e2]; omega) ⟨fun _ => ?_, fun z => absurd z (by decide)⟩⟩)
  rintro _ rfl
  unfold w_X2_addLoad
  rw [ix20 (a := a) (by omega), ix21 (a := a) (by omega), ixn (a := a) (by omega)]
  have i0 : vp_in ((2 * nI a) + 0) 16 := in20 (by omega) (by decide)
  have i1 : vp_in ((2 * nI a) + 1) 16 := in21 (by omega) (by decide)
  have i8 : vp_in (nI a) 8 := in_nI (by omega) (by decide)
  refine ⟨i0, i0, ?_⟩
  rintro _ rfl
  refine ⟨i1, i1, ?_⟩
  rintro _ rfl
  refine ⟨i8, i8, ?_⟩
  rintro _ rfl
  refine ⟨i8, ?_⟩
  obtain ⟨a1, a2, a3, a4, a5, a6, a7, a8, a9, a10, a11⟩ := id hF
  have o1 : (1 : Int32).toInt = 1 := rfl
  have z1 : (0 : Int32).toInt = 0 := rfl
  have c9 := a9 a
  have ecount : (gA σ 2 a + 1).toInt = (gA σ 2 a).toInt + 1 := by rw [ti_add _ _ (by rw [o1]; omega), o1]
  refine h _ _ ?_ ⟨⟨a1, a2, a3, a4, hT, a6, a7, fun k => ?_, fun k => ?_, a10, a11⟩, hJ.congr rfl (k13 rfl rfl rfl rfl rfl), hC.congr rfl rfl rfl rfl, hL, fun z => absurd rfl z, fun q => ?_, fun q => ?_⟩
  · show ¬ upd (gA σ 2) a (gA σ 2 a + 1) a ≤ 0
    rw [upd_ap, if_pos rfl, tle, ecount, z1]
    omega
  · show -(33 * ((T + 1 : Nat) : Int)) ≤ (upd (upd (gA σ 1) (2 * a) (gA σ 1 (2 * a) + r)) (2 * a + 1) (upd (gA σ 1) (2 * a) (gA σ 1 (2 * a) + r) (2 * a + 1) + u) k).toInt ∧ (upd (upd (gA σ 1) (2 * a) (gA σ 1 (2 * a) + r)) (2 * a + 1) (upd (gA σ 1) (2 * a) (gA σ 1 (2 * a) + r) (2 * a + 1) + u) k).toInt ≤ 33 * ((T + 1 : Nat) : Int)
    rw [upd_ap, upd_ap, upd_ap]
    by_cases k1 : k = 2 * a + 1
    · rw [if_pos k1, if_neg (by omega)]
      exact ti_le33 hT (a8 _) hu
    · rw [if_neg k1]
      by_cases k0 : k = 2 * a
      · rw [if_pos k0]
        exact ti_le33 hT (a8 _) hr
      · rw [if_neg k0]
        have := a8 k
        omega
  · show 0 ≤ (upd (gA σ 2) a (gA σ 2 a + 1) k).toInt ∧ (upd (gA σ 2) a (gA σ 2 a + 1) k).toInt ≤ ((T + 1 : Nat) : Int)
    rw [upd_ap]
    by_cases k0 : k = a
    · rw [if_pos k0, ecount]; omega
    · rw [if_neg k0]
      have := a9 k
      omega
  · exact (h6 q).congr rfl rfl rfl rfl rfl rfl rfl rfl rfl
  · exact (h7 q).congr rfl rfl rfl rfl rfl rfl rfl rfl
theorem s_common {a b : Nat} {Q : Int32 → Prop} (hM9 : M ≤ 9) (ha : a < M) (hb : b < M) (h0 : Q 0) (h1 : Q 1) : w_X2_haveCommonNode (nI a) (nI b) σ Q := by
  unfold w_X2_haveCommonNode
  have i9 : vp_in (nI b) 9 := in_nI (by omega) (by decide)
  refine ⟨i9, s_otherEnd (by omega) ⟨fun _ => h1, fun _ => ⟨i9, s_otherEnd (by omega) ⟨fun _ => h0, fun _ => h1⟩⟩⟩⟩
theorem s_joined {a : Nat} {p : Int32} {Q : Int32 → Prop} (hJ : Jo M J σ) (h0 : Q 0) (h1 : Q 1) : w_X3_areJoined (nI a) p σ Q := by
  unfold w_X3_areJoined
  rw [hJ.1]
  have hJ12 : J ≤ 12 := hJ.2.1
  refine ⟨fun i => ∃ n : Nat, n ≤ J ∧ i = nI n, fun i => ((J : Int) - i.toInt).toNat, ⟨0, Nat.zero_le _, rfl⟩, ?_⟩
  rintro _ ⟨n, hn, rfl⟩
  refine ⟨fun _ => h0, fun q => ?_⟩
  have hlt : n < J := lt_of_nle q (by omega) (by omega)
  exact s_partner (by omega) ⟨fun _ => ⟨⟨n + 1, by omega, nI_1 n⟩, mu_n hlt (by omega)⟩, fun _ => h1⟩
/-- a joint -/
theorem c_joint {a b th mk : Nat} {c : Int32} {Q : Int32 → Sg → Prop} (hI : Inv N M J S T σ) (ha : a < M) (hb : b < M) (hc : c = 117 ∨ c = 100 ∨ c = 108 ∨ c = 114 ∨ c = 102) (hth : 2 ≤ th ∧ th ≤ 20) (hmk : 1 ≤ mk ∧ mk ≤ 31)
    (h0 : ∀ v : Int32, v < 0 → Q v σ) (h1 : ∀ τ, Inv N M (J + 1) S T τ → Q (nI J) τ) : w_L_joint (nI a) (nI b) c (nI th) (nI mk) σ Q := by
  obtain ⟨hF, hJ, hC, hL, h5, -, -⟩ := hI
  have hM9 : M ≤ 9 := hF.2.2.2.1
  have n76 : (-76 : Int32) < 0 := by decide
  have n78 : (-78 : Int32) < 0 := by decide
  have n79 : (-79 : Int32) < 0 := by decide
  have e2 : (2 : Int32).toInt = 2 := rfl
  have e20 : (20 : Int32).toInt = 20 := rfl
  have e1 : (1 : Int32).toInt = 1 := rfl
  have e31 : (31 : Int32).toInt = 31 := rfl
  unfold w_L_joint w_X6_joint
  refine s_cM hF.2.1 hM9 ha (s_cM hF.2.1 hM9 hb ⟨fun _ => Or.inr (Or.inl ⟨rfl, h0 _ n78⟩), fun _ => s_wayIx hc (fun w hw => ⟨fun z => absurd z (nI_pos (by omega)), fun _ => ?_⟩)⟩)
  refine s_withinY (by rw [nI_ti (by omega), e2, e20]; omega) ⟨fun z => absurd z (by decide), fun _ => s_withinY (by rw [nI_ti (by omega), e1, e31]; omega) ⟨fun _ => ?_, fun z => absurd z (by decide)⟩⟩
  refine s_common hM9 ha hb ⟨fun _ => Or.inr (Or.inr (Or.inl ⟨rfl, h0 _ n76⟩)), fun z => absurd rfl z⟩ ⟨fun z => absurd z (by decide), fun _ => ?_⟩
  refine s_joined hJ ⟨fun _ => ⟨fun q => ?_, fun _ => Or.inr (Or.inr (Or.inr ⟨rfl, h0 _ n79⟩))⟩, fun z => absurd rfl z⟩ ⟨fun z => absurd z (by decide), fun _ => Or.inr (Or.inr (Or.inl ⟨rfl, h0 _ n76⟩))⟩
  have hlt : J < 12 := by
    rw [hJ.1] at q
    exact (nI_lt2 (b := 12) (by have := hJ.2.1; omega) (by decide)).mp q
  rintro _ rfl
  rintro _ rfl
  refine s_wayIx hc (fun w2 hw2 => ?_)
  unfold w_X3_add
  rintro _ rfl
  have e4 : gI (sI (sI σ 6 0) 10 0) 4 = nI J := hJ.1
  have h12 : vp_in (nI J) 12 := in_nI hlt (by decide)
  rw [e4, ixn (a := J) (by omega), nI_1]
  refine ⟨h12, ?_⟩
  rintro _ rfl
  refine ⟨h12, ?_⟩
  rintro _ rfl
  refine ⟨h12, ?_⟩
  rintro _ rfl
  refine ⟨h12, ?_⟩
  rintro _ rfl
  refine ⟨h12, ?_⟩
  rintro _ rfl
  rintro _ rfl
  refine h1 _ ⟨hF.congr rfl rfl (fun k hk => ?_), ?_, hC.congr rfl rfl rfl rfl, hL, fun z => ?_, fun z => absurd rfl z, fun z => absurd rfl z⟩
  · revert k
    exact k10 rfl rfl rfl rfl rfl rfl rfl rfl rfl rfl
  · obtain ⟨b1, b2, b3⟩ := hJ
    refine ⟨rfl, by omega, fun j hj => ?_⟩
    show ∃ a' b' w' t' k' : Nat, upd (gA σ 13) J (nI a) j = nI a' ∧ upd (gA σ 14) J (nI b) j = nI b' ∧ a' < M ∧ b' < M ∧ upd (gA σ 15) J (nI w2) j = nI w' ∧ w' < 5 ∧ upd (gA σ 16) J (nI th) j = nI t' ∧ 2 ≤ t' ∧ t' ≤ 20 ∧ upd (gA σ 17) J (nI mk) j = nI k' ∧ 1 ≤ k' ∧ k' ≤ 31
    rw [upd_ap, upd_ap, upd_ap, upd_ap, upd_ap]
    by_cases ej : j = J
    · rw [if_pos ej, if_pos ej, if_pos ej, if_pos ej, if_pos ej]
      exact ⟨a, b, w2, th, mk, rfl, rfl, ha, hb, rfl, hw2, rfl, hth.1, hth.2, rfl, hmk.1, hmk.2⟩
    · rw [if_neg ej, if_neg ej, if_neg ej, if_neg ej, if_neg ej]
      exact b3 j (by omega)
  · exact (h5 z).congr rfl rfl rfl rfl rfl rfl rfl rfl rfl
/-- a stick -/
theorem c_stick {l br gr : Nat} {Q : Int32 → Sg → Prop} (hI : Inv N M J S T σ) (hl : 1 ≤ l ∧ l ≤ 900) (hbr : 6 ≤ br ∧ br ≤ 40) (hgr : gr ≤ 3)
    (h0 : S = 5 → Q (-79) σ) (h1 : ∀ τ, Inv N M J (S + 1) T τ → Q (nI S) τ) : w_L_stick (nI l) (nI br) (nI gr) σ Q := by
  obtain ⟨hF, hJ, hC, hL, h5, -, h7⟩ := hI
  have e1 : (1 : Int32).toInt = 1 := rfl
  have e9 : (900 : Int32).toInt = 900 := rfl
  have hS5 : S ≤ 5 := hC.2.1
  unfold w_L_stick w_X6_stick
  refine s_withinY (by rw [nI_ti (by omega), e1, e9]; omega) ⟨fun z => absurd z (by decide), fun _ => s_sectionY hbr hgr ⟨fun _ => ⟨fun q => ?_, fun q => Or.inr ⟨rfl, h0 ?_⟩⟩, fun z => absurd z (by decide)⟩⟩
  · have hlt : S < 5 := by
      rw [hC.1] at q
      exact (nI_lt2 (b := 5) (by omega) (by decide)).mp q
    rintro _ rfl
    unfold w_X0_add
    rintro _ rfl
    have e4 : gI (sI σ 6 0) 5 = nI S := hC.1
    have h12 : vp_in (nI S) 5 := in_nI hlt (by decide)
    rw [e4, ixn (a := S) (by omega), nI_1]
    refine ⟨h12, ?_⟩
    rintro _ rfl
    refine ⟨h12, ?_⟩
    rintro _ rfl
    refine ⟨h12, ?_⟩
    rintro _ rfl
    rintro _ rfl
    refine h1 _ ⟨hF.congr rfl rfl (k10 rfl rfl rfl rfl rfl rfl rfl rfl rfl rfl), hJ.congr rfl (k13 rfl rfl rfl rfl rfl), ?_, hL, fun z => ?_, fun z => absurd rfl z, fun z => ?_⟩
    · obtain ⟨b1, b2, b3, b4, b5⟩ := hC
      refine ⟨rfl, by omega, fun s hs => ?_, b4, b5⟩
      show ∃ l' : Nat, upd (gA σ 19) S (nI l) s = nI l' ∧ 1 ≤ l' ∧ l' ≤ 900
      rw [upd_ap]
      by_cases es : s = S
      · rw [if_pos es]; exact ⟨l, rfl, hl.1, hl.2⟩
      · rw [if_neg es]; exact b3 s (by omega)
    · exact (h5 z).congr rfl rfl rfl rfl rfl rfl rfl rfl rfl
    · exact (h7 z).congr rfl rfl rfl rfl rfl rfl rfl rfl
  · have : ¬ S < 5 := fun z => q (by rw [hC.1]; exact nI_lt (b := 5) z (by decide))
    omega
/-- the number of props -/
theorem c_setProps {v : Nat} {Q : Int32 → Sg → Prop} (hI : Inv N M J S T σ) (hv : v ≤ 9) (h : ∀ l τ, l ≤ 9 → Inv N M J S T τ → Q (nI l) τ) : w_L_setProps (nI v) σ Q := by
  obtain ⟨hF, hJ, hC, ⟨l, l9, el⟩, h5, h6, -⟩ := hI
  refine s_L_setProps hv ?_
  rw [el]
  refine h l _ l9 ⟨hF.congr rfl rfl (fun _ _ => rfl), hJ.congr rfl (fun _ _ _ => rfl), hC.congr rfl rfl rfl rfl, ⟨v, hv, rfl⟩, fun z => ?_, fun z => ?_, fun z => absurd rfl z⟩
  · exact (h5 z).congr rfl rfl rfl rfl rfl rfl rfl rfl rfl
  · exact (h6 z).congr rfl rfl rfl rfl rfl rfl rfl rfl rfl
/-- moistures -/
theorem c_cutAt {m w : Nat} {Q : Int32 → Sg → Prop} (hI : Inv N M J S T σ) (hm : m < M) (hw : 10 ≤ w ∧ w ≤ 60) (h : ∀ v τ, ¬ v ≤ 0 → Inv N M J S T τ → Q v τ) : w_L_cutAt (nI m) (nI w) σ Q := by
  obtain ⟨hF, hJ, hC, hL, h5, h6, h7⟩ := hI
  have hM9 : M ≤ 9 := hF.2.2.2.1
  have e1 : (10 : Int32).toInt = 10 := rfl
  have e2 : (60 : Int32).toInt = 60 := rfl
  have z1 : (0 : Int32).toInt = 0 := rfl
  unfold w_L_cutAt w_X6_cutAt w_X6_checkMoisture
  refine s_cM hF.2.1 hM9 hm (s_withinY (by rw [nI_ti (by omega), e1, e2]; omega) ⟨fun _ => ?_, fun z => absurd z (by decide)⟩)
  have h9 : vp_in (nI m) 9 := in_nI (by omega) (by decide)
  rw [ixn (a := m) (by omega)]
  refine ⟨h9, ?_⟩
  rintro _ rfl
  refine ⟨h9, ?_⟩
  rintro _ rfl
  obtain ⟨a1, a2, a3, a4, a5, a6, a7, a8, a9, a10, a11⟩ := id hF
  refine h _ _ ?_ ⟨⟨a1, a2, a3, a4, a5, a6, a7, a8, a9, a10, fun q hq => ?_⟩, hJ.congr rfl (k13 rfl rfl rfl rfl rfl), hC.congr rfl rfl rfl rfl, hL, fun z => ?_, fun z => ?_, fun z => ?_⟩
  · rw [tle, z1]; have := (a11 m hm).1; omega
  · show (10 ≤ (upd (gA σ 8) m (nI w) q).toInt ∧ (upd (gA σ 8) m (nI w) q).toInt ≤ 60) ∧ (10 ≤ (gA σ 9 q).toInt ∧ (gA σ 9 q).toInt ≤ 60)
    rw [upd_ap]
    refine ⟨?_, (a11 q hq).2⟩
    by_cases e : q = m
    · rw [if_pos e, nI_ti (by omega)]; omega
    · rw [if_neg e]; exact (a11 q hq).1
  · exact (h5 z).congr rfl rfl rfl rfl rfl rfl rfl rfl rfl
  · exact (h6 z).congr rfl rfl rfl rfl rfl rfl rfl rfl rfl
  · exact (h7 z).congr rfl rfl rfl rfl rfl rfl rfl rfl
theorem c_dry {m w : Nat} {Q : Int32 → Sg → Prop} (hI : Inv N M J S T σ) (hm : m < M) (hw : 10 ≤ w ∧ w ≤ 60) (h : ∀ v τ, ¬ v ≤ 0 → Inv N M J S T τ → Q v τ) : w_L_dry (nI m) (nI w) σ Q := by
  obtain ⟨hF, hJ, hC, hL, h5, h6, h7⟩ := hI
  have hM9 : M ≤ 9 := hF.2.2.2.1
  have e1 : (10 : Int32).toInt = 10 := rfl
  have e2 : (60 : Int32).toInt = 60 := rfl
  have z1 : (0 : Int32).toInt = 0 := rfl
  unfold w_L_dry w_X6_dry w_X6_checkMoisture
  refine s_cM hF.2.1 hM9 hm (s_withinY (by rw [nI_ti (by omega), e1, e2]; omega) ⟨fun _ => ?_, fun z => absurd z (by decide)⟩)
  have h9 : vp_in (nI m) 9 := in_nI (by omega) (by decide)
  rw [ixn (a := m) (by omega)]
  refine ⟨h9, ?_⟩
  rintro _ rfl
  refine ⟨h9, ?_⟩
  rintro _ rfl
  obtain ⟨a1, a2, a3, a4, a5, a6, a7, a8, a9, a10, a11⟩ := id hF
  refine h _ _ ?_ ⟨⟨a1, a2, a3, a4, a5, a6, a7, a8, a9, a10, fun q hq => ?_⟩, hJ.congr rfl (k13 rfl rfl rfl rfl rfl), hC.congr rfl rfl rfl rfl, hL, fun z => ?_, fun z => ?_, fun z => ?_⟩
  · rw [tle, z1]; have := (a11 m hm).2; omega
  · show (10 ≤ (gA σ 8 q).toInt ∧ (gA σ 8 q).toInt ≤ 60) ∧ (10 ≤ (upd (gA σ 9) m (nI w) q).toInt ∧ (upd (gA σ 9) m (nI w) q).toInt ≤ 60)
    rw [upd_ap]
    refine ⟨(a11 q hq).1, ?_⟩
    by_cases e : q = m
    · rw [if_pos e, nI_ti (by omega)]; omega
    · rw [if_neg e]; exact (a11 q hq).2
  · exact (h5 z).congr rfl rfl rfl rfl rfl rfl rfl rfl rfl
  · exact (h6 z).congr rfl rfl rfl rfl rfl rfl rfl rfl rfl
  · exact (h7 z).congr rfl rfl rfl rfl rfl rfl rfl rfl
/-- calls that throw leave the yard as it is -/
theorem s_isThrown {Q : Int32 → Sg → Prop} (hN : 2 ≤ N) (hI : Inv N M J S T σ) (h : ∀ τ, Q 1 τ) : w_L_isThrown σ Q := by
  have nar : ∀ τ, FoOK N M τ → narrow .char (.int (gI τ 3)) = .int (gI τ 3) := fun τ hO => by
    rcases hO.1 with e | e | e | e <;> rw [e] <;> rfl
  unfold w_L_isThrown w_X6_state
  refine s_find hI.1 hN hI.2.2.2.2.1 (fun τ1 hK1 hf1 hO1 _ => ⟨nar τ1 hO1, ?_⟩)
  have hI1 := hI.frame hK1 hO1
  unfold w_X6_orders
  refine s_clashes hI1.2.1 (s_rf hI1.1 hI1.2.1 hI1.2.2.2.2.2.2 (fun τ hR => ?_))
  have hin11 : vp_in (gI τ 11) 512 := by
    have h512 := p512 hI1.1.2.2.2.1
    have hpos := Nat.two_pow_pos M
    rw [hR.2.2.1.1.1]
    exact in_nI (by omega) (by decide)
  refine ⟨hin11, ?_⟩
  have hI2 := hI1.raise hR.1 hR.2.2.1
  have hf : ¬ gI τ 2 = 0 := by rw [hR.1.I 2 rfl]; exact hf1
  have hF := hI2.1
  have hN5 : N ≤ 5 := hF.2.2.1
  have hM9 : M ≤ 9 := hF.2.2.2.1
  have cl : clN τ1 J = clN τ J := by
    have hc2 : ∀ n, conf τ1 n = conf τ n := fun n => by funext o; unfold conf; rw [hR.1.A 17 rfl]
    have h2 : ∀ n o, cl2 τ1 n o = cl2 τ n o := fun n o => by
      induction o with
      | zero => rfl
      | succ o ih =>
        show cl2 τ1 n o + (if conf τ1 n o = true then 1 else 0) = cl2 τ n o + (if conf τ n o = true then 1 else 0)
        rw [ih, hc2]
    have h3 : ∀ n, clN τ1 n = clN τ n := fun n => by
      induction n with
      | zero => rfl
      | succ n ih => show clN τ1 n + cl2 τ1 n n = clN τ n + cl2 τ n n; rw [ih, h2]
    exact h3 J
  have g3 : gI τ 3 = gI τ1 3 := hR.1.I 3 rfl
  unfold w_L_node w_X6_node
  refine s_withinN (Or.inl (by decide)) ⟨fun _ => Or.inl ⟨rfl, fun z => absurd rfl z, fun _ => ?_⟩, fun z => absurd rfl z⟩
  unfold w_L_member w_X6_member
  refine s_cNx (a := 8) hF.1 (by omega) (by omega) (by decide) (Or.inl ⟨rfl, fun z => absurd rfl z, fun _ => ?_⟩)
  unfold w_L_load w_X6_load
  refine s_cNx (a := 8) hF.1 (by omega) (by omega) (by decide) (Or.inl ⟨rfl, fun z => absurd rfl z, fun _ => ?_⟩)
  unfold w_L_joint w_X6_joint
  refine s_cMx (a := 9) hF.2.1 hM9 (by omega) (by decide) (Or.inl ⟨rfl, fun z => absurd rfl z, fun _ => ?_⟩)
  unfold w_L_cutAt w_X6_cutAt
  refine s_cMx (a := 9) hF.2.1 hM9 (by omega) (by decide) (Or.inl ⟨rfl, fun z => absurd rfl z, fun _ => ?_⟩)
  unfold w_L_stick w_X6_stick
  refine s_withinN (Or.inl (by decide)) ⟨fun _ => Or.inl ⟨rfl, fun z => absurd rfl z, fun _ => ?_⟩, fun z => absurd rfl z⟩
  unfold w_L_setProps w_X6_setProps
  refine s_withinN (Or.inl (by decide)) ⟨fun z => absurd rfl z, fun _ => ⟨rfl, fun z => absurd rfl z, fun _ => ?_⟩⟩
  unfold w_L_force w_X6_force
  refine s_cMx (a := 9) hF.2.1 hM9 (by omega) (by decide) (Or.inl ⟨rfl, fun z => absurd rfl z, fun _ => ?_⟩)
  unfold w_L_isBalanced w_X6_isBalanced
  refine s_withinN (Or.inr (by decide)) ⟨fun z => absurd rfl z, fun _ => Or.inl ⟨rfl, fun z => absurd rfl z, fun _ => ?_⟩⟩
  refine s_find2 hf ⟨by rw [g3]; exact nar τ1 hO1, fun z => absurd g3 z, fun _ => ?_⟩
  refine s_clashes hI2.2.1 ⟨fun z => absurd (by rw [cl]) z, fun _ => ?_⟩
  exact s_rfind2 hR.2.1 ⟨hin11, fun z => absurd rfl z, fun _ => h τ⟩
end MV
