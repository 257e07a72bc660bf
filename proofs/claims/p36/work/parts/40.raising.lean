/-! the law's check of raising -/
section RR
variable {N M T J : Nat} {σ : Sg}
theorem s_oc {Q : Int32 → Prop} (hM9 : M ≤ 9) (hR : RaOK M J σ) (h : ∀ c : Nat, c < 1000000000 → (0 < c ↔ canR J (fj σ) M) → Q (nI c)) : w_X4_orderCount σ Q := by
  have h512 := p512 hM9
  have hpos := Nat.two_pow_pos M
  obtain ⟨⟨g11, -⟩, c, c1, c2, c3, -⟩ := hR
  unfold w_X4_orderCount
  rw [g11, ixn (a := 2 ^ M - 1) (by omega), c2]
  exact ⟨in_nI (by omega) (by decide), h c c1 c3⟩
/-- a state in which orders are found, out of one -/
def Rf (M J : Nat) (σ τ : Sg) : Prop := Kp [10, 11, 12] [] [24, 25, 26, 27, 28] [] σ τ ∧ ¬ gI τ 10 = 0 ∧ RaOK M J τ ∧ (¬ gI σ 10 = 0 → τ = σ)
theorem Rf.fj {τ : Sg} (h : Rf M J σ τ) : fj τ = fj σ := fj_of (h.1.A 3 rfl) (h.1.A 4 rfl) (h.1.A 5 rfl) (h.1.A 13 rfl) (h.1.A 14 rfl) (h.1.A 15 rfl) (h.1.I 9 rfl)
theorem Rf.fr {τ : Sg} (h : Rf M J σ τ) (hF : Fr N M T σ) : Fr N M T τ := hF.congr (h.1.I 0 rfl) (h.1.I 1 rfl) (fun k hk => h.1.A k (by
  rcases (show k = 0 ∨ k = 1 ∨ k = 2 ∨ k = 3 ∨ k = 4 ∨ k = 5 ∨ k = 6 ∨ k = 7 ∨ k = 8 ∨ k = 9 by omega) with e | e | e | e | e | e | e | e | e | e <;> subst e <;> rfl))
theorem Rf.jo {τ : Sg} (h : Rf M J σ τ) (hJ : Jo M J σ) : Jo M J τ := hJ.congr (h.1.I 4 rfl) (fun k h1 h2 => h.1.A k (by
  rcases (show k = 13 ∨ k = 14 ∨ k = 15 ∨ k = 16 ∨ k = 17 by omega) with e | e | e | e | e <;> subst e <;> rfl))
theorem s_rf {Q : Sg → Prop} (hF : Fr N M T σ) (hJ : Jo M J σ) (h0 : ¬ gI σ 10 = 0 → RaOK M J σ) (h : ∀ τ, Rf M J σ τ → Q τ) : w_X4_find σ Q :=
  s_rfind hF hJ h0 (fun τ h1 h2 h3 h4 => h τ ⟨h1, h2, h3, h4⟩)
theorem s_canRaise {Q : Int32 → Sg → Prop} (hF : Fr N M T σ) (hJ : Jo M J σ) (h0 : ¬ gI σ 10 = 0 → RaOK M J σ) (h1 : ∀ τ, Rf M J σ τ → canR J (fj σ) M → Q 1 τ) (h2 : ∀ τ, Rf M J σ τ → ¬ canR J (fj σ) M → Q 0 τ) : w_X6_canRaise σ Q := by
  unfold w_X6_canRaise
  refine s_rf hF hJ h0 (fun τ hR => s_oc hF.2.2.2.1 hR.2.2.1 (fun c c1 c2 => ?_))
  rw [hR.fj] at c2
  refine ⟨fun q => h2 τ hR (fun z => ?_), fun q => h1 τ hR (c2.mp ?_)⟩
  · have := c2.mpr z
    exact absurd q (nI_nle this (by omega))
  · apply Nat.pos_of_ne_zero
    rintro rfl
    exact q (Int32.le_refl _)
theorem s_orders {Q : Int32 → Sg → Prop} (hF : Fr N M T σ) (hJ : Jo M J σ) (h0 : ¬ gI σ 10 = 0 → RaOK M J σ) (h : ∀ τ c, Rf M J σ τ → c < 1000000000 → (0 < c ↔ canR J (fj σ) M) → Q (nI c) τ) : w_X6_orders σ Q := by
  unfold w_X6_orders
  refine s_rf hF hJ h0 (fun τ hR => s_oc hF.2.2.2.1 hR.2.2.1 (fun c c1 c2 => ?_))
  rw [hR.fj] at c2
  exact h τ c hR c1 c2
theorem s_canTake {Q : Int32 → Sg → Prop} (hF : Fr N M T σ) (hJ : Jo M J σ) (h0 : ¬ gI σ 10 = 0 → RaOK M J σ) (h1 : ∀ τ, Rf M J σ τ → canR J (fj σ) M → Q 1 τ) (h2 : ∀ τ, Rf M J σ τ → ¬ canR J (fj σ) M → Q 0 τ) : w_X6_canTakeAway σ Q := by
  unfold w_X6_canTakeAway
  refine s_rf hF hJ h0 (fun τ hR => ?_)
  obtain ⟨-, c, -, -, -, b1, b2, -⟩ := id hR.2.2.1
  rw [hR.fj] at b2
  have e0 : ix 0 = 0 := rfl
  rw [e0]
  rcases b1 with z | z
  · rw [z]
    exact ⟨rfl, h2 τ hR (fun q => by have := b2.mpr q; rw [z] at this; exact absurd this (by decide))⟩
  · rw [z]
    exact ⟨rfl, h1 τ hR (b2.mp z)⟩
theorem s_place {n : Nat} {Q : Sg → Prop} {X : String → Sg → Prop} (hF : Fr N M T σ) (hJ : Jo M J σ) (h0 : ¬ gI σ 10 = 0 → RaOK M J σ) (hn : n ≤ M)
    (h1 : ∀ τ, Rf M J σ τ → canR J (fj σ) M → n < M → Q τ) (h2 : ∀ τ, Rf M J σ τ → canR J (fj σ) M → n = M → X "java/lang/IndexOutOfBoundsException" τ) (h3 : ∀ τ, Rf M J σ τ → ¬ canR J (fj σ) M → X "java/util/NoSuchElementException" τ) : w_X6_checkPlaceInOrder (nI n) σ Q X := by
  have hM9 : M ≤ 9 := hF.2.2.2.1
  unfold w_X6_checkPlaceInOrder
  refine s_rf hF hJ h0 (fun τ hR => s_oc hM9 hR.2.2.1 (fun c c1 c2 => ?_))
  rw [hR.fj] at c2
  rw [(hR.fr hF).2.1]
  refine ⟨fun q => ⟨fun q2 => absurd q2 (nI_pos (by omega)), fun _ => ⟨fun q2 => ?_, fun q2 => ?_⟩⟩, fun q => h3 τ hR (fun z => ?_)⟩
  · have hc : canR J (fj σ) M := c2.mp (by
      apply Nat.pos_of_ne_zero
      rintro rfl
      exact q rfl)
    exact h1 τ hR hc ((nI_lt2 (by omega) (by omega)).mp q2)
  · have hc : canR J (fj σ) M := c2.mp (by
      apply Nat.pos_of_ne_zero
      rintro rfl
      exact q rfl)
    have : ¬ n < M := fun z => q2 (nI_lt z (by omega))
    exact h2 τ hR hc (by omega)
  · have := c2.mpr z
    exact absurd q (nI_ne0 this (by omega))
theorem s_L_raised {n : Nat} {Q : Int32 → Sg → Prop} (hF : Fr N M T σ) (hJ : Jo M J σ) (h0 : ¬ gI σ 10 = 0 → RaOK M J σ) (hn : n ≤ M)
    (h1 : ∀ τ, Rf M J σ τ → canR J (fj σ) M → n < M → Q (gA τ 28 n) τ) (h2 : ∀ τ, Rf M J σ τ → canR J (fj σ) M → n = M → Q (-77) τ) (h3 : ∀ τ, Rf M J σ τ → ¬ canR J (fj σ) M → Q (-75) τ) : w_L_raised (nI n) σ Q := by
  have hM9 : M ≤ 9 := hF.2.2.2.1
  unfold w_L_raised w_X6_raised
  refine s_place hF hJ h0 hn (fun τ hR hc hlt => ?_) (fun τ hR hc he => Or.inr ⟨rfl, h2 τ hR hc he⟩) (fun τ hR hc => Or.inl ⟨rfl, h3 τ hR hc⟩)
  rw [ixn (a := n) (by omega)]
  exact ⟨in_nI (by omega) (by decide), h1 τ hR hc hlt⟩
theorem stn_lt {o : Nat → Nat} : ∀ n, (∀ k, k < n → o k < M) → stn o n < 2 ^ M := by
  intro n
  induction n with
  | zero => intro _; exact Nat.two_pow_pos M
  | succ n ih =>
    intro h
    exact Nat.or_lt_two_pow (ih (fun k hk => h k (by omega))) (Nat.pow_lt_pow_right (by decide) (h n (by omega)))
theorem prF_le (x : FJ) (s : Nat) : prF J x M s ≤ 9 := by
  have : ∀ n, prK J x M s n ≤ n := fun n => by
    induction n with
    | zero => exact Nat.le_refl _
    | succ n ih =>
      show prK J x M s n + (if (nI s &&& nI (hN x M)) &&& (iShl 1 (nI n)) = 0 then 0 else if 2 ≤ bcT (jnT x n J &&& nI s) then 0 else 1) ≤ n + 1
      split
      · omega
      · split <;> omega
  exact this 9
theorem s_L_props {n : Nat} {Q : Int32 → Sg → Prop} (hF : Fr N M T σ) (hJ : Jo M J σ) (h0 : ¬ gI σ 10 = 0 → RaOK M J σ) (hn : n < M)
    (h1 : ∀ τ k, Rf M J σ τ → canR J (fj σ) M → k ≤ 9 → nI k ≤ gI σ 9 → Q (nI k) τ) (h3 : ∀ τ, Rf M J σ τ → ¬ canR J (fj σ) M → Q (-75) τ) : w_L_props (nI n) σ Q := by
  have hM9 : M ≤ 9 := hF.2.2.2.1
  have h512 := p512 hM9
  unfold w_L_props w_X6_props
  refine s_place hF hJ h0 (Nat.le_of_lt hn) (fun τ hR hc hlt => ?_) (fun τ hR hc he => by omega) (fun τ hR hc => Or.inl ⟨rfl, h3 τ hR hc⟩)
  obtain ⟨hG, c, -, -, -, -, -, ho⟩ := id hR.2.2.1
  obtain ⟨o, o1, o2, o3⟩ := ho (by rw [hR.fj]; exact hc)
  refine ⟨fun st i => ∃ k : Nat, k ≤ n + 1 ∧ i = nI k ∧ st = nI (stn o k), fun _ i => (((n + 1 : Nat) : Int) - i.toInt).toNat, ⟨0, Nat.zero_le _, rfl, rfl⟩, ?_⟩
  rintro _ _ ⟨k, hk, rfl, rfl⟩
  refine ⟨fun q => ?_, fun q => ?_⟩
  · have hk2 : n < k := (nI_lt2 (by omega) (by omega)).mp q
    have ek : k = n + 1 := by omega
    subst ek
    have hs := stn_lt (o := o) (M := M) (n + 1) (fun j hj => (o1 j (by omega)).2)
    refine s_propsFor hM9 hG (by omega) ?_
    have hl := o3 n hn
    rw [hR.1.I 9 rfl] at hl
    exact h1 τ _ hR hc (prF_le _ _) hl
  · have hlt2 : k < n + 1 := by
      apply Nat.lt_of_not_le
      intro z
      exact q (nI_lt (by omega) (by omega))
    obtain ⟨e28, om⟩ := o1 k (by omega)
    rw [ixn (a := k) (by omega), e28]
    refine ⟨in_nI (by omega) (by decide), ?_⟩
    rintro _ rfl
    exact ⟨⟨k + 1, by omega, nI_1 k, by rw [shl_1 (by omega), nI_or]; rfl⟩, mu_n hlt2 (by omega)⟩
theorem s_lowStuck {x : FJ} {Q : Int32 → Prop} (hM9 : M ≤ 9) (hG : RaG M J x σ) (h : ∀ m, m < M → Q (nI m)) (h0 : Q (-1)) : w_X4_lowestStuck σ Q := by
  have h512 := p512 hM9
  unfold w_X4_lowestStuck
  rw [hG.1]
  refine ⟨fun i => ∃ m : Nat, m ≤ 9 ∧ i = nI m, fun i => (((9 : Nat) : Int) - i.toInt).toNat, ⟨0, by decide, rfl⟩, ?_⟩
  rintro _ ⟨m, hm, rfl⟩
  refine ⟨fun _ => h0, fun q => ?_⟩
  have hlt : m < 9 := lt_of_nle (a := 9) q (by decide) (by omega)
  have hmu := mu_n hlt (by decide)
  have next : (∃ m' : Nat, m' ≤ 9 ∧ nI m + 1 = nI m') ∧ (((9 : Nat) : Int) - (nI m + 1).toInt).toNat < (((9 : Nat) : Int) - (nI m).toInt).toNat := ⟨⟨m + 1, by omega, nI_1 m⟩, hmu⟩
  rintro _ rfl
  rw [shl_1 (by omega), nI_and, nI_xor]
  refine ⟨fun _ => next, fun q2 => ?_⟩
  have hmM : m < M := by
    apply Nat.lt_of_not_le
    intro z
    apply q2
    rw [and_bit0 (tb_hi (show 2 ^ M - 1 < 2 ^ M by have := Nat.two_pow_pos M; omega) z)]
    rfl
  exact s_move hM9 hG hmM (fun _ => ⟨fun _ => next, fun q3 => absurd q3 (by decide)⟩) (fun _ => ⟨fun q3 => absurd rfl q3, fun _ => h m hmM⟩)
theorem s_L_stuck {Q : Int32 → Sg → Prop} (hF : Fr N M T σ) (hJ : Jo M J σ) (h0 : ¬ gI σ 10 = 0 → RaOK M J σ) (h : ∀ τ m, Rf M J σ τ → m < M → Q (nI m) τ) (h1 : ∀ τ, Rf M J σ τ → Q (-75) τ) : w_L_stuck σ Q := by
  have hM9 : M ≤ 9 := hF.2.2.2.1
  unfold w_L_stuck w_X6_stuck
  refine s_rf hF hJ h0 (fun τ hR => s_lowStuck hM9 hR.2.2.1.1 (fun m hm => ?_) ?_)
  · exact ⟨fun _ => h τ m hR hm, fun q => absurd (nI_pos' (by omega)) q⟩
  · exact ⟨fun q => absurd q neg1, fun _ => ⟨rfl, h1 τ hR⟩⟩
theorem s_L_setProps {v : Nat} {Q : Int32 → Sg → Prop} (hv : v ≤ 9) (h : Q (gI σ 9) (sI (sI σ 9 (nI v)) 10 0)) : w_L_setProps (nI v) σ Q := by
  unfold w_L_setProps w_X6_setProps
  have e0 : (0 : Int32).toInt = 0 := rfl
  have e9 : (9 : Int32).toInt = 9 := rfl
  refine s_withinY (by rw [nI_ti (by omega), e0, e9]; omega) ⟨fun _ => ?_, fun q => absurd q (by decide)⟩
  rintro _ rfl
  rintro _ rfl
  rintro _ rfl
  exact h
def sdT (σ : Sg) : Nat → Int32
  | 0 => 0
  | n + 1 => sdT σ n ||| iShl 1 (gA σ 28 n)
theorem sdT_stn {o : Nat → Nat} (hM9 : M ≤ 9) (ho : ∀ k, k < M → gA σ 28 k = nI (o k) ∧ o k < M) : ∀ n, n ≤ M → sdT σ n = nI (stn o n) := by
  intro n
  induction n with
  | zero => intro _; rfl
  | succ n ih =>
    intro hn
    obtain ⟨h1, h2⟩ := ho n (by omega)
    show sdT σ n ||| iShl 1 (gA σ 28 n) = nI (stn o n ||| 2 ^ o n)
    rw [ih (by omega), h1, shl_1 (by omega), nI_or]
theorem s_isRaising {Q : Int32 → Sg → Prop} (hF : Fr N M T σ) (hJ : Jo M J σ) (hl : ∃ l : Nat, l ≤ 9 ∧ gI σ 9 = nI l) (h0 : ¬ gI σ 10 = 0 → RaOK M J σ)
    (h : ∀ τ, Kp [10, 11, 12] [] [24, 25, 26, 27, 28] [] σ τ → ¬ gI τ 10 = 0 → RaOK M J τ → Q 1 τ) : w_L_isRaising (nI M) σ Q := by
  have hM9 : M ≤ 9 := hF.2.2.2.1
  obtain ⟨l, l9, el⟩ := hl
  unfold w_L_isRaising
  -- behind the first answer
  have main : ∀ (r1 : Int32) τ1, Rf M J σ τ1 → ((canR J (fj σ) M ∧ r1 = 1) ∨ (¬ canR J (fj σ) M ∧ r1 = 0)) →
      ∀ (J3 : Int32 → Sg → Prop), (∀ (s0_3 : Int32) (σ3 : Sg), (w_L_setProps 0 σ3 (fun r12 σ13 => w_L_setProps r12 σ13 (fun r14 σ15 => ∀ (J16 : Int32 → Prop), (∀ (s0_16 : Int32), (∀ v18 : Int32, v18 = s0_3 &&& s0_16 → ∃ (I19 : Int32 → Int32 → Int32 → Sg → Prop) (μ19 : Int32 → Int32 → Int32 → Sg → Nat), μ19 v18 0 0 σ15 ≤ 9 ∧ I19 v18 0 0 σ15 ∧ ∀ (i3_19 : Int32) (i4_19 : Int32) (i6_19 : Int32) (σ19 : Sg), I19 i3_19 i4_19 i6_19 σ19 → ((nI M) ≤ i6_19 → w_L_stuck σ19 (fun r21 σ22 => (i3_19 = 0 → Q 0 σ22) ∧ (¬ i3_19 = 0 → w_L_raised (nI M) σ22 (fun r24 σ25 => (r1 = 0 → (¬ r24 = (-75) → Q 0 σ25) ∧ (r24 = (-75) → (r21 = (-75) → w_X6_canRaise σ25 (fun r29 σ30 => (¬ r29 = r1 → Q 0 σ30) ∧ (r29 = r1 → Q 1 σ30))) ∧ (¬ r21 = (-75) → ((nI M) ≤ r21 → Q 0 σ25) ∧ (¬ (nI M) ≤ r21 → w_X6_canRaise σ25 (fun r33 σ34 => (¬ r33 = r1 → Q 0 σ34) ∧ (r33 = r1 → Q 1 σ34)))))) ∧ (¬ r1 = 0 → (¬ r24 = (-77) → Q 0 σ25) ∧ (r24 = (-77) → (r21 = (-75) → w_X6_canRaise σ25 (fun r38 σ39 => (¬ r38 = r1 → Q 0 σ39) ∧ (r38 = r1 → Q 1 σ39))) ∧ (¬ r21 = (-75) → ((nI M) ≤ r21 → Q 0 σ25) ∧ (¬ (nI M) ≤ r21 → w_X6_canRaise σ25 (fun r42 σ43 => (¬ r42 = r1 → Q 0 σ43) ∧ (r42 = r1 → Q 1 σ43)))))))))) ∧ (¬ (nI M) ≤ i6_19 → w_L_raised i6_19 σ19 (fun r45 σ46 => ∀ (J47 : Int32 → Sg → Prop), (∀ (s0_47 : Int32) (σ47 : Sg), (∀ v62 : Int32, v62 = i3_19 &&& s0_47 → ∀ (J63 : Int32 → Prop), (∀ (s0_63 : Int32), (∀ v65 : Int32, v65 = i4_19 ||| s0_63 → I19 v62 v65 (i6_19 + 1) σ47 ∧ μ19 v62 v65 (i6_19 + 1) σ47 < μ19 i3_19 i4_19 i6_19 σ19) → J63 s0_63) → (r1 = 0 → J63 0) ∧ (¬ r1 = 0 → J63 (iShl 1 r45))) → J47 s0_47 σ47) → (r1 = 0 → (¬ r45 = (-75) → J47 0 σ46) ∧ (r45 = (-75) → w_L_props i6_19 σ46 (fun r50 σ51 => (¬ r50 = (-75) → J47 0 σ51) ∧ (r50 = (-75) → J47 1 σ51)))) ∧ (¬ r1 = 0 → (r45 < 0 → J47 0 σ46) ∧ (¬ r45 < 0 → ((nI M) ≤ r45 → J47 0 σ46) ∧ (¬ (nI M) ≤ r45 → (¬ ((iShr i4_19 r45) &&& 1) = 0 → J47 0 σ46) ∧ (((iShr i4_19 r45) &&& 1) = 0 → w_L_props i6_19 σ46 (fun r56 σ57 => (r56 < 0 → J47 0 σ57) ∧ (¬ r56 < 0 → w_L_props i6_19 σ57 (fun r59 σ60 => (r12 < r59 → J47 0 σ60) ∧ (¬ r12 < r59 → J47 1 σ60))))))))))) → J16 s0_16) → (¬ r14 = 0 → J16 0) ∧ (r14 = 0 → J16 1)))) → J3 s0_3 σ3) → J3 1 τ1 := by
    intro r1 τ1 hR1 hr1 J3 hJ3
    refine hJ3 1 τ1 ?_
    have e9 : gI τ1 9 = nI l := (hR1.1.I 9 rfl).trans el
    refine s_L_setProps (v := 0) (by decide) ?_
    rw [e9]
    refine s_L_setProps (v := l) l9 ?_
    have z9 : gI (sI (sI τ1 9 (nI 0)) 10 0) 9 = 0 := by rw [gI_sI, if_neg (by decide), gI_sI, if_pos rfl]; rfl
    rw [z9]
    intro J16 hJ16
    refine ⟨fun q => absurd rfl q, fun _ => hJ16 1 ?_⟩
    rintro _ rfl
    obtain ⟨ρ, hρ⟩ : ∃ ρ, ρ = sI (sI (sI (sI τ1 9 (nI 0)) 10 0) 9 (nI l)) 10 0 := ⟨_, rfl⟩
    rw [← hρ]
    have rI : ∀ k, k ≠ 10 → gI ρ k = gI τ1 k := fun k hk => by
      rw [hρ, gI_sI, if_neg hk, gI_sI]
      by_cases e : k = 9
      · rw [if_pos e, e, e9]
      · rw [if_neg e, gI_sI, if_neg hk, gI_sI, if_neg e]
    have rA : ∀ k, gA ρ k = gA τ1 k := fun k => by rw [hρ]; rfl
    have r10 : gI ρ 10 = 0 := by rw [hρ, gI_sI, if_pos rfl]
    have hxρ : fj ρ = fj σ := by
      rw [← hR1.fj]
      exact fj_of (rA 3) (rA 4) (rA 5) (rA 13) (rA 14) (rA 15) (rI 9 (by decide))
    have hFρ : Fr N M T ρ := (hR1.fr hF).congr (rI 0 (by decide)) (rI 1 (by decide)) (fun k _ => rA k)
    have hJρ : Jo M J ρ := (hR1.jo hJ).congr (rI 4 (by decide)) (fun k _ _ => rA k)
    have hKρ : Kp [10, 11, 12] [] [24, 25, 26, 27, 28] [] σ ρ := ⟨fun k hk => by
      have hk10 : k ≠ 10 := fun e => by subst e; exact Bool.noConfusion hk
      rw [rI k hk10]; exact hR1.1.1 k hk, fun k hk => by rw [hρ]; exact hR1.1.2.1 k hk, fun k hk => by rw [rA k]; exact hR1.1.2.2.1 k hk, fun k hk => by rw [hρ]; exact hR1.1.2.2.2 k hk⟩
    refine ⟨fun is seen i s => ∃ n : Nat, n ≤ M ∧ i = nI n ∧ is = 1 ∧ Kp [10, 11, 12] [] [24, 25, 26, 27, 28] [] ρ s ∧ (¬ gI s 10 = 0 → RaOK M J s) ∧ (0 < n → ¬ gI s 10 = 0) ∧ (canR J (fj σ) M → seen = sdT s n) ∧ (¬ canR J (fj σ) M → seen = 0), fun _ _ i _ => ((M : Int) - i.toInt).toNat, ?_, ⟨0, Nat.zero_le _, rfl, rfl, Kp.rf, fun q => absurd r10 q, fun q => absurd q (Nat.lt_irrefl 0), fun _ => rfl, fun _ => rfl⟩, ?_⟩
    · show ((M : Int) - (0 : Int32).toInt).toNat ≤ 9
      have : (0 : Int32).toInt = 0 := rfl
      omega
    rintro _ seen _ s ⟨n, hn, rfl, rfl, hKs, hs0, hsn, hseen, hseen0⟩
    have hFs : Fr N M T s := hFρ.congr (hKs.I 0 rfl) (hKs.I 1 rfl) (fun k hk => hKs.A k (by
      rcases (show k = 0 ∨ k = 1 ∨ k = 2 ∨ k = 3 ∨ k = 4 ∨ k = 5 ∨ k = 6 ∨ k = 7 ∨ k = 8 ∨ k = 9 by omega) with e | e | e | e | e | e | e | e | e | e <;> subst e <;> rfl))
    have hJs : Jo M J s := hJρ.congr (hKs.I 4 rfl) (fun k h1 h2 => hKs.A k (by
      rcases (show k = 13 ∨ k = 14 ∨ k = 15 ∨ k = 16 ∨ k = 17 by omega) with e | e | e | e | e <;> subst e <;> rfl))
    have hxs : fj s = fj σ := (fj_of (hKs.A 3 rfl) (hKs.A 4 rfl) (hKs.A 5 rfl) (hKs.A 13 rfl) (hKs.A 14 rfl) (hKs.A 15 rfl) (hKs.I 9 rfl)).trans hxρ
    have l9s : gI s 9 = nI l := by rw [hKs.I 9 rfl, rI 9 (by decide), e9]
    refine ⟨fun q => ?_, fun q => ?_⟩
    · -- the end
      have fin : ∀ τ2, Rf M J s τ2 → ∀ r21 : Int32, (r21 = -75 ∨ ∃ m, m < M ∧ r21 = nI m) → ((1 : Int32) = 0 → Q 0 τ2) ∧ (¬ (1 : Int32) = 0 → w_L_raised (nI M) τ2 (fun r24 σ25 => (r1 = 0 → (¬ r24 = (-75) → Q 0 σ25) ∧ (r24 = (-75) → (r21 = (-75) → w_X6_canRaise σ25 (fun r29 σ30 => (¬ r29 = r1 → Q 0 σ30) ∧ (r29 = r1 → Q 1 σ30))) ∧ (¬ r21 = (-75) → ((nI M) ≤ r21 → Q 0 σ25) ∧ (¬ (nI M) ≤ r21 → w_X6_canRaise σ25 (fun r33 σ34 => (¬ r33 = r1 → Q 0 σ34) ∧ (r33 = r1 → Q 1 σ34)))))) ∧ (¬ r1 = 0 → (¬ r24 = (-77) → Q 0 σ25) ∧ (r24 = (-77) → (r21 = (-75) → w_X6_canRaise σ25 (fun r38 σ39 => (¬ r38 = r1 → Q 0 σ39) ∧ (r38 = r1 → Q 1 σ39))) ∧ (¬ r21 = (-75) → ((nI M) ≤ r21 → Q 0 σ25) ∧ (¬ (nI M) ≤ r21 → w_X6_canRaise σ25 (fun r42 σ43 => (¬ r42 = r1 → Q 0 σ43) ∧ (r42 = r1 → Q 1 σ43)))))))) := by
        intro τ2 hR2 r21 h21
        have hF2 := hR2.fr hFs
        have hJ2 := hR2.jo hJs
        have hx2 : fj τ2 = fj σ := hR2.fj.trans hxs
        have lastQ : ∀ τ3, Rf M J τ2 τ3 → w_X6_canRaise τ3 (fun r σ' => (¬ r = r1 → Q 0 σ') ∧ (r = r1 → Q 1 σ')) := fun τ3 hR3 => by
          have hx3 : fj τ3 = fj σ := hR3.fj.trans hx2
          have post : ∀ τ4, Rf M J τ3 τ4 → Q 1 τ4 := fun τ4 hR4 => h τ4 ((((hKρ.tr hKs).tr hR2.1).tr hR3.1).tr hR4.1) hR4.2.1 hR4.2.2.1
          refine s_canRaise (hR3.fr hF2) (hR3.jo hJ2) (fun _ => hR3.2.2.1) (fun τ4 hR4 hc => ?_) (fun τ4 hR4 hc => ?_)
          · rw [hx3] at hc
            rcases hr1 with ⟨_, e⟩ | ⟨e, _⟩
            · exact ⟨fun z => absurd e.symm z, fun _ => post τ4 hR4⟩
            · exact absurd hc e
          · rw [hx3] at hc
            rcases hr1 with ⟨e, _⟩ | ⟨_, e⟩
            · exact absurd e hc
            · exact ⟨fun z => absurd e.symm z, fun _ => post τ4 hR4⟩
        have both : ∀ τ3, Rf M J τ2 τ3 → (r21 = (-75) → w_X6_canRaise τ3 (fun r29 σ30 => (¬ r29 = r1 → Q 0 σ30) ∧ (r29 = r1 → Q 1 σ30))) ∧ (¬ r21 = (-75) → ((nI M) ≤ r21 → Q 0 τ3) ∧ (¬ (nI M) ≤ r21 → w_X6_canRaise τ3 (fun r33 σ34 => (¬ r33 = r1 → Q 0 σ34) ∧ (r33 = r1 → Q 1 σ34)))) := fun τ3 hR3 => by
          refine ⟨fun _ => lastQ τ3 hR3, fun q2 => ⟨fun q3 => ?_, fun _ => lastQ τ3 hR3⟩⟩
          rcases h21 with e | ⟨m, hm, e⟩
          · exact absurd e q2
          · rw [e] at q3
            have := (nI_le2 (by omega) (by omega)).mp q3
            omega
        refine ⟨fun z => absurd z (by decide), fun _ => s_L_raised hF2 hJ2 (fun _ => hR2.2.2.1) (Nat.le_refl M) (fun τ3 _ _ z => absurd z (Nat.lt_irrefl M)) (fun τ3 hR3 hc _ => ?_) (fun τ3 hR3 hc => ?_)⟩
        · rw [hx2] at hc
          rcases hr1 with ⟨_, e⟩ | ⟨e, _⟩
          · exact ⟨fun z => by rw [e] at z; exact absurd z (by decide), fun _ => ⟨fun z => absurd rfl z, fun _ => both τ3 hR3⟩⟩
          · exact absurd hc e
        · rw [hx2] at hc
          rcases hr1 with ⟨e, _⟩ | ⟨_, e⟩
          · exact absurd e hc
          · exact ⟨fun _ => ⟨fun z => absurd rfl z, fun _ => both τ3 hR3⟩, fun z => absurd e z⟩
      exact s_L_stuck hFs hJs hs0 (fun τ2 m hR2 hm => fin τ2 hR2 _ (Or.inr ⟨m, hm, rfl⟩)) (fun τ2 hR2 => fin τ2 hR2 _ (Or.inl rfl))
    · have hlt : n < M := lt_of_nle q (by omega) (by omega)
      have hmu := mu_n hlt (by omega)
      have same : ∀ τ2, Rf M J s τ2 → sdT s n = sdT τ2 n := fun τ2 hR2 => by
        by_cases e : n = 0
        · subst e; rfl
        · rw [hR2.2.2.2 (hsn (by omega))]
      refine s_L_raised hFs hJs hs0 hn (fun τ2 hR2 hc _ => ?_) (fun τ2 _ _ e => by omega) (fun τ2 hR2 hc => ?_)
      · -- an order
        rw [hxs] at hc
        have hr : r1 = 1 := by
          rcases hr1 with ⟨_, e⟩ | ⟨e, _⟩
          · exact e
          · exact absurd hc e
        subst hr
        have hF2 := hR2.fr hFs
        have hJ2 := hR2.jo hJs
        have hx2 : fj τ2 = fj σ := hR2.fj.trans hxs
        obtain ⟨-, c, -, -, -, -, -, ho⟩ := id hR2.2.2.1
        obtain ⟨o, o1, o2, o3⟩ := ho (by rw [hx2]; exact hc)
        obtain ⟨e28, om⟩ := o1 n hlt
        have hst := stn_lt (o := o) (M := M) n (fun j hj => (o1 j (by omega)).2)
        have h512 := p512 hM9
        have hsd : seen = nI (stn o n) := by rw [hseen hc, same τ2 hR2, sdT_stn hM9 o1 n hn]
        intro J47 hJ47
        have good : J47 1 τ2 := by
          refine hJ47 1 τ2 ?_
          rintro _ rfl
          intro J63 hJ63
          refine ⟨fun z => absurd z (by decide), fun _ => hJ63 _ ?_⟩
          rintro _ rfl
          refine ⟨⟨n + 1, by omega, nI_1 n, rfl, hKs.tr hR2.1, fun _ => hR2.2.2.1, fun _ => hR2.2.1, fun _ => ?_, fun z => absurd hc z⟩, hmu⟩
          rw [hseen hc, same τ2 hR2]
          rfl
        rw [e28]
        refine ⟨fun z => absurd z (by decide), fun _ => ⟨fun z => absurd z (nI_pos (by omega)), fun _ => ⟨fun z => ?_, fun _ => ⟨fun z => absurd ?_ z, fun _ => ?_⟩⟩⟩⟩
        · have := (nI_le2 (by omega) (by omega)).mp z
          omega
        · rw [hsd, bit_nI (by omega) (by omega), o2 n hlt]
          rfl
        · refine s_L_props hF2 hJ2 (fun _ => hR2.2.2.1) hlt (fun τ3 k hR3 _ k9 _ => ?_) (fun τ3 _ z => absurd (by rw [hx2]; exact hc) z)
          have e3 : τ3 = τ2 := hR3.2.2.2 hR2.2.1
          subst e3
          refine ⟨fun z => absurd z (nI_pos (by omega)), fun _ => ?_⟩
          refine s_L_props hF2 hJ2 (fun _ => hR2.2.2.1) hlt (fun τ4 k2 hR4 _ k92 kl => ?_) (fun τ4 _ z => absurd (by rw [hx2]; exact hc) z)
          have e4 : τ4 = τ3 := hR4.2.2.2 hR2.2.1
          subst e4
          rw [hR2.1.I 9 rfl, l9s] at kl
          exact ⟨fun z => absurd z (Int32.not_lt.mpr kl), fun _ => good⟩
      · rw [hxs] at hc
        have hr : r1 = 0 := by
          rcases hr1 with ⟨e, _⟩ | ⟨_, e⟩
          · exact absurd e hc
          · exact e
        subst hr
        have hF2 := hR2.fr hFs
        have hJ2 := hR2.jo hJs
        have hx2 : fj τ2 = fj σ := hR2.fj.trans hxs
        intro J47 hJ47
        refine ⟨fun _ => ⟨fun z => absurd rfl z, fun _ => ?_⟩, fun z => absurd rfl z⟩
        refine s_L_props hF2 hJ2 (fun _ => hR2.2.2.1) hlt (fun τ3 _ _ z _ _ => absurd z (by rw [hx2]; exact hc)) (fun τ3 hR3 _ => ⟨fun z => absurd rfl z, fun _ => hJ47 1 τ3 ?_⟩)
        rintro _ rfl
        intro J63 hJ63
        refine ⟨fun _ => hJ63 0 ?_, fun z => absurd rfl z⟩
        rintro _ rfl
        refine ⟨⟨n + 1, by omega, nI_1 n, rfl, (hKs.tr hR2.1).tr hR3.1, fun _ => hR3.2.2.1, fun _ => hR3.2.1, fun z => absurd z hc, fun _ => ?_⟩, hmu⟩
        rw [hseen0 hc]
        rfl
  refine s_canRaise hF hJ h0 (fun τ1 hR1 hc => ?_) (fun τ1 hR1 hc => ?_)
  · intro J3 hJ3
    have hx1 := hR1.fj
    refine s_canTake (hR1.fr hF) (hR1.jo hJ) (fun _ => hR1.2.2.1) (fun τ2 hR2 _ => ?_) (fun τ2 hR2 z => absurd (by rw [hx1]; exact hc) z)
    have e2 : τ2 = τ1 := hR2.2.2.2 hR1.2.1
    subst e2
    refine ⟨fun z => absurd rfl z, fun _ => s_orders (hR1.fr hF) (hR1.jo hJ) (fun _ => hR1.2.2.1) (fun τ3 c hR3 c1 c2 => ?_)⟩
    have e3 : τ3 = τ2 := hR3.2.2.2 hR1.2.1
    subst e3
    have cpos : 0 < c := c2.mpr (by rw [hx1]; exact hc)
    exact ⟨fun z => absurd z (nI_nle cpos (by omega)), fun _ => ⟨fun z => absurd rfl z, fun _ => main 1 τ3 hR1 (Or.inl ⟨hc, rfl⟩) J3 hJ3⟩⟩
  · intro J3 hJ3
    have hx1 := hR1.fj
    refine s_canTake (hR1.fr hF) (hR1.jo hJ) (fun _ => hR1.2.2.1) (fun τ2 hR2 z => absurd z (by rw [hx1]; exact hc)) (fun τ2 hR2 _ => ?_)
    have e2 : τ2 = τ1 := hR2.2.2.2 hR1.2.1
    subst e2
    refine ⟨fun z => absurd rfl z, fun _ => s_orders (hR1.fr hF) (hR1.jo hJ) (fun _ => hR1.2.2.1) (fun τ3 c hR3 c1 c2 => ?_)⟩
    have e3 : τ3 = τ2 := hR3.2.2.2 hR1.2.1
    subst e3
    have c0 : c = 0 := by
      apply Nat.eq_zero_of_not_pos
      intro z
      exact hc (by rw [← hx1]; exact c2.mp z)
    subst c0
    exact ⟨fun _ => ⟨fun z => absurd rfl z, fun _ => main 0 τ3 hR1 (Or.inr ⟨hc, rfl⟩) J3 hJ3⟩, fun z => absurd (Int32.le_refl _) z⟩
end RR
