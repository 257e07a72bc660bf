/-! loops that count -/
theorem le_end {a b : Nat} (h : nI a ≤ nI b) (hb : b ≤ a) (ha : a < 2147483648) : b = a := by
  have := (nI_le2 ha (by omega)).mp h
  omega
theorem lt_of_nle {a b : Nat} (h : ¬ nI a ≤ nI b) (ha : a < 2147483648) (hb : b < 2147483648) : b < a := by
  apply Nat.lt_of_not_le
  exact fun z => h ((nI_le2 ha hb).mpr z)
theorem mu_n {K p : Nat} (h : p < K) (hK : K < 1000000) : ((K : Int) - (nI p + 1).toInt).toNat < ((K : Int) - (nI p).toInt).toNat := by
  rw [nI_1, nI_ti (by omega), nI_ti (by omega)]
  omega
/-! the rows: the places that nothing bears -/
def bT (σ : Sg) (p : Nat) : Bool := decide (gA σ 3 (p / 2) = 112) || (decide (gA σ 3 (p / 2) = 114) && decide (p % 2 = 1))
theorem bT_iff (σ : Sg) (p : Nat) : (gA σ 3 (p / 2) = 112 ∨ gA σ 3 (p / 2) = 114 ∧ p % 2 = 1) ↔ bT σ p = true := by
  unfold bT
  rw [Bool.or_eq_true, Bool.and_eq_true, decide_eq_true_iff, decide_eq_true_iff, decide_eq_true_iff]
theorem s_bT {p : Nat} {σ : Sg} {Q : Int32 → Prop} (hp : p < 16) (h : Q (if bT σ p = true then 1 else 0)) : w_X2_isBorne (nI (p / 2)) (nI (p % 2)) σ Q := by
  refine s_borne (by omega) (Nat.mod_lt _ (by decide)) ?_
  by_cases hb : bT σ p = true
  · rw [if_pos ((bT_iff σ p).mpr hb)]
    rwa [if_pos hb] at h
  · rw [if_neg (fun z => hb ((bT_iff σ p).mp z))]
    rwa [if_neg hb] at h
theorem bT_congr {σ τ : Sg} (h : gA τ 3 = gA σ 3) : bT τ = bT σ := by
  funext p; unfold bT; rw [h]
def rb (σ : Sg) : Nat → Nat
  | 0 => 0
  | p + 1 => rb σ p + (if bT σ p = true then 0 else 1)
theorem rb_s (σ : Sg) (p : Nat) : rb σ (p + 1) = rb σ p + (if bT σ p = true then 0 else 1) := rfl
theorem rb_y {σ : Sg} {p : Nat} (h : bT σ p = true) : rb σ (p + 1) = rb σ p := by rw [rb_s, if_pos h]; rfl
theorem rb_n {σ : Sg} {p : Nat} (h : bT σ p = false) : rb σ (p + 1) = rb σ p + 1 := by rw [rb_s, h]; rfl
theorem rb_congr {σ τ : Sg} (h : gA τ 3 = gA σ 3) : rb τ = rb σ := by
  funext p
  induction p with
  | zero => rfl
  | succ p ih => rw [rb_s, rb_s, ih, bT_congr h]
theorem rb_step (σ : Sg) (p : Nat) : rb σ p ≤ rb σ (p + 1) ∧ rb σ (p + 1) ≤ rb σ p + 1 := by
  rw [rb_s]; split <;> omega
theorem rb_le {σ : Sg} {p : Nat} : ∀ d, rb σ p ≤ rb σ (p + d) ∧ rb σ (p + d) ≤ rb σ p + d := by
  intro d
  induction d with
  | zero => exact ⟨Nat.le_refl _, Nat.le_refl _⟩
  | succ d ih =>
    have := rb_step σ (p + d)
    rw [← Nat.add_assoc]
    omega
theorem rb_mono {σ : Sg} {p q : Nat} (h : p ≤ q) : rb σ p ≤ rb σ q := by
  have := (rb_le (σ := σ) (p := p) (q - p)).1
  rwa [show p + (q - p) = q by omega] at this
theorem rb_lt {σ : Sg} {p q : Nat} (h : p < q) (hb : bT σ p = false) : rb σ p < rb σ q := by
  have h1 := rb_n hb
  have h2 := rb_mono (σ := σ) (show p + 1 ≤ q from h)
  omega
theorem rb_sur {σ : Sg} {r : Nat} : ∀ P, r < rb σ P → ∃ q, q < P ∧ bT σ q = false ∧ rb σ q = r := by
  intro P
  induction P with
  | zero => intro h; exact absurd h (Nat.not_lt_zero _)
  | succ P ih =>
    intro h
    by_cases h2 : r < rb σ P
    · obtain ⟨q, q1, q2⟩ := ih h2
      exact ⟨q, by omega, q2⟩
    · cases hb : bT σ P
      · rw [rb_n hb] at h
        exact ⟨P, Nat.lt_succ_self _, hb, by omega⟩
      · rw [rb_y hb] at h
        omega
theorem rb_7 {N M T : Nat} {σ : Sg} (hF : Fr N M T σ) (hN : 2 ≤ N) : rb σ (2 * N) ≤ 7 ∧ 1 ≤ rb σ (2 * N) := by
  obtain ⟨-, -, hN5, -, -, -, ⟨k0, k1⟩, -⟩ := hF
  have e0 := k0 (by omega)
  have e1 := k1 (by omega)
  have b0 : bT σ 0 = true := (bT_iff σ 0).mp (Or.inl e0)
  have b1 : bT σ 1 = true := (bT_iff σ 1).mp (Or.inl e0)
  have b3 : bT σ 3 = true := (bT_iff σ 3).mp (Or.inr ⟨e1, rfl⟩)
  have b2 : bT σ 2 = false := by
    cases hb : bT σ 2
    · rfl
    · rcases (bT_iff σ 2).mpr hb with q | ⟨-, q⟩
      · have q' : gA σ 3 1 = 112 := q
        rw [e1] at q'
        exact absurd q' (by decide)
      · exact absurd q (by decide)
  have r1 : rb σ 1 = 0 := rb_y b0
  have r2 : rb σ 2 = rb σ 1 := rb_y b1
  have r3 : rb σ 3 = rb σ 2 + 1 := rb_n b2
  have r4 : rb σ 4 = rb σ 3 := rb_y b3
  have h1 := rb_le (σ := σ) (p := 4) (2 * N - 4)
  rw [show 4 + (2 * N - 4) = 2 * N by omega] at h1
  rw [r4, r3, r2, r1] at h1
  omega
def RowsOK (σ : Sg) (M p : Nat) (τ : Sg) : Prop :=
  ∀ q, q < p → bT σ q = false → (∀ m, m < M → gA τ 10 (9 * rb σ q + m) = wayT σ m (q / 2) (q % 2)) ∧ gA τ 11 (rb σ q) = iShr (-(gA σ 1 q)) 8 ∧ gA τ 12 (rb σ q) = (-(gA σ 1 q)) &&& 255
theorem two_nI (N : Nat) : (2 : Int32) * nI N = nI (2 * N) := pk_mul 2 N
theorem half_nI {p : Nat} (h : p < 2147483648) : nI p / 2 = nI (p / 2) := div_nI (d := 2) h (by decide) (by decide)
theorem odd_nI {p : Nat} (h : p < 2147483648) : iRem (nI p) 2 = nI (p % 2) := rem_nI (d := 2) h (by decide) (by decide)
theorem s_fillRows {N M T : Nat} {σ : Sg} {Q : Sg → Prop} (hF : Fr N M T σ) (hN : 2 ≤ N) (h : ∀ τ, Kp [] [] [10, 11, 12] [] σ τ → RowsOK σ M (2 * N) τ → Q τ) : w_X1_fillRows σ Q := by
  have hN5 : N ≤ 5 := hF.2.2.1
  have hM9 : M ≤ 9 := hF.2.2.2.1
  have h7 := (rb_7 hF hN).1
  unfold w_X1_fillRows
  refine ⟨fun row i σ1 => ∃ p : Nat, p ≤ 2 * N ∧ i = nI p ∧ row = nI (rb σ p) ∧ Kp [] [] [10, 11, 12] [] σ σ1 ∧ RowsOK σ M p σ1, fun _ i _ => (((2 * N : Nat) : Int) - i.toInt).toNat, ⟨0, Nat.zero_le _, rfl, rfl, Kp.rf, fun q hq => absurd hq (Nat.not_lt_zero _)⟩, ?_⟩
  rintro _ _ σ1 ⟨p, hp, rfl, rfl, hK, hR⟩
  have e0 : gI σ1 0 = nI N := (hK.I 0 rfl).trans hF.1
  have hrp := rb_mono (σ := σ) hp
  rw [e0, two_nI]
  refine ⟨fun q => ?_, fun q => ⟨fun q2 => ?_, fun q2 => ?_⟩⟩
  · have := le_end q hp (by omega)
    subst this
    exact h σ1 hK hR
  · have := (nI_le2 (a := 9) (b := rb σ p) (by decide) (by omega)).mp q2
    omega
  · have hlt : p < 2 * N := lt_of_nle q (by omega) (by omega)
    rintro _ rfl
    rintro _ rfl
    rw [half_nI (by omega), odd_nI (by omega)]
    refine s_bT (by omega) ?_
    rw [bT_congr (hK.A 3 rfl)]
    have hmu := mu_n hlt (by omega)
    cases hbb : bT σ p
    · rw [if_neg Bool.false_ne_true]
      refine ⟨fun _ => ?_, fun q3 => absurd rfl q3⟩
      refine ⟨fun i σ8 => ∃ m : Nat, m ≤ M ∧ i = nI m ∧ Kp [] [] [10] [] σ1 σ8 ∧ (∀ j, j < 9 * rb σ p → gA σ8 10 j = gA σ1 10 j) ∧ ∀ m', m' < m → gA σ8 10 (9 * rb σ p + m') = wayT σ m' (p / 2) (p % 2), fun i _ => ((M : Int) - i.toInt).toNat, ⟨0, Nat.zero_le _, rfl, Kp.rf, fun _ _ => rfl, fun m' hm' => absurd hm' (Nat.not_lt_zero _)⟩, ?_⟩
      rintro _ σ8 ⟨m, hm, rfl, hK8, hlo, hrow⟩
      have hK18 : Kp [] [] [10, 11, 12] [] σ σ8 := hK.tr (hK8.mo rfl rfl rfl rfl)
      have e1 : gI σ8 1 = nI M := (hK18.I 1 rfl).trans hF.2.1
      rw [e1]
      refine ⟨fun q3 => ?_, fun q3 => ?_⟩
      · have := le_end q3 hm (by omega)
        subst this
        rw [ixn (a := p) (by omega), ixn (a := rb σ p) (by omega)]
        refine ⟨in_nI (by omega) (by decide), in_nI (by omega) (by decide), ?_⟩
        rintro _ rfl
        refine ⟨in_nI (by omega) (by decide), in_nI (by omega) (by decide), ?_⟩
        rintro _ rfl
        refine ⟨⟨p + 1, by omega, nI_1 p, by rw [rb_n hbb, nI_1], (hK18.sA rfl).sA rfl, ?_⟩, hmu⟩
        have hL : gA σ8 1 = gA σ 1 := hK18.A 1 rfl
        intro q hq hbq
        by_cases e : q = p
        · subst e
          refine ⟨fun m' hm' => ?_, ?_, ?_⟩
          · rw [gA_sA, if_neg (by decide), gA_sA, if_neg (by decide)]
            exact hrow m' hm'
          · rw [gA_sA, if_neg (by decide), gA_sA, if_pos rfl, upd_ap, if_pos rfl, hL]
          · rw [gA_sA, if_pos rfl, upd_ap, if_pos rfl, gA_sA, if_neg (by decide), hL]
        · have hr := rb_lt (show q < p by omega) hbq
          obtain ⟨f1, f2, f3⟩ := hR q (by omega) hbq
          refine ⟨fun m' hm' => ?_, ?_, ?_⟩
          · rw [gA_sA, if_neg (by decide), gA_sA, if_neg (by decide), hlo _ (by omega)]
            exact f1 m' hm'
          · rw [gA_sA, if_neg (by decide), gA_sA, if_pos rfl, upd_ap, if_neg (by omega), hK8.A 11 rfl]
            exact f2
          · rw [gA_sA, if_pos rfl, upd_ap, if_neg (by omega), gA_sA, if_neg (by decide), hK8.A 12 rfl]
            exact f3
      · have hmlt : m < M := lt_of_nle q3 (by omega) (by omega)
        have hF8 : Fr N M T σ8 := hF.congr (hK18.I 0 rfl) (hK18.I 1 rfl) (fun k hk => hK18.A k (by
          rcases (show k = 0 ∨ k = 1 ∨ k = 2 ∨ k = 3 ∨ k = 4 ∨ k = 5 ∨ k = 6 ∨ k = 7 ∨ k = 8 ∨ k = 9 by omega) with e | e | e | e | e | e | e | e | e | e <;> subst e <;> rfl))
        refine s_wayAlong hF8 hmlt (by omega) (Nat.mod_lt _ (by decide)) ?_
        have ei : (nI (rb σ p) * 9) + nI m = nI (9 * rb σ p + m) := by
          show nI (rb σ p) * nI 9 + nI m = _
          rw [pk_mul, nI_add, Nat.mul_comm]
        rw [ei, ixn (by omega)]
        refine ⟨in_nI (by omega) (by decide), ?_⟩
        rintro _ rfl
        refine ⟨⟨m + 1, by omega, nI_1 m, hK8.sA rfl, fun j hj => ?_, fun m' hm' => ?_⟩, mu_n hmlt (by omega)⟩
        · rw [gA_sA, if_pos rfl, upd_ap, if_neg (by omega)]
          exact hlo j hj
        · rw [gA_sA, if_pos rfl, upd_ap]
          by_cases e : m' = m
          · subst e
            rw [if_pos rfl]
            exact wayT_congr (hK18.A 0 rfl) (hK18.A 4 rfl) (hK18.A 5 rfl) _ _ _
          · rw [if_neg (by omega)]
            exact hrow m' (by omega)
    · rw [if_pos rfl]
      refine ⟨fun q3 => absurd q3 (by decide), fun _ => ⟨⟨p + 1, by omega, nI_1 p, by rw [rb_y hbb], hK, fun q hq hbq => hR q ?_ hbq⟩, hmu⟩⟩
      by_cases e : q = p
      · rw [e, hbb] at hbq; exact Bool.noConfusion hbq
      · omega
/-! one expansion along the last row -/
def exW (t : Nat) (p2 p3 : Int32) (σ : Sg) (Q : Int64 → Prop) : Prop :=
  ∃ (I1 : Int64 → Int64 → Int32 → Prop) (μ1 : Int64 → Int64 → Int32 → Nat), I1 0 1 8 ∧ ∀ (i4_1 : Int64) (i6_1 : Int64) (i8_1 : Int32), I1 i4_1 i6_1 i8_1 → (i8_1 < 0 → Q i4_1) ∧ (¬ i8_1 < 0 → (((iShr p2 i8_1) &&& 1) = 0 → I1 i4_1 i6_1 (i8_1 + (-1)) ∧ μ1 i4_1 i6_1 (i8_1 + (-1)) < μ1 i4_1 i6_1 i8_1) ∧ (¬ ((iShr p2 i8_1) &&& 1) = 0 → vp_in ((p3 * 9) + i8_1) 81 ∧ vp_in (p2 ^^^ (iShl 1 i8_1)) 512 ∧ ∀ v6 : Int64, v6 = i4_1 + ((i6_1 * ((gA σ 10 (ix ((p3 * 9) + i8_1))).toInt64)) * (gB σ t (ix (p2 ^^^ (iShl 1 i8_1))))) → ∀ v7 : Int64, v7 = -i6_1 → I1 v6 v7 (i8_1 + (-1)) ∧ μ1 v6 v7 (i8_1 + (-1)) < μ1 i4_1 i6_1 i8_1))
theorem exW_19 : w_X1_expanded_19 = exW 3 := rfl
theorem exW_20 : w_X1_expanded_20 = exW 4 := rfl
theorem exW_21 : w_X1_expanded_21 = exW 5 := rfl
theorem bit_nI {S c : Nat} (hS : S < 2147483648) (hc : c < 31) : (iShr (nI S) (nI c)) &&& 1 = nI (if S.testBit c = true then 1 else 0) := by
  rw [shr_nI hc hS]
  show nI (S / 2 ^ c) &&& nI 1 = _
  rw [nI_and, Nat.and_one_is_mod]
  congr 1
  rw [Nat.testBit_eq_decide_div_mod_eq]
  have := Nat.mod_two_eq_zero_or_one (S / 2 ^ c)
  rcases this with e | e <;> rw [e] <;> rfl
theorem xor_lt9 {S c : Nat} (hS : S < 512) (hc : c < 9) : S ^^^ 2 ^ c < 512 :=
  Nat.xor_lt_two_pow (n := 9) hS (Nat.pow_lt_pow_right (by decide) hc)
theorem s_ex {S k t : Nat} {σ : Sg} {Q : Int64 → Prop} {w D : Nat → Int} {B : Int} (hS : S < 512) (hk : k < 9) (hB0 : 0 ≤ B) (hB : B ≤ 20000000000000000)
    (hw : ∀ m, m < 9 → S.testBit m = true → (gA σ 10 (9 * k + m)).toInt = w m ∧ -24 ≤ w m ∧ w m ≤ 24)
    (hD : ∀ m, m < 9 → S.testBit m = true → (gB σ t (S ^^^ 2 ^ m)).toInt = D (S ^^^ 2 ^ m) ∧ -B ≤ D (S ^^^ 2 ^ m) ∧ D (S ^^^ 2 ^ m) ≤ B)
    (h : ∀ r : Int64, r.toInt = exN w D S 9 1 → Q r) : exW t (nI S) (nI k) σ Q := by
  unfold exW
  obtain ⟨E, hE⟩ : ∃ E : Int, E = exN w D S 9 1 := ⟨_, rfl⟩
  rw [← hE] at h
  refine ⟨fun sum s i => ∃ c : Nat, c ≤ 9 ∧ i = nI c + (-1) ∧ (s.toInt = 1 ∨ s.toInt = -1) ∧ sum.toInt + exN w D S c s.toInt = E ∧ -((9 - (c : Int)) * (24 * B)) ≤ sum.toInt ∧ sum.toInt ≤ (9 - (c : Int)) * (24 * B), fun _ _ i => (i.toInt + 1).toNat, ⟨9, Nat.le_refl _, by decide, Or.inl rfl, ?_, ?_, ?_⟩, ?_⟩
  · have e1 : (1 : Int64).toInt = 1 := rfl
    have e0 : (0 : Int64).toInt = 0 := rfl
    rw [e0, e1, Int.zero_add]
    exact hE.symm
  · show -((9 - ((9 : Nat) : Int)) * (24 * B)) ≤ 0
    rw [show (9 - ((9 : Nat) : Int)) = 0 from rfl, Int.zero_mul]; decide
  · show 0 ≤ (9 - ((9 : Nat) : Int)) * (24 * B)
    rw [show (9 - ((9 : Nat) : Int)) = 0 from rfl, Int.zero_mul]; decide
  clear hE
  rintro sum s _ ⟨c, hc, rfl, hs, hsum, hb1, hb2⟩
  cases c with
  | zero =>
    refine ⟨fun _ => h _ ?_, fun q => absurd (by decide) q⟩
    have e : exN w D S 0 s.toInt = 0 := rfl
    rw [e] at hsum
    omega
  | succ c =>
    rw [pk_m1]
    refine ⟨fun q => absurd q (nI_pos (by omega)), fun _ => ?_⟩
    have hmu : ((nI c + (-1)).toInt + 1).toNat < ((nI c).toInt + 1).toNat := by
      cases c with
      | zero => decide
      | succ c => rw [pk_m1, nI_ti (by omega), nI_ti (by omega)]; omega
    have eb : ((9 : Int) - ((c + 1 : Nat) : Int)) * (24 * B) + 24 * B = (9 - (c : Int)) * (24 * B) := by
      rw [nc1, Int.sub_mul, Int.sub_mul, Int.add_mul]
      omega
    have hB9 : (9 - (c : Int)) * (24 * B) ≤ 9 * (24 * B) := Int.mul_le_mul_of_nonneg_right (by omega) (by omega)
    rw [bit_nI (by omega) (by omega)]
    cases hbit : S.testBit c
    · rw [if_neg Bool.false_ne_true]
      refine ⟨fun _ => ⟨⟨c, by omega, rfl, hs, ?_, by omega, by omega⟩, hmu⟩, fun q => absurd rfl q⟩
      rw [← hsum]
      show _ = sum.toInt + (if S.testBit c = true then s.toInt * w c * D (S ^^^ 2 ^ c) + exN w D S c (-s.toInt) else exN w D S c s.toInt)
      rw [hbit]; rfl
    · rw [if_pos rfl]
      refine ⟨fun q => absurd q (by decide), fun _ => ?_⟩
      have ei : (nI k * 9) + nI c = nI (9 * k + c) := by
        show nI k * nI 9 + nI c = _
        rw [pk_mul, nI_add, Nat.mul_comm]
      have hx := xor_lt9 hS (show c < 9 by omega)
      rw [ei, shl_1 (by omega), nI_xor, ixn (by omega), ixn (by omega)]
      refine ⟨in_nI (by omega) (by decide), in_nI hx (by decide), ?_⟩
      obtain ⟨w1, w2, w3⟩ := hw c (by omega) hbit
      obtain ⟨d1, d2, d3⟩ := hD c (by omega) hbit
      have hway : ((gA σ 10 (9 * k + c)).toInt64).toInt = w c := by rw [Int32.toInt_toInt64]; exact w1
      have hsw : -24 ≤ s.toInt * w c ∧ s.toInt * w c ≤ 24 := by
        rcases hs with e | e <;> rw [e] <;> omega
      have hm1 : (s * (gA σ 10 (9 * k + c)).toInt64).toInt = s.toInt * w c := l_mul rfl hway hsw (by decide)
      have hsd := mul_bd hsw ⟨d2, d3⟩ (by decide) hB0
      have hm2 : (s * (gA σ 10 (9 * k + c)).toInt64 * gB σ t (S ^^^ 2 ^ c)).toInt = s.toInt * w c * D (S ^^^ 2 ^ c) := l_mul hm1 d1 hsd (by omega)
      rintro _ rfl
      rintro _ rfl
      have hneg : (-s).toInt = -s.toInt := li_neg s (by rcases hs with e | e <;> rw [e] <;> decide)
      have hs' : (-s).toInt = 1 ∨ (-s).toInt = -1 := by
        rw [hneg]
        rcases hs with e | e
        · exact Or.inr (congrArg Neg.neg e)
        · exact Or.inl ((congrArg Neg.neg e).trans rfl)
      have hadd : (sum + s * (gA σ 10 (9 * k + c)).toInt64 * gB σ t (S ^^^ 2 ^ c)).toInt = sum.toInt + s.toInt * w c * D (S ^^^ 2 ^ c) := l_add rfl hm2 (by omega)
      refine ⟨⟨c, by omega, rfl, hs', ?_, by rw [hadd]; omega, by rw [hadd]; omega⟩, hmu⟩
      rw [hadd, hneg, ← hsum]
      have e : exN w D S (c + 1) s.toInt = s.toInt * w c * D (S ^^^ 2 ^ c) + exN w D S c (-s.toInt) := by
        show (if S.testBit c = true then s.toInt * w c * D (S ^^^ 2 ^ c) + exN w D S c (-s.toInt) else exN w D S c s.toInt) = _
        rw [hbit]; rfl
      rw [e]
      omega
