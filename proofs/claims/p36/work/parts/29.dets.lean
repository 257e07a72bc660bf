/-! all determinants -/
theorem bc_all : ∀ S, S < 512 → bcT (nI S) = nI (pc S) := by decide +kernel
theorem s_bitCount {p : Int32} {σ : Sg} {Q : Int32 → Prop} (h : Q (bcT p)) : w_J6_bitCount_0f7a4 p σ Q := by
  unfold w_J6_bitCount_0f7a4
  rintro _ rfl
  rintro _ rfl
  rintro _ rfl
  rintro _ rfl
  rintro _ rfl
  exact h
theorem pcn_le (S : Nat) : ∀ n, pcn S n ≤ n := by
  intro n
  induction n with
  | zero => exact Nat.le_refl _
  | succ n ih =>
    show pcn S n + (if S.testBit n = true then 1 else 0) ≤ n + 1
    split <;> omega
theorem pc_s1 : ∀ n, n < 8 → ∀ S, S < 128 → S < 2 ^ n → pc S ≤ n := by decide +kernel
theorem pc_s2 : ∀ S, S < 128 → 0 < S → 0 < pc S := by decide +kernel
theorem pc_s3 : ∀ S, S < 128 → ∀ m, m < 9 → S.testBit m = true → S ^^^ 2 ^ m < S := by decide +kernel
theorem p128 {n : Nat} (hn : n < 8) : 2 ^ n ≤ 128 := Nat.pow_le_pow_right (n := 2) (by decide) (show n ≤ 7 by omega)
theorem pc_small (n : Nat) (hn : n < 8) (S : Nat) (hS : S < 2 ^ n) : pc S ≤ n ∧ (0 < S → 0 < pc S) ∧ ∀ m, m < 9 → S.testBit m = true → m < n ∧ S ^^^ 2 ^ m < S := by
  have h := p128 hn
  refine ⟨pc_s1 n hn S (by omega) hS, pc_s2 S (by omega), fun m hm hb => ⟨?_, pc_s3 S (by omega) m hm hb⟩⟩
  apply Nat.lt_of_not_le
  intro hle
  have : S < 2 ^ m := Nat.lt_of_lt_of_le hS (Nat.pow_le_pow_right (by decide) hle)
  rw [Nat.testBit_lt_two_pow this] at hb
  exact Bool.noConfusion hb
theorem bd_le : ∀ k : Nat, k < 8 → bd k ≤ 23115815976960 := by decide +kernel
theorem bd_le2 : ∀ k : Nat, k < 7 → ((k : Int) + 1) * bd k ≤ 963158999040 := by decide +kernel
/-- the tables up to a set -/
def Tab (w : Nat → Nat → Int) (a b : Nat → Int) (n P : Nat) (τ : Sg) : Prop :=
  ∀ S, S < P → (gB τ 3 S).toInt = dt w (pc S) S ∧ (pc S < n → (gB τ 4 S).toInt = fs w a (pc S) S ∧ (gB τ 5 S).toInt = fs w b (pc S) S)
theorem fs_exN (w : Nat → Nat → Int) (a : Nat → Int) (S : Nat) (hS : S < 128) (D : Nat → Int) (hD : 0 < pc S → ∀ m, D m = fs w a (pc S - 1) m) :
    fs w a (pc S) S = a (pc S) * dt w (pc S) S - exN (w (pc S)) D S 9 1 := by
  rw [exN_e]
  by_cases h : 0 < pc S
  · obtain ⟨k, hk⟩ : ∃ k, pc S = k + 1 := ⟨pc S - 1, by omega⟩
    have hD := hD h
    rw [hk] at hD ⊢
    rw [fs_s]
    congr 1
    exact sm_congr (fun m _ => by rw [hD]; rfl)
  · have e0 : pc S = 0 := by omega
    have es : S = 0 := (d128 S hS).2.2.2.2.2 e0
    subst es
    rw [sm_zero (f := fun m => eS 0 m * w (pc 0) m * D (0 ^^^ 2 ^ m)) (fun m _ => by rw [eS_no (Nat.zero_testBit m), Int.zero_mul, Int.zero_mul]), Int.sub_zero, e0]
    show a 0 = a 0 * 1
    rw [Int.mul_one]
theorem s_dets {n : Nat} {σ : Sg} {Q : Sg → Prop} {w : Nat → Nat → Int} {a b : Nat → Int} (hn : n < 8)
    (hw : ∀ r m, -24 ≤ w r m ∧ w r m ≤ 24) (ha : ∀ r, -5 ≤ a r ∧ a r ≤ 5) (hb : ∀ r, -255 ≤ b r ∧ b r ≤ 255)
    (gw : ∀ r m, r < n → m < n → (gA σ 10 (9 * r + m)).toInt = w r m) (ga : ∀ r, r < n → (gA σ 11 r).toInt = a r ∧ (gA σ 12 r).toInt = b r)
    (h : ∀ τ, Kp [] [] [] [3, 4, 5] σ τ → Tab w a b n (2 ^ n) τ → Q τ) : w_X1_findDeterminants (nI n) σ Q := by
  have h128 := p128 hn
  unfold w_X1_findDeterminants
  refine ⟨fun i σ1 => ∃ S : Nat, S ≤ 2 ^ n ∧ i = nI S ∧ Kp [] [] [] [3, 4, 5] σ σ1 ∧ Tab w a b n S σ1, fun i _ => (((2 ^ n : Nat) : Int) - i.toInt).toNat, ⟨0, Nat.zero_le _, rfl, Kp.rf, fun S hS => absurd hS (Nat.not_lt_zero _)⟩, ?_⟩
  rintro _ σ1 ⟨S, hS, rfl, hK, hT⟩
  rw [shl_1 (by omega)]
  refine ⟨fun q => ?_, fun q => ?_⟩
  · have := le_end q hS (by omega)
    subst this
    exact h σ1 hK hT
  · have hlt : S < 2 ^ n := lt_of_nle q (by omega) (by omega)
    have hS1 : S < 128 := by omega
    have hmu := mu_n hlt (by omega)
    obtain ⟨hp1, hp2, hp3⟩ := pc_small n hn S hlt
    refine s_bitCount ?_
    rw [bc_all S (by omega)]
    have tail : ∀ σ7, Kp [] [] [] [3, 4, 5] σ σ7 → Tab w a b n S σ7 → (gB σ7 3 S).toInt = dt w (pc S) S →
        (nI n ≤ nI (pc S) → (∃ S' : Nat, S' ≤ 2 ^ n ∧ nI S + 1 = nI S' ∧ Kp [] [] [] [3, 4, 5] σ σ7 ∧ Tab w a b n S' σ7) ∧ (((2 ^ n : Nat) : Int) - (nI S + 1).toInt).toNat < (((2 ^ n : Nat) : Int) - (nI S).toInt).toNat) ∧
        (¬ nI n ≤ nI (pc S) → vp_in (nI (pc S)) 9 ∧ vp_in (nI S) 512 ∧ w_X1_expanded_20 (nI S) (nI (pc S)) σ7 (fun r11 => vp_in (nI S) 512 ∧ ∀ σ13 : Sg, σ13 = sB σ7 4 (ix (nI S)) ((((gA σ7 11 (ix (nI (pc S)))).toInt64) * (gB σ7 3 (ix (nI S)))) - r11) → vp_in (nI (pc S)) 9 ∧ vp_in (nI S) 512 ∧ w_X1_expanded_21 (nI S) (nI (pc S)) σ13 (fun r16 => vp_in (nI S) 512 ∧ ∀ σ18 : Sg, σ18 = sB σ13 5 (ix (nI S)) ((((gA σ13 12 (ix (nI (pc S)))).toInt64) * (gB σ13 3 (ix (nI S)))) - r16) →
          (∃ S' : Nat, S' ≤ 2 ^ n ∧ nI S + 1 = nI S' ∧ Kp [] [] [] [3, 4, 5] σ σ18 ∧ Tab w a b n S' σ18) ∧ (((2 ^ n : Nat) : Int) - (nI S + 1).toInt).toNat < (((2 ^ n : Nat) : Int) - (nI S).toInt).toNat))) := by
      intro σ7 hK7 hT7 h3
      refine ⟨fun q2 => ⟨⟨S + 1, by omega, nI_1 S, hK7, fun S' hS' => ?_⟩, hmu⟩, fun q2 => ?_⟩
      · have hnp := (nI_le2 (by omega) (by omega)).mp q2
        by_cases e : S' = S
        · subst e
          exact ⟨h3, fun z => by omega⟩
        · exact hT7 S' (by omega)
      · have hnp : pc S < n := lt_of_nle q2 (by omega) (by omega)
        have hpb : ∀ m, m < 9 → S.testBit m = true → 0 < pc S ∧ pc (S ^^^ 2 ^ m) = pc S - 1 ∧ S ^^^ 2 ^ m < S := fun m hm hbm => by
          have h1 := (hp3 m hm hbm).1
          have h2 := pc_x S hS1 m (by omega) hbm
          exact ⟨by omega, by omega, (hp3 m hm hbm).2⟩
        have hgw : ∀ τ, gA τ 10 = gA σ 10 → ∀ m, m < 9 → S.testBit m = true → (gA τ 10 (9 * pc S + m)).toInt = w (pc S) m ∧ -24 ≤ w (pc S) m ∧ w (pc S) m ≤ 24 := fun τ e m hm hbm => by
          rw [e]
          exact ⟨gw _ _ hnp (hp3 m hm hbm).1, hw _ _⟩
        have hin9 : vp_in (nI (pc S)) 9 := in_nI (by omega) (by decide)
        have hin5 : vp_in (nI S) 512 := in_nI (by omega) (by decide)
        have hdt := dt_bd w hw (pc S) S hS1 rfl
        have hbd := bd_le (pc S) (by omega)
        have hbd2 := bd_le2 (pc S) (by omega)
        rw [ixn (a := S) (by omega), ixn (a := pc S) (by omega)]
        refine ⟨hin9, hin5, ?_⟩
        rw [exW_20]
        have hfa : ∀ m, m < 9 → S.testBit m = true → -5000000000000 ≤ fs w a (pc S - 1) (S ^^^ 2 ^ m) ∧ fs w a (pc S - 1) (S ^^^ 2 ^ m) ≤ 5000000000000 := fun m hm hbm => by
          obtain ⟨f1, f2, f3⟩ := hpb m hm hbm
          have g1 := fs_bd w a 5 (by decide) hw ha (pc S - 1) (S ^^^ 2 ^ m) (by omega) f2
          have g2 := bd_le2 (pc S - 1) (by omega)
          omega
        have hfb : ∀ m, m < 9 → S.testBit m = true → -250000000000000 ≤ fs w b (pc S - 1) (S ^^^ 2 ^ m) ∧ fs w b (pc S - 1) (S ^^^ 2 ^ m) ≤ 250000000000000 := fun m hm hbm => by
          obtain ⟨f1, f2, f3⟩ := hpb m hm hbm
          have g1 := fs_bd w b 255 (by decide) hw hb (pc S - 1) (S ^^^ 2 ^ m) (by omega) f2
          have g2 := bd_le2 (pc S - 1) (by omega)
          omega
        have hfas := fs_bd w a 5 (by decide) hw ha (pc S) S hS1 rfl
        have hfbs := fs_bd w b 255 (by decide) hw hb (pc S) S hS1 rfl
        have h4 := fs_exN w a S hS1 (fun m => fs w a (pc S - 1) m) (fun _ _ => rfl)
        have h5 := fs_exN w b S hS1 (fun m => fs w b (pc S - 1) m) (fun _ _ => rfl)
        refine s_ex (w := w (pc S)) (D := fun m => fs w a (pc S - 1) m) (B := 5000000000000) (by omega) (by omega) (by decide) (by decide) (hgw σ7 (hK7.A 10 rfl)) (fun m hm hbm => ?_) (fun r hr => ⟨hin5, ?_⟩)
        · obtain ⟨f1, f2, f3⟩ := hpb m hm hbm
          have t1 := ((hT7 _ f3).2 (by omega)).1
          rw [f2] at t1
          exact ⟨t1, hfa m hm hbm⟩
        rintro _ rfl
        have ea : ((gA σ7 11 (pc S)).toInt64 * gB σ7 3 S - r).toInt = fs w a (pc S) S := by
          have m1 : ((gA σ7 11 (pc S)).toInt64).toInt = a (pc S) := by
            rw [Int32.toInt_toInt64, hK7.A 11 rfl]; exact (ga _ hnp).1
          have m2 := mul_bd (ha (pc S)) hdt (by decide) (bd_pos _)
          rw [l_sub (l_mul m1 h3 m2 (by omega)) hr (by rw [← h4]; omega), h4]
        refine ⟨hin9, hin5, ?_⟩
        rw [exW_21]
        refine s_ex (w := w (pc S)) (D := fun m => fs w b (pc S - 1) m) (B := 250000000000000) (by omega) (by omega) (by decide) (by decide) (hgw _ (hK7.A 10 rfl)) (fun m hm hbm => ?_) (fun r2 hr2 => ⟨hin5, ?_⟩)
        · obtain ⟨f1, f2, f3⟩ := hpb m hm hbm
          have t1 := ((hT7 _ f3).2 (by omega)).2
          rw [f2] at t1
          rw [gB_sB, if_neg (by decide)]
          exact ⟨t1, hfb m hm hbm⟩
        rintro _ rfl
        have eb : ((gA (sB σ7 4 S ((gA σ7 11 (pc S)).toInt64 * gB σ7 3 S - r)) 12 (pc S)).toInt64 * gB (sB σ7 4 S ((gA σ7 11 (pc S)).toInt64 * gB σ7 3 S - r)) 3 S - r2).toInt = fs w b (pc S) S := by
          have m1 : ((gA σ7 12 (pc S)).toInt64).toInt = b (pc S) := by
            rw [Int32.toInt_toInt64, hK7.A 12 rfl]; exact (ga _ hnp).2
          have m2 := mul_bd (hb (pc S)) hdt (by decide) (bd_pos _)
          rw [gB_sB, if_neg (by decide), gA_sB]
          rw [l_sub (l_mul m1 h3 m2 (by omega)) hr2 (by rw [← h5]; omega), h5]
        refine ⟨⟨S + 1, by omega, nI_1 S, (hK7.sB rfl).sB rfl, fun S' hS' => ?_⟩, hmu⟩
        by_cases e : S' = S
        · subst e
          refine ⟨?_, fun _ => ⟨?_, ?_⟩⟩
          · rw [gB_sB, if_neg (by decide), gB_sB, if_neg (by decide)]; exact h3
          · rw [gB_sB, if_neg (by decide), gB_sB, if_pos rfl, updL_ap, if_pos rfl]; exact ea
          · rw [gB_sB, if_pos rfl, updL_ap, if_pos rfl]; exact eb
        · obtain ⟨t1, t2⟩ := hT7 S' (by omega)
          refine ⟨?_, fun z => ⟨?_, ?_⟩⟩
          · rw [gB_sB, if_neg (by decide), gB_sB, if_neg (by decide)]; exact t1
          · rw [gB_sB, if_neg (by decide), gB_sB, if_pos rfl, updL_ap, if_neg e]; exact (t2 z).1
          · rw [gB_sB, if_pos rfl, updL_ap, if_neg e, gB_sB, if_neg (by decide)]; exact (t2 z).2
    have hput : ∀ v : Int64, v.toInt = dt w (pc S) S → Kp [] [] [] [3, 4, 5] σ (sB σ1 3 S v) ∧ Tab w a b n S (sB σ1 3 S v) ∧ (gB (sB σ1 3 S v) 3 S).toInt = dt w (pc S) S := fun v hv => by
      refine ⟨hK.sB rfl, fun S' hS' => ?_, ?_⟩
      · obtain ⟨t1, t2⟩ := hT S' hS'
        refine ⟨?_, fun z => ⟨?_, ?_⟩⟩
        · rw [gB_sB, if_pos rfl, updL_ap, if_neg (by omega)]; exact t1
        · rw [gB_sB, if_neg (by decide)]; exact (t2 z).1
        · rw [gB_sB, if_neg (by decide)]; exact (t2 z).2
      · rw [gB_sB, if_pos rfl, updL_ap, if_pos rfl]; exact hv
    refine ⟨fun q2 => ?_, fun q2 => ?_⟩
    · have hpos : 0 < S := by
        apply Nat.pos_of_ne_zero
        rintro rfl
        exact q2 rfl
      have hpc := hp2 hpos
      rw [show nI (pc S) - 1 = nI (pc S - 1) from pk_sub (b := 1) (by omega), exW_19]
      have e1 : pc S - 1 + 1 = pc S := by omega
      refine s_ex (w := w (pc S - 1)) (D := dt w (pc S - 1)) (B := 23115815976960) (by omega) (by omega) (by decide) (by decide) (fun m hm hbm => ?_) (fun m hm hbm => ?_) (fun r hr => ?_)
      · rw [hK.A 10 rfl]
        exact ⟨gw _ _ (by omega) (hp3 m hm hbm).1, hw _ _⟩
      · have hx := (hp3 m hm hbm).2
        have h2 := pc_x S hS1 m (by have := (hp3 m hm hbm).1; omega) hbm
        have f2 : pc (S ^^^ 2 ^ m) = pc S - 1 := by omega
        have t1 := (hT _ hx).1
        rw [f2] at t1
        have g1 := dt_bd w hw (pc S - 1) (S ^^^ 2 ^ m) (by omega) f2
        have g2 := bd_le (pc S - 1) (by omega)
        exact ⟨t1, by omega, by omega⟩
      · refine ⟨in_nI (by omega) (by decide), ?_⟩
        rintro _ rfl
        rw [ixn (a := S) (by omega)]
        rw [exN_e] at hr
        have hv : r.toInt = dt w (pc S) S := by
          rw [hr, ← e1]; rfl
        obtain ⟨k1, k2, k3⟩ := hput r hv
        have := tail _ k1 k2 k3
        rw [ixn (a := S) (by omega)] at this
        exact this
    · have hz : S = 0 := (nI_eq2 (b := 0) (by omega) (by decide)).mp q2
      subst hz
      refine ⟨in_nI (by omega) (by decide), ?_⟩
      rintro _ rfl
      obtain ⟨k1, k2, k3⟩ := hput 1 rfl
      exact tail _ k1 k2 k3
