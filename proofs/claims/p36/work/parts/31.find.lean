/-! bearings -/
def FoB (N M : Nat) (σ τ : Sg) (d : Int) (p : Nat) : Prop :=
  0 ≤ fR τ (9 + p) ∧ fR τ (9 + p) < d ∧ -400000000000000000 ≤ fW τ (9 + p) ∧ fW τ (9 + p) ≤ 400000000000000000 ∧
  ((gA σ 1 p).toInt + fW τ (9 + p)) * d + fR τ (9 + p) + sm M (fun m => wayI σ m p * (fW σ m * d + fR σ m)) = 0
theorem fW_of {σ τ : Sg} {i : Nat} (h : gB τ 0 i = gB σ 0 i) : fW τ i = fW σ i := by unfold fW; rw [h]
theorem fR_of {σ τ : Sg} {i : Nat} (h : gB τ 1 i = gB σ 1 i) : fR τ i = fR σ i := by unfold fR; rw [h]
theorem sm_split (M : Nat) (w f g : Nat → Int) (d : Int) : sm M (fun m => w m * (f m * d + g m)) = sm M (fun m => w m * f m) * d + sm M (fun m => w m * g m) := by
  rw [← sm_mul, ← sm_add]
  refine sm_congr (fun m _ => ?_)
  rw [Int.mul_add, Int.mul_assoc]
theorem s_findBearings {N M T : Nat} {σ : Sg} {Q : Sg → Prop} {d : Int} (hF : Fr N M T σ) (hM : M ≤ 7) (hP : FoP N M σ σ d)
    (h : ∀ τ, Kp [] [] [] [0, 1] σ τ → (∀ i, i < 9 → gB τ 0 i = gB σ 0 i ∧ gB τ 1 i = gB σ 1 i) → (∀ p, p < 2 * N → FoB N M σ τ d p) → Q τ) : w_X1_findBearings σ Q := by
  have hN5 : N ≤ 5 := hF.2.2.1
  obtain ⟨d0, d1, ed, hb, heq⟩ := hP
  have loadb : ∀ p, -1122 ≤ (gA σ 1 p).toInt ∧ (gA σ 1 p).toInt ≤ 1122 := fun p => by
    have h1 := hF.2.2.2.2.2.2.2.1 p
    have h2 : T ≤ 34 := hF.2.2.2.2.1
    omega
  unfold w_X1_findBearings
  refine ⟨fun i σ1 => ∃ p : Nat, p ≤ 2 * N ∧ i = nI p ∧ Kp [] [] [] [0, 1] σ σ1 ∧ (∀ i, i < 9 → gB σ1 0 i = gB σ 0 i ∧ gB σ1 1 i = gB σ 1 i) ∧ ∀ q, q < p → FoB N M σ σ1 d q, fun i _ => (((2 * N : Nat) : Int) - i.toInt).toNat, ⟨0, Nat.zero_le _, rfl, Kp.rf, fun _ _ => ⟨rfl, rfl⟩, fun q hq => absurd hq (Nat.not_lt_zero _)⟩, ?_⟩
  rintro _ σ1 ⟨p, hp, rfl, hK, hlo, hB⟩
  rw [hK.I 0 rfl, hF.1, two_nI]
  refine ⟨fun q => ?_, fun q => ?_⟩
  · have := le_end q hp (by omega)
    subst this
    exact h σ1 hK hlo hB
  · have hlt : p < 2 * N := lt_of_nle q (by omega) (by omega)
    have hmu := mu_n hlt (by omega)
    have e9 : (9 : Int32) + nI p = nI (9 + p) := nI_add 9 p
    have hin : vp_in (nI (9 + p)) 25 := in_nI (by omega) (by decide)
    rintro _ rfl
    rw [e9, ixn (a := 9 + p) (by omega), half_nI (by omega), odd_nI (by omega)]
    refine ⟨hin, ?_⟩
    rintro _ rfl
    refine ⟨hin, ?_⟩
    rintro _ rfl
    refine s_bT (by omega) ?_
    rw [bT_congr (show gA (sB (sB σ1 0 (9 + p) 0) 1 (9 + p) 0) 3 = gA σ 3 from hK.A 3 rfl)]
    have z0 : (0 : Int64).toInt = 0 := rfl
    -- a state in which only this place's numbers are other
    have next : ∀ τ, Kp [] [] [] [0, 1] σ τ → (∀ j, j ≠ 9 + p → gB τ 0 j = gB σ1 0 j ∧ gB τ 1 j = gB σ1 1 j) → FoB N M σ τ d p →
        (∃ p' : Nat, p' ≤ 2 * N ∧ nI p + 1 = nI p' ∧ Kp [] [] [] [0, 1] σ τ ∧ (∀ i, i < 9 → gB τ 0 i = gB σ 0 i ∧ gB τ 1 i = gB σ 1 i) ∧ ∀ q, q < p' → FoB N M σ τ d q) ∧ (((2 * N : Nat) : Int) - (nI p + 1).toInt).toNat < (((2 * N : Nat) : Int) - (nI p).toInt).toNat := by
      intro τ hKt hj hp2
      refine ⟨⟨p + 1, by omega, nI_1 p, hKt, fun i hi => ?_, fun q hq => ?_⟩, hmu⟩
      · obtain ⟨g1, g2⟩ := hj i (by omega)
        obtain ⟨g3, g4⟩ := hlo i hi
        exact ⟨g1.trans g3, g2.trans g4⟩
      · by_cases e : q = p
        · rw [e]; exact hp2
        · have := hB q (by omega)
          obtain ⟨g1, g2⟩ := hj (9 + q) (by omega)
          unfold FoB at this ⊢
          rw [fW_of g1, fR_of g2]
          exact this
    cases hbb : bT σ p
    · rw [if_neg Bool.false_ne_true]
      refine ⟨fun q2 => absurd rfl q2, fun _ => next _ ((hK.sB rfl).sB rfl) (fun j hj => ⟨?_, ?_⟩) ?_⟩
      · rw [gB_sB, if_neg (by decide), gB_sB, if_pos rfl, updL_ap, if_neg hj]
      · rw [gB_sB, if_pos rfl, updL_ap, if_neg hj, gB_sB, if_neg (by decide)]
      · have k1 : fW (sB (sB σ1 0 (9 + p) 0) 1 (9 + p) 0) (9 + p) = 0 := by
          show (gB (sB (sB σ1 0 (9 + p) 0) 1 (9 + p) 0) 0 (9 + p)).toInt = 0
          rw [gB_sB, if_neg (by decide), gB_sB, if_pos rfl, updL_ap, if_pos rfl, z0]
        have k2 : fR (sB (sB σ1 0 (9 + p) 0) 1 (9 + p) 0) (9 + p) = 0 := by
          show (gB (sB (sB σ1 0 (9 + p) 0) 1 (9 + p) 0) 1 (9 + p)).toInt = 0
          rw [gB_sB, if_pos rfl, updL_ap, if_pos rfl, z0]
        unfold FoB
        rw [k1, k2]
        refine ⟨Int.le_refl _, d0, by decide, by decide, ?_⟩
        have := heq p hlt hbb
        rw [Int.add_zero, Int.add_zero]
        exact this
    · rw [if_pos rfl]
      refine ⟨fun _ => ?_, fun q2 => absurd q2 (by decide)⟩
      rw [ixn (a := p) (by omega)]
      refine ⟨in_nI (by omega) (by decide), hin, ?_⟩
      rintro _ rfl
      have hway : ∀ m, m < M → (-24 ≤ wayI σ m p ∧ wayI σ m p ≤ 24) := fun m hm => wayT_bd hF hm (by omega) (Nat.mod_lt _ (by decide))
      have bw : ∀ m, m < M → (-26400000000000000 ≤ wayI σ m p * fW σ m ∧ wayI σ m p * fW σ m ≤ 26400000000000000) := fun m hm => by
        have := mul_bd (hway m hm) (B := 1100000000000000) (hb m hm).2.2 (by decide) (by decide)
        omega
      have br : ∀ m, m < M → (-720000000000000 ≤ wayI σ m p * fR σ m ∧ wayI σ m p * fR σ m ≤ 720000000000000) := fun m hm => by
        have h2 := hb m hm
        have := mul_bd (hway m hm) (B := 30000000000000) (y := fR σ m) (by omega) (by decide) (by decide)
        omega
      refine ⟨fun i σ13 => ∃ m : Nat, m ≤ M ∧ i = nI m ∧ Kp [] [] [] [0, 1] σ σ13 ∧ (∀ j, j ≠ 9 + p → gB σ13 0 j = gB σ1 0 j ∧ gB σ13 1 j = gB σ1 1 j) ∧ fW σ13 (9 + p) = -(gA σ 1 p).toInt - sm m (fun m => wayI σ m p * fW σ m) ∧ fR σ13 (9 + p) = -sm m (fun m => wayI σ m p * fR σ m), fun i _ => ((M : Int) - i.toInt).toNat, ⟨0, Nat.zero_le _, rfl, ((hK.sB rfl).sB rfl).sB rfl, fun j hj => ⟨?_, ?_⟩, ?_, ?_⟩, ?_⟩
      · rw [gB_sB, if_pos rfl, updL_ap, if_neg hj, gB_sB, if_neg (by decide), gB_sB, if_pos rfl, updL_ap, if_neg hj]
      · rw [gB_sB, if_neg (by decide), gB_sB, if_pos rfl, updL_ap, if_neg hj, gB_sB, if_neg (by decide)]
      · show (gB (sB (sB (sB σ1 0 (9 + p) 0) 1 (9 + p) 0) 0 (9 + p) (-(gA (sB (sB σ1 0 (9 + p) 0) 1 (9 + p) 0) 1 p)).toInt64) 0 (9 + p)).toInt = -(gA σ 1 p).toInt - 0
        rw [gB_sB, if_pos rfl, updL_ap, if_pos rfl, Int32.toInt_toInt64, gA_sB, gA_sB, hK.A 1 rfl, ti_neg _ (by have := loadb p; omega), Int.sub_zero]
      · show (gB (sB (sB (sB σ1 0 (9 + p) 0) 1 (9 + p) 0) 0 (9 + p) (-(gA (sB (sB σ1 0 (9 + p) 0) 1 (9 + p) 0) 1 p)).toInt64) 1 (9 + p)).toInt = -0
        rw [gB_sB, if_neg (by decide), gB_sB, if_pos rfl, updL_ap, if_pos rfl, z0]; rfl
      rintro _ σ13 ⟨m, hm, rfl, hK13, hj13, hW13, hR13⟩
      rw [hK13.I 1 rfl, hF.2.1]
      have sW := sm_abs (n := m) (f := fun m => wayI σ m p * fW σ m) (b := 26400000000000000) (fun k hk => bw k (by omega))
      have sR := sm_abs (n := m) (f := fun m => wayI σ m p * fR σ m) (b := 720000000000000) (fun k hk => br k (by omega))
      have lb := loadb p
      refine ⟨fun q3 => ?_, fun q3 => ?_⟩
      · have := le_end q3 hm (by omega)
        subst this
        have ed13 : (gL σ13 0).toInt = d := by rw [hK13.L 0 rfl]; exact ed
        have bR : -5040000000000000 ≤ fR σ13 (9 + p) ∧ fR σ13 (9 + p) ≤ 5040000000000000 := by rw [hR13]; omega
        refine s_carry (by omega) (by omega) (by rw [hW13]; omega) (by omega) (fun τ hK2 hj2 hW2 hR2 => ?_)
        rw [ed13] at hW2 hR2
        refine next τ (hK13.tr hK2) (fun j hj => ⟨((hj2 j hj).1).trans (hj13 j hj).1, ((hj2 j hj).2).trans (hj13 j hj).2⟩) ?_
        have q1 := ediv_bd d0 bR (by decide)
        unfold FoB
        rw [hW2, hR2]
        refine ⟨Int.emod_nonneg _ (Int.ne_of_gt d0), Int.emod_lt_of_pos _ d0, by omega, by omega, ?_⟩
        have g := em (fR σ13 (9 + p)) d
        rw [sm_split m (fun q => wayI σ q p) (fun q => fW σ q) (fun q => fR σ q) d, hW13]
        have e5 : ((gA σ 1 p).toInt + (-(gA σ 1 p).toInt - sm m (fun m => wayI σ m p * fW σ m) + fR σ13 (9 + p) / d)) * d = -(sm m (fun m => wayI σ m p * fW σ m) * d) + fR σ13 (9 + p) / d * d := by grind
        rw [e5]
        omega
      · have hmlt : m < M := lt_of_nle q3 (by omega) (by omega)
        have hF13 : Fr N M T σ13 := hF.congr (hK13.I 0 rfl) (hK13.I 1 rfl) (fun k hk => hK13.A k rfl)
        refine s_wayAlong hF13 hmlt (by omega) (Nat.mod_lt _ (by decide)) ?_
        rw [wayT_congr (σ := σ) (τ := σ13) (hK13.A 0 rfl) (hK13.A 4 rfl) (hK13.A 5 rfl), ixn (a := m) (by omega)]
        have hinm : vp_in (nI m) 25 := in_nI (by omega) (by decide)
        refine ⟨hin, hinm, hin, ?_⟩
        rintro _ rfl
        refine ⟨hin, hinm, hin, ?_⟩
        rintro _ rfl
        obtain ⟨g1, g2⟩ := hj13 m (by omega)
        obtain ⟨g3, g4⟩ := hlo m (by omega)
        have em1 : (gB σ13 0 m).toInt = fW σ m := by rw [g1, g3]; rfl
        have em2 : (gB σ13 1 m).toInt = fR σ m := by rw [g2, g4]; rfl
        have ew : ((wayT σ m (p / 2) (p % 2)).toInt64).toInt = wayI σ m p := by rw [Int32.toInt_toInt64]; rfl
        have b1 := bw m hmlt
        have b2 := br m hmlt
        have p1 : ((wayT σ m (p / 2) (p % 2)).toInt64 * gB σ13 0 m).toInt = wayI σ m p * fW σ m := l_mul ew em1 b1 (by decide)
        have p2 : ((wayT σ m (p / 2) (p % 2)).toInt64 * gB σ13 1 m).toInt = wayI σ m p * fR σ m := l_mul ew em2 b2 (by decide)
        refine ⟨⟨m + 1, by omega, nI_1 m, (hK13.sB rfl).sB rfl, fun j hj => ⟨?_, ?_⟩, ?_, ?_⟩, mu_n hmlt (by omega)⟩
        · rw [gB_sB, if_neg (by decide), gB_sB, if_pos rfl, updL_ap, if_neg hj]
          exact (hj13 j hj).1
        · rw [gB_sB, if_pos rfl, updL_ap, if_neg hj, gB_sB, if_neg (by decide)]
          exact (hj13 j hj).2
        · rw [sm_s]
          unfold fW
          rw [gB_sB, if_neg (by decide), gB_sB, if_pos rfl, updL_ap, if_pos rfl, l_sub (a := fW σ13 (9 + p)) rfl p1 (by rw [hW13]; omega), hW13]
          show _ = -(gA σ 1 p).toInt - (sm m (fun m => wayI σ m p * fW σ m) + wayI σ m p * fW σ m)
          omega
        · rw [sm_s]
          unfold fR
          rw [gB_sB, if_pos rfl, updL_ap, if_pos rfl]
          have e6 : gB (sB σ13 0 (9 + p) (gB σ13 0 (9 + p) - (wayT σ m (p / 2) (p % 2)).toInt64 * gB σ13 0 m)) 1 = gB σ13 1 := by rw [gB_sB, if_neg (by decide)]
          rw [e6, l_sub (a := fR σ13 (9 + p)) rfl p2 (by rw [hR13]; omega), hR13]
          show _ = -(sm m (fun m => wayI σ m p * fR σ m) + wayI σ m p * fR σ m)
          omega
/-! wide numbers: that they come to an end, and touch their own parts alone -/
theorem nI8 {n : Nat} (q : (8 : Int32) ≤ nI n) (h : n ≤ 8) : n = 8 := le_end (a := 8) q h (by decide)
theorem nI8n {n : Nat} (q : ¬ (8 : Int32) ≤ nI n) (h : n ≤ 8) : n < 8 := lt_of_nle (a := 8) q (by decide) (by omega)
def swW (t : Nat) (p1 : Int64) (σ : Sg) (Q : Sg → Prop) : Prop :=
  ∃ (I1 : Int32 → Sg → Prop) (μ1 : Int32 → Sg → Nat), I1 2 σ ∧ ∀ (i3_1 : Int32) (σ1 : Sg), I1 i3_1 σ1 → (8 ≤ i3_1 → ∀ σ3 : Sg, σ3 = sB σ1 t (ix 0) (p1 &&& 4294967295) → ∀ σ4 : Sg, σ4 = sB σ3 t (ix 1) (lUshr p1 32) → Q σ4) ∧ (¬ 8 ≤ i3_1 → vp_in i3_1 8 ∧ ∀ σ6 : Sg, σ6 = sB σ1 t (ix i3_1) 0 → I1 (i3_1 + 1) σ6 ∧ μ1 (i3_1 + 1) σ6 < μ1 i3_1 σ1)
theorem swW_24 : w_X5_set_24 = swW 7 := rfl
theorem swW_22 : w_X5_set_22 = swW 6 := rfl
theorem tself (t : Nat) : [t].contains t = true := List.contains_iff_mem.mpr (List.mem_singleton.mpr rfl)
theorem s_set {t : Nat} {p1 : Int64} {σ : Sg} {Q : Sg → Prop} (h : ∀ τ, Kp [] [] [] [t] σ τ → Q τ) : swW t p1 σ Q := by
  unfold swW
  refine ⟨fun i σ1 => ∃ n : Nat, n ≤ 8 ∧ i = nI n ∧ Kp [] [] [] [t] σ σ1, fun i _ => (((8 : Nat) : Int) - i.toInt).toNat, ⟨2, by decide, rfl, Kp.rf⟩, ?_⟩
  rintro _ σ1 ⟨n, hn, rfl, hK⟩
  refine ⟨fun _ => ?_, fun q => ?_⟩
  · rintro _ rfl
    rintro _ rfl
    exact h _ ((hK.sB (tself t)).sB (tself t))
  · have hlt := nI8n q hn
    refine ⟨in_nI hlt (by decide), ?_⟩
    rintro _ rfl
    exact ⟨⟨n + 1, by omega, nI_1 n, hK.sB (tself t)⟩, mu_n hlt (by decide)⟩
def spW (x y t : Nat) (σ : Sg) (Q : Sg → Prop) : Prop :=
  ∃ (I1 : Int32 → Sg → Prop) (μ1 : Int32 → Sg → Nat), I1 0 σ ∧ ∀ (i3_1 : Int32) (σ1 : Sg), I1 i3_1 σ1 → (8 ≤ i3_1 → ∃ (I3 : Int32 → Sg → Prop) (μ3 : Int32 → Sg → Nat), I3 0 σ1 ∧ ∀ (i3_3 : Int32) (σ3 : Sg), I3 i3_3 σ3 → (8 ≤ i3_3 → Q σ3) ∧ (¬ 8 ≤ i3_3 → ∃ (I5 : Int64 → Int32 → Sg → Prop) (μ5 : Int64 → Int32 → Sg → Nat), I5 0 i3_3 σ3 ∧ ∀ (i4_5 : Int64) (i6_5 : Int32) (σ5 : Sg), I5 i4_5 i6_5 σ5 → (8 ≤ i6_5 → I3 (i3_3 + 1) σ5 ∧ μ3 (i3_3 + 1) σ5 < μ3 i3_3 σ3) ∧ (¬ 8 ≤ i6_5 → vp_in i3_3 8 ∧ vp_in (i6_5 - i3_3) 8 ∧ vp_in i6_5 8 ∧ ∀ v10 : Int64, v10 = i4_5 + (((gB σ5 x (ix i3_3)) * (gB σ5 y (ix (i6_5 - i3_3)))) + (gB σ5 t (ix i6_5))) → vp_in i6_5 8 ∧ ∀ σ12 : Sg, σ12 = sB σ5 t (ix i6_5) (v10 &&& 4294967295) → ∀ v13 : Int64, v13 = lUshr v10 32 → I5 v13 (i6_5 + 1) σ12 ∧ μ5 v13 (i6_5 + 1) σ12 < μ5 i4_5 i6_5 σ5))) ∧ (¬ 8 ≤ i3_1 → vp_in i3_1 8 ∧ ∀ σ15 : Sg, σ15 = sB σ1 t (ix i3_1) 0 → I1 (i3_1 + 1) σ15 ∧ μ1 (i3_1 + 1) σ15 < μ1 i3_1 σ1)
theorem spW_26 : w_X5_setProduct_26_22_24 = spW 6 7 8 := rfl
theorem spW_28 : w_X5_setProduct_28_26_26 = spW 8 8 9 := rfl
theorem spW_30 : w_X5_setProduct_30_28_22 = spW 9 6 10 := rfl
theorem s_prod {x y t : Nat} {σ : Sg} {Q : Sg → Prop} (h : ∀ τ, Kp [] [] [] [t] σ τ → Q τ) : spW x y t σ Q := by
  unfold spW
  refine ⟨fun i σ1 => ∃ n : Nat, n ≤ 8 ∧ i = nI n ∧ Kp [] [] [] [t] σ σ1, fun i _ => (((8 : Nat) : Int) - i.toInt).toNat, ⟨0, by decide, rfl, Kp.rf⟩, ?_⟩
  rintro _ σ1 ⟨n, hn, rfl, hK⟩
  refine ⟨fun _ => ?_, fun q => ?_⟩
  · refine ⟨fun i σ3 => ∃ a : Nat, a ≤ 8 ∧ i = nI a ∧ Kp [] [] [] [t] σ σ3, fun i _ => (((8 : Nat) : Int) - i.toInt).toNat, ⟨0, by decide, rfl, hK⟩, ?_⟩
    rintro _ σ3 ⟨a, ha, rfl, hK3⟩
    refine ⟨fun _ => h σ3 hK3, fun q => ?_⟩
    have hlt := nI8n q ha
    refine ⟨fun _ i σ5 => ∃ b : Nat, a ≤ b ∧ b ≤ 8 ∧ i = nI b ∧ Kp [] [] [] [t] σ σ5, fun _ i _ => (((8 : Nat) : Int) - i.toInt).toNat, ⟨a, Nat.le_refl _, ha, rfl, hK3⟩, ?_⟩
    rintro c5 _ σ5 ⟨b, hab, hb, rfl, hK5⟩
    refine ⟨fun _ => ⟨⟨a + 1, by omega, nI_1 a, hK5⟩, mu_n hlt (by decide)⟩, fun q2 => ?_⟩
    have hlt2 := nI8n q2 hb
    have hin := in_nI hlt2 (show 8 < 1000000 by decide)
    refine ⟨in_nI hlt (by decide), by rw [pk_sub hab]; exact in_nI (by omega) (by decide), hin, ?_⟩
    rintro _ rfl
    refine ⟨hin, ?_⟩
    rintro _ rfl
    rintro _ rfl
    exact ⟨⟨b + 1, by omega, by omega, nI_1 b, hK5.sB (tself t)⟩, mu_n hlt2 (by decide)⟩
  · have hlt := nI8n q hn
    refine ⟨in_nI hlt (by decide), ?_⟩
    rintro _ rfl
    exact ⟨⟨n + 1, by omega, nI_1 n, hK.sB (tself t)⟩, mu_n hlt (by decide)⟩
theorem s_wadd {p1 : Int64} {σ : Sg} {Q : Sg → Prop} (h : ∀ τ, Kp [] [] [] [8] σ τ → Q τ) : w_X5_add_26 p1 σ Q := by
  unfold w_X5_add_26
  refine ⟨fun _ i σ1 => ∃ n : Nat, n ≤ 8 ∧ i = nI n ∧ Kp [] [] [] [8] σ σ1, fun _ i _ => (((8 : Nat) : Int) - i.toInt).toNat, ⟨0, by decide, rfl, Kp.rf⟩, ?_⟩
  rintro c _ σ1 ⟨n, hn, rfl, hK⟩
  refine ⟨fun _ => h σ1 hK, fun q => ?_⟩
  have hlt := nI8n q hn
  have hin := in_nI hlt (show 8 < 1000000 by decide)
  refine ⟨hin, ?_⟩
  rintro _ rfl
  refine ⟨hin, ?_⟩
  rintro _ rfl
  rintro _ rfl
  exact ⟨⟨n + 1, by omega, nI_1 n, hK.sB rfl⟩, mu_n hlt (by decide)⟩
theorem s_atMost {σ : Sg} {Q : Int32 → Prop} (h0 : Q 0) (h1 : Q 1) : w_X5_isAtMost_28_30 σ Q := by
  unfold w_X5_isAtMost_28_30
  refine ⟨fun i => ∃ n : Nat, n ≤ 8 ∧ i = nI n + (-1), fun i => (i.toInt + 1).toNat, ⟨8, by decide, by decide⟩, ?_⟩
  rintro _ ⟨n, hn, rfl⟩
  refine ⟨fun _ => h1, fun q => ?_⟩
  cases n with
  | zero => exact absurd (by decide) q
  | succ n =>
    rw [pk_m1]
    have hin := in_nI (show n < 8 by omega) (show 8 < 1000000 by decide)
    refine ⟨hin, hin, fun _ => ⟨⟨n, by omega, rfl⟩, ?_⟩, fun _ => ⟨hin, hin, fun _ => h0, fun _ => h1⟩⟩
    cases n with
    | zero => decide
    | succ n =>
      show ((nI (n + 1) + (-1)).toInt + 1).toNat < ((nI (n + 1)).toInt + 1).toNat
      rw [pk_m1, nI_ti (by omega), nI_ti (by omega)]; omega
theorem s_timesLength {p1 p2 : Int64} {p3 : Int32} {σ : Sg} {Q : Int64 → Sg → Prop} (hp : 0 ≤ p1.toInt ∧ p1.toInt ≤ 2000000000000000)
    (h : ∀ r τ, Kp [] [] [] [6, 8, 9, 10] σ τ → 0 ≤ r.toInt → Q r τ) : w_X1_timesLength p1 p2 p3 σ Q := by
  unfold w_X1_timesLength
  rw [swW_22, spW_26, spW_28, spW_30]
  refine s_set (fun σ2 h2 => s_prod (fun σ4 h4 => s_wadd (fun σ6 h6 => s_prod (fun σ8 h8 => s_set (fun σ10 h10 => s_prod (fun σ12 h12 => ?_))))))
  have hK : Kp [] [] [] [6, 8, 9, 10] σ σ12 := (((((h2.mo rfl rfl rfl rfl).tr (h4.mo rfl rfl rfl rfl)).tr (h6.mo rfl rfl rfl rfl)).tr (h8.mo rfl rfl rfl rfl)).tr (h10.mo rfl rfl rfl rfl)).tr (h12.mo rfl rfl rfl rfl)
  refine ⟨fun q => ?_, fun _ => ?_⟩
  · rw [lle] at q
    have e : (214497024112901762 : Int64).toInt = 214497024112901762 := by decide +kernel
    omega
  · intro v27 e27
    have e1 : (1 : Int64).toInt = 1 := rfl
    have e43 : (43 : Int64).toInt = 43 := rfl
    have e2 : (2 : Int64).toInt = 2 := rfl
    have a1 : (p1 + 1).toInt = p1.toInt + 1 := l_add rfl e1 (by omega)
    have h27 : v27.toInt = (p1.toInt + 1) * 43 := by rw [e27]; exact l_mul (B := 100000000000000000) a1 e43 (by omega) (by decide)
    refine ⟨fun l g i σ28 => ∃ n : Nat, n ≤ 64 ∧ i = nI n ∧ 0 ≤ l.toInt ∧ 0 ≤ g.toInt ∧ Kp [] [] [] [6, 8, 9, 10] σ σ28, fun _ _ i _ => (((64 : Nat) : Int) - i.toInt).toNat, ⟨0, by decide, rfl, hp.1, by omega, hK⟩, ?_⟩
    rintro l g _ σ28 ⟨n, hn, rfl, hl, hg, hK28⟩
    refine ⟨fun _ => h l σ28 hK28 hl, fun q => ⟨fun _ => h l σ28 hK28 hl, fun q2 => ?_⟩⟩
    have hlt : n < 64 := lt_of_nle (a := 64) q (by decide) (by omega)
    have hmu := mu_n hlt (by decide)
    have hgl : l.toInt < g.toInt := by rw [lle] at q2; omega
    have rg := l_rng g
    intro v31 e31
    have s1 : (g - l).toInt = g.toInt - l.toInt := l_sub rfl rfl (by omega)
    have s2 : ((g - l) / 2).toInt = (g.toInt - l.toInt) / 2 := by rw [l_divp (by rw [e2]; decide) (by rw [s1]; omega), s1, e2]
    have s3 : v31.toInt = g.toInt - (g.toInt - l.toInt) / 2 := by rw [e31]; exact l_sub rfl s2 (by omega)
    refine s_set (fun σ33 k33 => s_prod (fun σ35 k35 => s_prod (fun σ37 k37 => ?_)))
    have hK37 : Kp [] [] [] [6, 8, 9, 10] σ σ37 := ((hK28.tr (k33.mo rfl rfl rfl rfl)).tr (k35.mo rfl rfl rfl rfl)).tr (k37.mo rfl rfl rfl rfl)
    refine s_atMost ⟨fun _ => ?_, fun q3 => absurd rfl q3⟩ ⟨fun q3 => absurd q3 (by decide), fun _ => ⟨⟨n + 1, by omega, nI_1 n, by omega, hg, hK37⟩, hmu⟩⟩
    intro v40 e40
    have s4 : v40.toInt = v31.toInt - 1 := by rw [e40]; exact l_sub rfl e1 (by omega)
    exact ⟨⟨n + 1, by omega, nI_1 n, hl, by omega, hK37⟩, hmu⟩
theorem s_lengthSq {N M T m : Nat} {σ : Sg} {Q : Int32 → Prop} (hF : Fr N M T σ) (hm : m < M) (h : Q (lenSq σ m)) : w_X2_lengthSquare (nI m) σ Q := by
  have hN5 : N ≤ 5 := hF.2.2.1
  have hM9 : M ≤ 9 := hF.2.2.2.1
  obtain ⟨a, b, e1, e2, ha, hb, -⟩ := hF.2.2.2.2.2.2.2.2.2.1 m hm
  have hin : vp_in (nI m) 9 := in_nI (by omega) (by decide)
  unfold w_X2_lengthSquare
  rw [ixn (a := m) (by omega)]
  unfold lenSq at h
  refine ⟨hin, ?_⟩
  rintro _ rfl
  refine ⟨hin, ?_⟩
  rintro _ rfl
  rw [e1, e2] at h ⊢
  refine ⟨in20 (by omega) (by decide), in20 (by omega) (by decide), ?_⟩
  rintro _ rfl
  refine ⟨in21 (by omega) (by decide), in21 (by omega) (by decide), ?_⟩
  rintro _ rfl
  exact h
def AmOK (σ τ : Sg) (m : Nat) : Prop :=
  (0 ≤ fW σ m → 0 ≤ (gB τ 2 m).toInt) ∧ (fW σ m < 0 → (gB τ 2 m).toInt ≤ 0 ∧ -9223372036854775808 < (gB τ 2 m).toInt)
theorem s_findAmounts {N M T : Nat} {σ : Sg} {Q : Sg → Prop} (hF : Fr N M T σ) (hb : ∀ i, i < M → -1100000000000000 ≤ fW σ i ∧ fW σ i ≤ 1100000000000000)
    (h : ∀ τ, Kp [] [] [] [2, 6, 7, 8, 9, 10] σ τ → (∀ m, m < M → AmOK σ τ m) → Q τ) : w_X1_findAmounts σ Q := by
  have hM9 : M ≤ 9 := hF.2.2.2.1
  unfold w_X1_findAmounts
  rw [swW_24]
  refine s_set (fun σ2 h2 => ?_)
  refine ⟨fun i σ3 => ∃ m : Nat, m ≤ M ∧ i = nI m ∧ Kp [] [] [] [2, 6, 7, 8, 9, 10] σ σ3 ∧ ∀ j, j < m → AmOK σ σ3 j, fun i _ => ((M : Int) - i.toInt).toNat, ⟨0, Nat.zero_le _, rfl, h2.mo rfl rfl rfl rfl, fun j hj => absurd hj (Nat.not_lt_zero _)⟩, ?_⟩
  rintro _ σ3 ⟨m, hm, rfl, hK, hA⟩
  rw [hK.I 1 rfl, hF.2.1]
  refine ⟨fun q => ?_, fun q => ?_⟩
  · have := le_end q hm (by omega)
    subst this
    exact h σ3 hK hA
  · have hlt : m < M := lt_of_nle q (by omega) (by omega)
    have hmu := mu_n hlt (by omega)
    have hin : vp_in (nI m) 25 := in_nI (by omega) (by decide)
    have hin9 : vp_in (nI m) 9 := in_nI (by omega) (by decide)
    have hF3 : Fr N M T σ3 := hF.congr (hK.I 0 rfl) (hK.I 1 rfl) (fun k hk => hK.A k rfl)
    rw [ixn (a := m) (by omega)]
    refine ⟨hin, ?_⟩
    intro v6 e6
    refine ⟨hin, ?_⟩
    intro v8 e8
    have t6 : v6.toInt = fW σ m := by rw [e6, hK.B 0 rfl]; rfl
    have hbm := hb m hlt
    have z : (0 : Int64).toInt = 0 := rfl
    have zm : (-1 : Int64).toInt = -1 := rfl
    have next : ∀ τ (v : Int64), Kp [] [] [] [6, 8, 9, 10] σ3 τ → (0 ≤ fW σ m → 0 ≤ v.toInt) ∧ (fW σ m < 0 → v.toInt ≤ 0 ∧ -9223372036854775808 < v.toInt) →
        (∃ m' : Nat, m' ≤ M ∧ nI m + 1 = nI m' ∧ Kp [] [] [] [2, 6, 7, 8, 9, 10] σ (sB τ 2 m v) ∧ ∀ j, j < m' → AmOK σ (sB τ 2 m v) j) ∧ ((M : Int) - (nI m + 1).toInt).toNat < ((M : Int) - (nI m).toInt).toNat := by
      intro τ v hKt hv
      refine ⟨⟨m + 1, by omega, nI_1 m, (hK.tr (hKt.mo rfl rfl rfl rfl)).sB rfl, fun j hj => ?_⟩, hmu⟩
      unfold AmOK
      rw [gB_sB, if_pos rfl, updL_ap]
      by_cases e : j = m
      · subst e; rw [if_pos rfl]; exact hv
      · rw [if_neg e, hKt.B 2 rfl]; exact hA j (by omega)
    refine s_lengthSq hF3 hlt ⟨fun q2 => ?_, fun q2 => ?_⟩
    · rw [lle, z] at q2
      refine s_timesLength (by omega) (fun r τ hKt hr => ⟨hin9, ?_⟩)
      rintro _ rfl
      exact next τ r hKt ⟨fun _ => hr, fun _ => by omega⟩
    · rw [lle, z] at q2
      have s1 : (-1 - v6).toInt = -1 - v6.toInt := l_sub zm rfl (by omega)
      refine s_timesLength (by omega) (fun r τ hKt hr => ⟨hin9, ?_⟩)
      rintro _ rfl
      have rr := l_rng r
      have hn : (-r).toInt = -r.toInt := li_neg r (by omega)
      exact next τ (-r) hKt ⟨fun _ => by omega, fun _ => by omega⟩
/-- forces are found, once -/
theorem s_find {N M T : Nat} {σ : Sg} {Q : Sg → Prop} (hF : Fr N M T σ) (hN : 2 ≤ N) (h0 : ¬ gI σ 2 = 0 → FoOK N M σ)
    (h : ∀ τ, Kp [2, 3] [0] [10, 11, 12] [0, 1, 2, 3, 4, 5, 6, 7, 8, 9, 10] σ τ → ¬ gI τ 2 = 0 → FoOK N M τ → (¬ gI σ 2 = 0 → τ = σ) → Q τ) : w_X1_find σ Q := by
  unfold w_X1_find
  refine ⟨fun q => ?_, fun q => h σ Kp.rf q (h0 q) (fun _ => rfl)⟩
  refine s_findPulls hF hN (fun c hc τ hK => ?_) (fun hM7 τ d hK hP => ?_)
  · refine ⟨by rcases hc with e | e | e <;> subst e <;> rfl, ?_⟩
    rintro _ rfl
    have e3 : gI (sI τ 3 c) 3 = c := by rw [gI_sI, if_pos rfl]
    rw [e3]
    refine ⟨fun _ => ?_, fun q2 => ?_⟩
    · rintro _ rfl
      refine h _ (((hK.mo rfl rfl rfl rfl).sI rfl).sI rfl) ?_ ⟨?_, fun q2 => ?_⟩ (fun q2 => absurd q q2)
      · rw [gI_sI, if_pos rfl]; decide
      · rw [gI_sI, if_neg (by decide), e3]
        rcases hc with e | e | e
        · exact Or.inl e
        · exact Or.inr (Or.inl e)
        · exact Or.inr (Or.inr (Or.inl e))
      · rw [gI_sI, if_neg (by decide), e3] at q2
        rw [q2] at hc
        exact absurd hc (by decide)
    · rw [q2] at hc
      exact absurd hc (by decide)
  · refine ⟨by decide, ?_⟩
    rintro _ rfl
    have e3 : gI (sI τ 3 46) 3 = 46 := by rw [gI_sI, if_pos rfl]
    rw [e3]
    refine ⟨fun q2 => absurd rfl q2, fun _ => ?_⟩
    have hK5 : Kp [2, 3] [0] [10, 11, 12] [0, 1, 2, 3, 4, 5, 6, 7, 8, 9, 10] σ (sI τ 3 46) := (hK.mo rfl rfl rfl rfl).sI rfl
    have hF5 : Fr N M T (sI τ 3 46) := hF.congr (hK5.I 0 rfl) (hK5.I 1 rfl) (fun k hk => hK5.A k (by
      rcases (show k = 0 ∨ k = 1 ∨ k = 2 ∨ k = 3 ∨ k = 4 ∨ k = 5 ∨ k = 6 ∨ k = 7 ∨ k = 8 ∨ k = 9 by omega) with e | e | e | e | e | e | e | e | e | e <;> subst e <;> rfl))
    have way5 : ∀ ρ, gA ρ 0 = gA σ 0 → gA ρ 4 = gA σ 4 → gA ρ 5 = gA σ 5 → wayI ρ = wayI σ := fun ρ k0 k4 k5 => funext fun m => funext fun p => by
      unfold wayI; rw [wayT_congr k0 k4 k5]
    obtain ⟨d0, d1, ed, hb, heq⟩ := hP
    have hP5 : FoP N M (sI τ 3 46) (sI τ 3 46) d := by
      refine ⟨d0, d1, ed, hb, fun p p1 p2 => ?_⟩
      rw [bT_congr (show gA (sI τ 3 46) 3 = gA σ 3 from hK.A 3 rfl)] at p2
      rw [way5 (sI τ 3 46) (hK5.A 0 rfl) (hK5.A 4 rfl) (hK5.A 5 rfl), hK5.A 1 rfl]
      exact heq p p1 p2
    refine s_findBearings hF5 hM7 hP5 (fun σ9 hK9 hlo hB => ?_)
    have hF9 : Fr N M T σ9 := hF5.congr (hK9.I 0 rfl) (hK9.I 1 rfl) (fun k hk => hK9.A k rfl)
    have eW : ∀ i, i < M → fW σ9 i = fW τ i ∧ fR σ9 i = fR τ i := fun i hi => by
      obtain ⟨g1, g2⟩ := hlo i (by omega)
      exact ⟨fW_of g1, fR_of g2⟩
    refine s_findAmounts hF9 (fun i hi => by rw [(eW i hi).1]; exact (hb i hi).2.2) (fun σ11 hK11 hA => ?_)
    rintro _ rfl
    have hKe : Kp [2, 3] [0] [10, 11, 12] [0, 1, 2, 3, 4, 5, 6, 7, 8, 9, 10] σ (sI σ11 2 1) := ((hK5.tr (hK9.mo rfl rfl rfl rfl)).tr (hK11.mo rfl rfl rfl rfl)).sI rfl
    refine h _ hKe (by rw [gI_sI, if_pos rfl]; decide) ⟨?_, fun _ => ⟨hM7, d, d0, d1, ?_, ?_, ?_, ?_, ?_⟩⟩ (fun q2 => absurd q q2)
    · have : gI (sI σ11 2 1) 3 = 46 := by rw [gI_sI, if_neg (by decide), hK11.I 3 rfl, hK9.I 3 rfl, e3]
      exact Or.inr (Or.inr (Or.inr this))
    · have : gL (sI σ11 2 1) 0 = gL τ 0 := (hK11.L 0 rfl).trans ((hK9.L 0 rfl).trans rfl)
      rw [this]; exact ed
    · intro i hi
      have k1 : fW (sI σ11 2 1) i = fW τ i := (fW_of (show gB (sI σ11 2 1) 0 i = gB σ9 0 i from congrFun (hK11.B 0 rfl) i)).trans (eW i hi).1
      have k2 : fR (sI σ11 2 1) i = fR τ i := (fR_of (show gB (sI σ11 2 1) 1 i = gB σ9 1 i from congrFun (hK11.B 1 rfl) i)).trans (eW i hi).2
      rw [k1, k2]
      exact hb i hi
    · intro p hp
      have k1 : fW (sI σ11 2 1) (9 + p) = fW σ9 (9 + p) := fW_of (show gB (sI σ11 2 1) 0 (9 + p) = gB σ9 0 (9 + p) from congrFun (hK11.B 0 rfl) _)
      have k2 : fR (sI σ11 2 1) (9 + p) = fR σ9 (9 + p) := fR_of (show gB (sI σ11 2 1) 1 (9 + p) = gB σ9 1 (9 + p) from congrFun (hK11.B 1 rfl) _)
      obtain ⟨g1, g2, g3, g4, -⟩ := hB p hp
      rw [k1, k2]
      exact ⟨g1, g2, g3, g4⟩
    · intro p hp
      have k1 : fW (sI σ11 2 1) (9 + p) = fW σ9 (9 + p) := fW_of (show gB (sI σ11 2 1) 0 (9 + p) = gB σ9 0 (9 + p) from congrFun (hK11.B 0 rfl) _)
      have k2 : fR (sI σ11 2 1) (9 + p) = fR σ9 (9 + p) := fR_of (show gB (sI σ11 2 1) 1 (9 + p) = gB σ9 1 (9 + p) from congrFun (hK11.B 1 rfl) _)
      obtain ⟨-, -, -, -, g5⟩ := hB p hp
      rw [k1, k2, way5 (sI σ11 2 1) (hKe.A 0 rfl) (hKe.A 4 rfl) (hKe.A 5 rfl), hKe.A 1 rfl]
      rw [way5 (sI τ 3 46) (hK5.A 0 rfl) (hK5.A 4 rfl) (hK5.A 5 rfl), hK5.A 1 rfl] at g5
      rw [← g5]
      congr 1
      refine sm_congr (fun m hm => ?_)
      have j1 : fW (sI σ11 2 1) m = fW τ m := (fW_of (show gB (sI σ11 2 1) 0 m = gB σ9 0 m from congrFun (hK11.B 0 rfl) m)).trans (eW m hm).1
      have j2 : fR (sI σ11 2 1) m = fR τ m := (fR_of (show gB (sI σ11 2 1) 1 m = gB σ9 1 m from congrFun (hK11.B 1 rfl) m)).trans (eW m hm).2
      rw [j1, j2]
      rfl
    · intro m hm
      have := hA m hm
      have j1 : fW (sI σ11 2 1) m = fW τ m := (fW_of (show gB (sI σ11 2 1) 0 m = gB σ9 0 m from congrFun (hK11.B 0 rfl) m)).trans (eW m hm).1
      unfold AmOK at this
      rw [(eW m hm).1] at this
      rw [j1]
      exact this
