/-! texts -/
theorem s_canEnc {c : Int32} {σ : Sg} {Q : Int32 → Prop} (h : ¬ c < 0 ∧ ¬ 255 < c) (hQ : Q 1) : w_J1_canEncode_9a6ad c σ Q :=
  ⟨fun q => absurd q h.1, fun _ => ⟨fun q => absurd q h.2, fun _ => hQ⟩⟩
theorem s_kindIx {c : Int32} {σ : Sg} {Q : Int32 → Prop} (hc : c = 45 ∨ c = 112 ∨ c = 114) (h : ∀ r : Int32, 0 ≤ r → Q r) : w_J0_indexOf_0f7a4_S0 c σ Q := by
  unfold w_J0_indexOf_0f7a4_S0 w_J0_indexOf_7cf53_S0_0 w_J1_indexOf_4cfef_V0_0_3
  refine s_canEnc ?_ ⟨fun _ => ?_, fun q => absurd q (by decide)⟩
  · rcases hc with rfl | rfl | rfl <;> decide
  · unfold w_J1_indexOfChar_4cfef_V0_0_3
    rintro _ rfl
    refine ⟨fun a => ⟨fun b => ⟨fun d => ?_, fun _ => h 2 (by decide)⟩, fun _ => h 1 (by decide)⟩, fun _ => h 0 (by decide)⟩
    rcases hc with rfl | rfl | rfl
    · exact absurd (by decide) a
    · exact absurd (by decide) b
    · exact absurd (by decide) d
theorem s_stateIx {c : Int32} {σ : Sg} {Q : Int32 → Prop} (hc : c = 108 ∨ c = 116 ∨ c = 99 ∨ c = 46) (h : ∀ r : Int32, 0 ≤ r → Q r) : w_J0_indexOf_0f7a4_S16 c σ Q := by
  unfold w_J0_indexOf_0f7a4_S16 w_J0_indexOf_7cf53_S16_0 w_J1_indexOf_4cfef_V16_0_4
  refine s_canEnc ?_ ⟨fun _ => ?_, fun q => absurd q (by decide)⟩
  · rcases hc with rfl | rfl | rfl | rfl <;> decide
  · unfold w_J1_indexOfChar_4cfef_V16_0_4
    rintro _ rfl
    refine ⟨fun a => ⟨fun b => ⟨fun d => ⟨fun e => ?_, fun _ => h 3 (by decide)⟩, fun _ => h 2 (by decide)⟩, fun _ => h 1 (by decide)⟩, fun _ => h 0 (by decide)⟩
    rcases hc with rfl | rfl | rfl | rfl
    · exact absurd (by decide) a
    · exact absurd (by decide) b
    · exact absurd (by decide) d
    · exact absurd (by decide) e
theorem s_wayIx {c : Int32} {σ : Sg} {Q : Int32 → Prop} (hc : c = 117 ∨ c = 100 ∨ c = 108 ∨ c = 114 ∨ c = 102) (h : ∀ w : Nat, w < 5 → Q (nI w)) : w_X3_wayIndex c σ Q := by
  unfold w_X3_wayIndex w_J0_indexOf_0f7a4_S8 w_J0_indexOf_7cf53_S8_0 w_J1_indexOf_4cfef_V8_0_5
  refine s_canEnc ?_ ⟨fun _ => ?_, fun q => absurd q (by decide)⟩
  · rcases hc with rfl | rfl | rfl | rfl | rfl <;> decide
  · unfold w_J1_indexOfChar_4cfef_V8_0_5
    rintro _ rfl
    refine ⟨fun a => ⟨fun b => ⟨fun d => ⟨fun e => ⟨fun f => ?_, fun _ => h 4 (by decide)⟩, fun _ => h 3 (by decide)⟩, fun _ => h 2 (by decide)⟩, fun _ => h 1 (by decide)⟩, fun _ => h 0 (by decide)⟩
    rcases hc with rfl | rfl | rfl | rfl | rfl
    · exact absurd (by decide) a
    · exact absurd (by decide) b
    · exact absurd (by decide) d
    · exact absurd (by decide) e
    · exact absurd (by decide) f
theorem s_charAt27 {k : Nat} {σ : Sg} {Q : Int32 → Prop} (hk : k < 3) (h : ∀ c : Int32, c = 45 ∨ c = 112 → Q c) : w_J0_charAt_5068e_S27 (nI k) σ Q := by
  unfold w_J0_charAt_5068e_S27 w_J1_charAt_3b067_V27 w_J0_checkIndex_df160_3 w_J3_checkIndex_8e157
  refine ⟨fun q => absurd q (nI_pos (by omega)), fun _ => ⟨fun _ => ⟨in_nI hk (by decide), ?_⟩, fun q => absurd (nI_lt (b := 3) hk (by decide)) q⟩⟩
  rcases (show k = 0 ∨ k = 1 ∨ k = 2 by omega) with rfl | rfl | rfl
  · exact ⟨by decide +kernel, by decide +kernel, h _ (Or.inl (by decide +kernel))⟩
  · exact ⟨by decide +kernel, by decide +kernel, h _ (Or.inl (by decide +kernel))⟩
  · exact ⟨by decide +kernel, by decide +kernel, h _ (Or.inr (by decide +kernel))⟩
theorem s_charAt28 {k : Nat} {σ : Sg} {Q : Int32 → Prop} (hk : k < 5) (h : ∀ c : Int32, c = 117 ∨ c = 100 ∨ c = 108 ∨ c = 114 ∨ c = 102 → Q c) : w_J0_charAt_5068e_S28 (nI k) σ Q := by
  unfold w_J0_charAt_5068e_S28 w_J1_charAt_3b067_V28 w_J0_checkIndex_df160_5 w_J3_checkIndex_8e157
  refine ⟨fun q => absurd q (nI_pos (by omega)), fun _ => ⟨fun _ => ⟨in_nI hk (by decide), ?_⟩, fun q => absurd (nI_lt (b := 5) hk (by decide)) q⟩⟩
  rcases (show k = 0 ∨ k = 1 ∨ k = 2 ∨ k = 3 ∨ k = 4 by omega) with rfl | rfl | rfl | rfl | rfl
  · exact ⟨by decide +kernel, by decide +kernel, h _ (by decide +kernel)⟩
  · exact ⟨by decide +kernel, by decide +kernel, h _ (by decide +kernel)⟩
  · exact ⟨by decide +kernel, by decide +kernel, h _ (by decide +kernel)⟩
  · exact ⟨by decide +kernel, by decide +kernel, h _ (by decide +kernel)⟩
  · exact ⟨by decide +kernel, by decide +kernel, h _ (by decide +kernel)⟩
/-! nodes -/
def Start (N : Nat) (σ : Sg) : Prop :=
  Fr N 0 0 σ ∧ gI σ 4 = 0 ∧ gI σ 5 = 0 ∧ gI σ 9 = 2 ∧ gI σ 2 = 0 ∧ gI σ 6 = 0 ∧ gI σ 10 = 0 ∧ gA σ 22 0 = 0 ∧ gA σ 23 0 = 0
theorem Start.inv {N : Nat} {σ : Sg} (h : Start N σ) : Inv N 0 0 0 0 σ := by
  obtain ⟨h1, h2, h3, h4, h5, h6, h7, h8, h9⟩ := h
  exact ⟨h1, ⟨h2, by decide, fun j hj => absurd hj (Nat.not_lt_zero _)⟩, ⟨h3, by decide, fun j hj => absurd hj (Nat.not_lt_zero _), h8, h9⟩, ⟨2, by decide, h4⟩, fun q => absurd h5 q, fun q => absurd h6 q, fun q => absurd h7 q⟩
theorem nar_char {c : Int32} (h : c = 45 ∨ c = 112 ∨ c = 114) : vp_nar .char c = c := by
  rcases h with rfl | rfl | rfl <;> rfl
theorem s_L_node {N x y : Nat} {c : Int32} {σ : Sg} {Q : Int32 → Sg → Prop} (h : Start N σ) (hN : N < 5) (hx : 5 * N ≤ x ∧ x < 5 * N + 5) (hy : y < 12) (hc : c = 45 ∨ c = 112 ∨ c = 114) (h0 : N = 0 → c = 112) (h1 : N = 1 → c = 114) (hQ : ∀ τ, Start (N + 1) τ → Q (nI N) τ) : w_L_node (nI x) (nI y) c σ Q := by
  obtain ⟨⟨a1, a2, a3, a4, a5, a6, a7, a8, a9, a10, a11⟩, b2, b3, b4, b5, b6, b7, b8, b9⟩ := h
  unfold w_L_node w_X6_node
  have e0 : (0 : Int32).toInt = 0 := rfl
  have e30 : (30 : Int32).toInt = 30 := rfl
  refine s_withinY (by rw [nI_ti (by omega), e0, e30]; omega) ⟨fun q => absurd q (by decide), fun _ => s_withinY (by rw [nI_ti (by omega), e0, e30]; omega) ⟨fun q => absurd q (by decide), fun _ => s_kindIx hc (fun r hr => ⟨fun _ => ⟨fun _ => ?_, fun q => ?_⟩, fun q => absurd hr q⟩)⟩⟩
  · rintro _ rfl
    unfold w_X2_addNode
    rintro v rfl
    rw [gI_sI, if_neg (by decide), a1, ix20 (by omega), ix21 (by omega), ixn (by omega), nar_char hc, nI_1]
    refine ⟨in20 (by omega) (by decide), ?_⟩
    rintro _ rfl
    refine ⟨in21 (by omega) (by decide), ?_⟩
    rintro _ rfl
    refine ⟨in_nI (by omega) (by decide), ?_⟩
    rintro _ rfl
    rintro _ rfl
    apply hQ
    unfold Start Fr
    simp only [gI_sI, gI_sA, gA_sI, gA_sA, upd_ap, Nat.reduceEqDiff, if_true, if_false, reduceIte, Nat.zero_ne_one, Nat.one_ne_zero, Nat.succ_ne_zero]
    refine ⟨⟨trivial, a2, by omega, a4, a5, fun k hk => ?_, ⟨fun _ => ?_, fun _ => ?_⟩, a8, a9, fun m hm => absurd hm (Nat.not_lt_zero _), fun m hm => absurd hm (Nat.not_lt_zero _)⟩, b2, b3, b4, trivial, b6, b7, b8, b9⟩
    · by_cases e : k = N
      · subst e
        refine ⟨x, y, ?_, ?_, by omega, by omega, hy⟩
        · rw [if_neg (by omega), if_pos rfl]
        · rw [if_pos rfl]
      · obtain ⟨x', y', f1, f2, f3⟩ := a6 k (by omega)
        refine ⟨x', y', ?_, ?_, f3⟩
        · rw [if_neg (by omega), if_neg (by omega)]; exact f1
        · rw [if_neg (by omega), if_neg (by omega)]; exact f2
    · by_cases e : N = 0
      · rw [if_pos e.symm]; exact h0 e
      · rw [if_neg (fun z => e z.symm)]; exact a7.1 (by omega)
    · by_cases e : N = 1
      · rw [if_pos e.symm]; exact h1 e
      · rw [if_neg (fun z => e z.symm)]; exact a7.2 (by omega)
  · exact absurd (show gI σ 0 < nI 8 by rw [a1]; exact nI_lt (by omega) (by omega)) q
