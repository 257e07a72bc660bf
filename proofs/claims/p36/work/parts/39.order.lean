/-! backward, and the first order -/
section RB
variable {N M T J : Nat} {σ : Sg}
theorem ed_lt {x : FJ} {t m : Nat} (hM9 : M ≤ 9) (h : Ed J x M t m) : t + 2 ^ m < 2 ^ M ∧ m < 9 ∧ t < 512 := by
  obtain ⟨h1, h2, h3, -⟩ := h
  have h512 := p512 hM9
  have ho := or_add t (by omega) m (by omega) h3
  rw [← ho.1]
  exact ⟨Nat.or_lt_two_pow h2 (Nat.pow_lt_pow_right (by decide) h1), by omega, by omega⟩
theorem nar0 : vp_nar .boolean 0 = 0 := by decide +kernel
theorem nar1 : vp_nar .boolean 1 = 1 := by decide +kernel
theorem RaG.kept {x : FJ} {τ : Sg} {la : List Nat} (hG : RaG M J x σ) (hK : Kp [] [] la [] σ τ) (h24 : la.contains 24 = false) (h25 : la.contains 25 = false) : RaG M J x τ := by
  obtain ⟨k1, k2, k3, k4⟩ := hG
  exact ⟨(hK.I 11 rfl).trans k1, (hK.I 12 rfl).trans k2, fun m hm => by rw [hK.A 25 h25]; exact k3 m hm, fun m hm w hw => by rw [hK.A 24 h24]; exact k4 m hm w hw⟩
theorem s_backward {x : FJ} {Q : Sg → Prop} (hM9 : M ≤ 9) (hG : RaG M J x σ) (h9 : gI σ 9 = x.2.2.2.2.2.2)
    (h : ∀ τ, Kp [] [] [27] [] σ τ → (∀ t, t < 2 ^ M → (gA τ 27 t = 0 ∨ gA τ 27 t = 1) ∧ (gA τ 27 t = 1 ↔ ∃ n, Pth (Ed J x M) n t (2 ^ M - 1))) → Q τ) : w_X4_goBackward (nI M) σ Q := by
  have h512 := p512 hM9
  have hpos := Nat.two_pow_pos M
  have g11 := hG.1
  unfold w_X4_goBackward
  refine ⟨fun i σ1 => ∃ n : Nat, n ≤ 2 ^ M ∧ i = nI n ∧ Kp [] [] [27] [] σ σ1 ∧ ∀ t, t < n → gA σ1 27 t = if t = 2 ^ M - 1 then 1 else 0, fun i _ => (((2 ^ M : Nat) : Int) - i.toInt).toNat, ⟨0, Nat.zero_le _, rfl, Kp.rf, fun t ht => absurd ht (Nat.not_lt_zero _)⟩, ?_⟩
  rintro _ σ1 ⟨n, hn, rfl, hK, hT⟩
  rw [hK.I 11 rfl, g11]
  refine ⟨fun q => ?_, fun q => ?_⟩
  · have hn2 : 2 ^ M - 1 < n := (nI_lt2 (by omega) (by omega)).mp q
    have e : n = 2 ^ M := by omega
    subst e
    rintro _ rfl
    refine ⟨fun i σ4 => ∃ P : Nat, P < 2 ^ M ∧ i = nI P ∧ Kp [] [] [27] [] σ σ4 ∧ gA σ4 27 (2 ^ M - 1) = 1 ∧ ∀ t, t < 2 ^ M → (gA σ4 27 t = 0 ∨ gA σ4 27 t = 1) ∧ (gA σ4 27 t = 1 → ∃ n, Pth (Ed J x M) n t (2 ^ M - 1)) ∧ ∀ m, Ed J x M t m → P < t + 2 ^ m → (∃ n, Pth (Ed J x M) n (t + 2 ^ m) (2 ^ M - 1)) → gA σ4 27 t = 1, fun i _ => i.toInt.toNat, ⟨2 ^ M - 1, by omega, rfl, hK, by rw [hT _ (by omega), if_pos rfl], fun t ht => ⟨?_, fun z => ?_, fun m hm hlt _ => ?_⟩⟩, ?_⟩
    · rw [hT t ht]; split
      · exact Or.inr rfl
      · exact Or.inl rfl
    · rw [hT t ht] at z
      by_cases e : t = 2 ^ M - 1
      · exact ⟨0, e⟩
      · rw [if_neg e] at z; exact absurd z (by decide)
    · have := (ed_lt hM9 hm).1
      omega
    rintro _ σ4 ⟨P, hP, rfl, hK4, hall, hB⟩
    -- a set from which all can follow is marked when it is looked at
    have mark : (∃ n, Pth (Ed J x M) n P (2 ^ M - 1)) → gA σ4 27 P = 1 := by
      rintro ⟨n, hn⟩
      cases n with
      | zero =>
        have e : P = 2 ^ M - 1 := hn
        rw [e]; exact hall
      | succ n =>
        obtain ⟨m, m1, m2⟩ := hn
        have := Nat.two_pow_pos m
        exact (hB P hP).2.2 m m1 (by omega) ⟨n, m2⟩
    refine ⟨fun q2 => ?_, fun q2 => ?_⟩
    · have hP0 : P = 0 := by
        have := (nI_le2 (b := 0) (by omega) (by decide)).mp q2
        omega
      subst hP0
      refine h σ4 hK4 (fun t ht => ⟨(hB t ht).1, (hB t ht).2.1, ?_⟩)
      rintro ⟨n, hn⟩
      cases n with
      | zero =>
        have e : t = 2 ^ M - 1 := hn
        rw [e]; exact hall
      | succ n =>
        obtain ⟨m, m1, m2⟩ := hn
        have := Nat.two_pow_pos m
        exact (hB t ht).2.2 m m1 (by omega) ⟨n, m2⟩
    · have hP0 : 0 < P := by
        apply Nat.pos_of_ne_zero
        rintro rfl
        exact q2 (Int32.le_refl _)
      have hinP : vp_in (nI P) 512 := in_nI (by omega) (by decide)
      have em1 : nI P + (-1) = nI (P - 1) := by
        have := pk_m1 (P - 1)
        rwa [show P - 1 + 1 = P by omega] at this
      -- on to the next lower set
      have next : ∀ σ8, Kp [] [] [27] [] σ σ8 → gA σ8 27 (2 ^ M - 1) = 1 → (∀ t, t < 2 ^ M → (gA σ8 27 t = 0 ∨ gA σ8 27 t = 1) ∧ (gA σ8 27 t = 1 → ∃ n, Pth (Ed J x M) n t (2 ^ M - 1)) ∧ (gA σ4 27 t = 1 → gA σ8 27 t = 1)) →
          (∀ t m, t < 2 ^ M → Ed J x M t m → t + 2 ^ m = P → (∃ n, Pth (Ed J x M) n P (2 ^ M - 1)) → gA σ8 27 t = 1) →
          (∃ P' : Nat, P' < 2 ^ M ∧ nI P + (-1) = nI P' ∧ Kp [] [] [27] [] σ σ8 ∧ gA σ8 27 (2 ^ M - 1) = 1 ∧ ∀ t, t < 2 ^ M → (gA σ8 27 t = 0 ∨ gA σ8 27 t = 1) ∧ (gA σ8 27 t = 1 → ∃ n, Pth (Ed J x M) n t (2 ^ M - 1)) ∧ ∀ m, Ed J x M t m → P' < t + 2 ^ m → (∃ n, Pth (Ed J x M) n (t + 2 ^ m) (2 ^ M - 1)) → gA σ8 27 t = 1) ∧ (nI P + (-1)).toInt.toNat < (nI P).toInt.toNat := by
        intro σ8 hK8 ha hb hn8
        rw [em1]
        refine ⟨⟨P - 1, by omega, rfl, hK8, ha, fun t ht => ⟨(hb t ht).1, (hb t ht).2.1, fun m hm hlt hp => ?_⟩⟩, ?_⟩
        · by_cases e : t + 2 ^ m = P
          · rw [e] at hp
            exact hn8 t m ht hm e hp
          · exact (hb t ht).2.2 ((hB t ht).2.2 m hm (by omega) hp)
        · rw [nI_ti (by omega), nI_ti (by omega)]; omega
      have same : ∀ t, t < 2 ^ M → (gA σ4 27 t = 0 ∨ gA σ4 27 t = 1) ∧ (gA σ4 27 t = 1 → ∃ n, Pth (Ed J x M) n t (2 ^ M - 1)) ∧ (gA σ4 27 t = 1 → gA σ4 27 t = 1) := fun t ht => ⟨(hB t ht).1, (hB t ht).2.1, fun z => z⟩
      rw [ixn (a := P) (by omega)]
      refine ⟨hinP, fun q3 => ?_, fun q3 => ?_⟩
      · refine ⟨fun i s => s = σ4, fun _ _ => 0, rfl, ?_⟩
        rintro i _ rfl
        have fin := next _ hK4 hall same (fun t m _ _ _ hp => by
          have := mark hp
          rw [this] at q3
          exact absurd q3 (by decide))
        exact ⟨fun _ => fin, fun _ => fin⟩
      · have hP1 : gA σ4 27 P = 1 := by
          rcases (hB P hP).1 with z | z
          · exact absurd z q3
          · exact z
        have hG4 : RaG M J x σ4 := hG.kept hK4 rfl rfl
        refine s_propsFor hM9 hG4 (by omega) ?_
        rw [hK4.I 9 rfl, h9]
        refine ⟨fun q4 => ?_, fun q4 => ?_⟩
        · refine ⟨fun i s => s = σ4, fun _ _ => 0, rfl, ?_⟩
          rintro i _ rfl
          have fin := next _ hK4 hall same (fun t m _ hm e _ => by
            have := hm.2.2.2.1
            rw [e] at this
            exact absurd q4 (Int32.not_lt.mpr this))
          exact ⟨fun _ => fin, fun _ => fin⟩
        · have hlim : nI (prF J x M P) ≤ x.2.2.2.2.2.2 := Int32.not_lt.mp q4
          have hpathP := (hB P hP).2.1 hP1
          refine ⟨fun i σ14 => ∃ m : Nat, m ≤ M ∧ i = nI m ∧ Kp [] [] [27] [] σ σ14 ∧ gA σ14 27 (2 ^ M - 1) = 1 ∧ (∀ t, t < 2 ^ M → (gA σ14 27 t = 0 ∨ gA σ14 27 t = 1) ∧ (gA σ14 27 t = 1 → ∃ n, Pth (Ed J x M) n t (2 ^ M - 1)) ∧ (gA σ4 27 t = 1 → gA σ14 27 t = 1)) ∧ ∀ l, l < m → P.testBit l = true → mvF J x l (P - 2 ^ l) = true → gA σ14 27 (P - 2 ^ l) = 1, fun i _ => ((M : Int) - i.toInt).toNat, ⟨0, Nat.zero_le _, rfl, hK4, hall, same, fun l hl => absurd hl (Nat.not_lt_zero _)⟩, ?_⟩
          rintro _ σ14 ⟨m, hm, rfl, hK14, hall14, hb14, hl14⟩
          refine ⟨fun q5 => ?_, fun q5 => ?_⟩
          · have := le_end q5 hm (by omega)
            subst this
            refine next σ14 hK14 hall14 hb14 (fun t l ht hl e _ => ?_)
            obtain ⟨e1, e2, e3, e4, e5⟩ := id hl
            have ho := or_add t (by omega) l (by omega) e3
            have hb : P.testBit l = true := by rw [← e]; exact ho.2.2
            have et : P - 2 ^ l = t := by omega
            have := hl14 l e1 hb (by rw [et]; exact e5)
            rwa [et] at this
          · have hmlt : m < M := lt_of_nle q5 (by omega) (by omega)
            have hmu2 := mu_n hmlt (by omega)
            have skip : ¬ (P.testBit m = true ∧ mvF J x m (P - 2 ^ m) = true) →
                (∃ m' : Nat, m' ≤ M ∧ nI m + 1 = nI m' ∧ Kp [] [] [27] [] σ σ14 ∧ gA σ14 27 (2 ^ M - 1) = 1 ∧ (∀ t, t < 2 ^ M → (gA σ14 27 t = 0 ∨ gA σ14 27 t = 1) ∧ (gA σ14 27 t = 1 → ∃ n, Pth (Ed J x M) n t (2 ^ M - 1)) ∧ (gA σ4 27 t = 1 → gA σ14 27 t = 1)) ∧ ∀ l, l < m' → P.testBit l = true → mvF J x l (P - 2 ^ l) = true → gA σ14 27 (P - 2 ^ l) = 1) ∧ ((M : Int) - (nI m + 1).toInt).toNat < ((M : Int) - (nI m).toInt).toNat := fun hno => by
              refine ⟨⟨m + 1, by omega, nI_1 m, hK14, hall14, hb14, fun l hl h1 h2 => ?_⟩, hmu2⟩
              by_cases e : l = m
              · subst e; exact absurd ⟨h1, h2⟩ hno
              · exact hl14 l (by omega) h1 h2
            rintro _ rfl
            rw [cl_nI P (by omega) m (by omega)]
            cases hb : P.testBit m
            · have ec : clN2 P m = P := by unfold clN2; rw [hb]; rfl
              rw [ec]
              exact ⟨fun _ => skip (fun z => by rw [hb] at z; exact Bool.noConfusion z.1), fun q6 => absurd rfl q6⟩
            · have ec : clN2 P m = P - 2 ^ m := by unfold clN2; rw [hb]; rfl
              obtain ⟨b1, b2, b3, b4, b5, b6, b7⟩ := bit_sub hM9 hP hb
              rw [ec, ixn (a := P - 2 ^ m) (by omega)]
              refine ⟨fun q6 => absurd ((nI_eq2 (by omega) (by omega)).mp q6) (by omega), fun _ => ?_⟩
              refine s_move hM9 (hG.kept hK14 rfl rfl) hmlt (fun hmv => ⟨fun q7 => absurd q7 (by decide), fun _ => ⟨in_nI (by omega) (by decide), ?_⟩⟩) (fun hmv => ⟨fun _ => skip (fun z => by rw [hmv] at z; exact Bool.noConfusion z.2), fun q7 => absurd rfl q7⟩)
              rintro _ rfl
              rw [nar1]
              have hpb : ∃ n, Pth (Ed J x M) n (P - 2 ^ m) (2 ^ M - 1) := by
                obtain ⟨n, hn⟩ := hpathP
                exact ⟨n + 1, m, ⟨hmlt, by omega, b5, by rw [b6]; exact hlim, hmv⟩, by rw [b6]; exact hn⟩
              have val : ∀ t, gA (sA σ14 27 (P - 2 ^ m) 1) 27 t = if t = P - 2 ^ m then 1 else gA σ14 27 t := fun t => by
                rw [gA_sA, if_pos rfl, upd_ap]
              refine ⟨⟨m + 1, by omega, nI_1 m, hK14.sA rfl, ?_, fun t ht => ?_, fun l hl h1 h2 => ?_⟩, hmu2⟩
              · rw [val, if_neg (by omega)]; exact hall14
              · rw [val]
                by_cases e : t = P - 2 ^ m
                · subst e
                  rw [if_pos rfl]
                  exact ⟨Or.inr rfl, fun _ => hpb, fun _ => rfl⟩
                · rw [if_neg e]; exact hb14 t ht
              · rw [val]
                by_cases e : l = m
                · subst e; rw [if_pos rfl]
                · split
                  · rfl
                  · exact hl14 l (by omega) h1 h2
  · have hlt : n < 2 ^ M := by
      apply Nat.lt_of_not_le
      intro z
      exact q (nI_lt (by omega) (by omega))
    have hmu := mu_n hlt (by omega)
    have hin : vp_in (nI n) 512 := in_nI (by omega) (by decide)
    have step : ∀ v : Int32, v = (if n = 2 ^ M - 1 then 1 else 0) → (∃ n' : Nat, n' ≤ 2 ^ M ∧ nI n + 1 = nI n' ∧ Kp [] [] [27] [] σ (sA σ1 27 n v) ∧ ∀ t, t < n' → gA (sA σ1 27 n v) 27 t = if t = 2 ^ M - 1 then 1 else 0) ∧ (((2 ^ M : Nat) : Int) - (nI n + 1).toInt).toNat < (((2 ^ M : Nat) : Int) - (nI n).toInt).toNat := fun v hv => by
      refine ⟨⟨n + 1, by omega, nI_1 n, hK.sA rfl, fun t ht => ?_⟩, hmu⟩
      rw [gA_sA, if_pos rfl, upd_ap]
      by_cases e : t = n
      · rw [if_pos e, hv, e]
      · rw [if_neg e]; exact hT t (by omega)
    rw [ixn (a := n) (by omega), nar0, nar1]
    refine ⟨fun q2 => ⟨hin, ?_⟩, fun q2 => ⟨hin, ?_⟩⟩
    · rintro _ rfl
      exact step _ (by rw [if_neg (fun e => q2 (by rw [e]))])
    · rintro _ rfl
      exact step _ (by rw [if_pos ((nI_eq2 (by omega) (by omega)).mp q2)])
theorem s_first {x : FJ} {s : Nat} {Q : Int32 → Prop} (hM9 : M ≤ 9) (hG : RaG M J x σ) (h9 : gI σ 9 = x.2.2.2.2.2.2) (hs : s < 2 ^ M) (hB : ∀ t, t < 2 ^ M → gA σ 27 t = 0 ∨ gA σ 27 t = 1)
    (h1 : ∀ m, Ed J x M s m → gA σ 27 (s + 2 ^ m) = 1 → Q (nI m)) (h0 : (∀ m, Ed J x M s m → ¬ gA σ 27 (s + 2 ^ m) = 1) → Q (-1)) : w_X4_firstThatLeads (nI s) (nI M) σ Q := by
  have h512 := p512 hM9
  unfold w_X4_firstThatLeads
  refine ⟨fun i => ∃ m : Nat, m ≤ M ∧ i = nI m ∧ ∀ l, l < m → Ed J x M s l → ¬ gA σ 27 (s + 2 ^ l) = 1, fun i => ((M : Int) - i.toInt).toNat, ⟨0, Nat.zero_le _, rfl, fun l hl => absurd hl (Nat.not_lt_zero _)⟩, ?_⟩
  rintro _ ⟨m, hm, rfl, hl⟩
  refine ⟨fun q => ?_, fun q => ?_⟩
  · have := le_end q hm (by omega)
    subst this
    exact h0 (fun l hE => hl l hE.1 hE)
  · have hlt : m < M := lt_of_nle q (by omega) (by omega)
    have hmu := mu_n hlt (by omega)
    have skip : ¬ (Ed J x M s m ∧ gA σ 27 (s + 2 ^ m) = 1) → (∃ m' : Nat, m' ≤ M ∧ nI m + 1 = nI m' ∧ ∀ l, l < m' → Ed J x M s l → ¬ gA σ 27 (s + 2 ^ l) = 1) ∧ ((M : Int) - (nI m + 1).toInt).toNat < ((M : Int) - (nI m).toInt).toNat := fun hno => by
      refine ⟨⟨m + 1, by omega, nI_1 m, fun l hl2 hE hg => ?_⟩, hmu⟩
      by_cases e : l = m
      · subst e; exact hno ⟨hE, hg⟩
      · exact hl l (by omega) hE hg
    rintro _ rfl
    rw [shl_1 (by omega), nI_or]
    cases hb : s.testBit m
    · obtain ⟨o1, o2, o3⟩ := or_add s (by omega) m (by omega) hb
      have hlt2 : s + 2 ^ m < 2 ^ M := by
        rw [← o1]
        exact Nat.or_lt_two_pow hs (Nat.pow_lt_pow_right (by decide) hlt)
      have hpm := Nat.two_pow_pos m
      rw [o1, ixn (a := s + 2 ^ m) (by omega)]
      refine ⟨fun q2 => absurd ((nI_eq2 (by omega) (by omega)).mp q2) (by omega), fun _ => ⟨in_nI (by omega) (by decide), fun q2 => skip (fun z => by rw [z.2] at q2; exact absurd q2 (by decide)), fun q2 => ?_⟩⟩
      have h27 : gA σ 27 (s + 2 ^ m) = 1 := by
        rcases hB _ hlt2 with z | z
        · exact absurd z q2
        · exact z
      refine s_propsFor hM9 hG (by omega) ?_
      rw [h9]
      refine ⟨fun q3 => skip (fun z => absurd q3 (Int32.not_lt.mpr z.1.2.2.2.1)), fun q3 => ?_⟩
      refine s_move hM9 hG hlt (fun hmv => ⟨fun q4 => absurd q4 (by decide), fun _ => h1 m ⟨hlt, hs, hb, Int32.not_lt.mp q3, hmv⟩ h27⟩) (fun hmv => ⟨fun _ => skip (fun z => ?_), fun q4 => absurd rfl q4⟩)
      have := z.1.2.2.2.2
      rw [hmv] at this
      exact Bool.noConfusion this
    · rw [or_same s (by omega) m (by omega) hb]
      exact ⟨fun _ => skip (fun z => by have := z.1.2.2.1; rw [hb] at this; exact Bool.noConfusion this), fun q2 => absurd rfl q2⟩
theorem stn_congr {o o' : Nat → Nat} : ∀ n, (∀ k, k < n → o k = o' k) → stn o n = stn o' n := by
  intro n
  induction n with
  | zero => intro _; rfl
  | succ n ih =>
    intro h
    show stn o n ||| 2 ^ o n = stn o' n ||| 2 ^ o' n
    rw [ih (fun k hk => h k (by omega)), h n (by omega)]
theorem pc_all : ∀ M, M < 10 → pc (2 ^ M - 1) = M := by decide +kernel
theorem s_findOrder {x : FJ} {Q : Sg → Prop} (hM9 : M ≤ 9) (hG : RaG M J x σ) (h9 : gI σ 9 = x.2.2.2.2.2.2)
    (hB : ∀ t, t < 2 ^ M → (gA σ 27 t = 0 ∨ gA σ 27 t = 1) ∧ (gA σ 27 t = 1 ↔ ∃ n, Pth (Ed J x M) n t (2 ^ M - 1)))
    (h : ∀ τ, Kp [] [] [28] [] σ τ → (gA σ 27 0 = 1 → ∃ o : Nat → Nat, (∀ k, k < M → gA τ 28 k = nI (o k) ∧ o k < M) ∧ (∀ k, k < M → (stn o k).testBit (o k) = false) ∧ ∀ k, k < M → nI (prF J x M (stn o (k + 1))) ≤ x.2.2.2.2.2.2) → Q τ) : w_X4_findOrder (nI M) σ Q := by
  have h512 := p512 hM9
  have hpos := Nat.two_pow_pos M
  unfold w_X4_findOrder
  refine ⟨fun st i σ1 => ∃ (n : Nat) (o : Nat → Nat), n ≤ M ∧ i = nI n ∧ st = nI (stn o n) ∧ stn o n < 2 ^ M ∧ pc (stn o n) = n ∧ Kp [] [] [28] [] σ σ1 ∧ (∀ k, k < n → gA σ1 28 k = nI (o k) ∧ o k < M ∧ (stn o k).testBit (o k) = false ∧ nI (prF J x M (stn o (k + 1))) ≤ x.2.2.2.2.2.2) ∧ (gA σ 27 0 = 1 → gA σ 27 (stn o n) = 1), fun _ i _ => ((M : Int) - i.toInt).toNat, ⟨0, fun _ => 0, Nat.zero_le _, rfl, rfl, hpos, by decide +kernel, Kp.rf, fun k hk => absurd hk (Nat.not_lt_zero _), fun z => z⟩, ?_⟩
  rintro _ _ σ1 ⟨n, o, hn, rfl, rfl, hs, hpc, hK, ho, hlead⟩
  refine ⟨fun q => ?_, fun q => ?_⟩
  · have := le_end q hn (by omega)
    subst this
    exact h σ1 hK (fun _ => ⟨o, fun k hk => ⟨(ho k hk).1, (ho k hk).2.1⟩, fun k hk => (ho k hk).2.2.1, fun k hk => (ho k hk).2.2.2⟩)
  · have hlt : n < M := lt_of_nle q (by omega) (by omega)
    have e27 : gA σ1 27 = gA σ 27 := hK.A 27 rfl
    refine s_first hM9 (hG.kept hK rfl rfl) ((hK.I 9 rfl).trans h9) hs (fun t ht => by rw [e27]; exact (hB t ht).1) (fun m hE hg => ?_) (fun hno => ?_)
    · obtain ⟨f1, f2, f3⟩ := ed_lt hM9 hE
      obtain ⟨e1, e2, e3, e4, e5⟩ := id hE
      obtain ⟨o1, o2, o3⟩ := or_add (stn o n) f3 m f2 e3
      refine ⟨fun _ => ⟨in_nI (by omega) (by decide), ?_⟩, fun q2 => absurd (nI_pos' (by omega)) q2⟩
      rintro _ rfl
      rintro _ rfl
      rw [ixn (a := n) (by omega)]
      obtain ⟨o', ho'⟩ : ∃ z : Nat → Nat, z = fun k => if k = n then m else o k := ⟨_, rfl⟩
      have on : o' n = m := by rw [ho']; exact if_pos rfl
      have ok : ∀ k, k ≠ n → o' k = o k := fun k hk => by rw [ho']; exact if_neg hk
      have sk : ∀ k, k ≤ n → stn o' k = stn o k := fun k hk => stn_congr k (fun j hj => ok j (by omega))
      have sn1 : stn o' (n + 1) = stn o n + 2 ^ m := by
        show stn o' n ||| 2 ^ o' n = _
        rw [sk n (Nat.le_refl _), on, o1]
      refine ⟨⟨n + 1, o', by omega, nI_1 n, ?_, by rw [sn1]; exact f1, by rw [sn1, o2, hpc], hK.sA rfl, fun k hk => ?_, fun _ => ?_⟩, mu_n hlt (by omega)⟩
      · rw [shl_1 (by omega), nI_or, sn1, o1]
      · rw [gA_sA, if_pos rfl, upd_ap]
        by_cases e : k = n
        · subst e
          rw [if_pos rfl, on, sk k (Nat.le_refl _), sn1]
          exact ⟨rfl, e1, e3, e4⟩
        · rw [if_neg e, ok k e, sk k (by omega), sk (k + 1) (by omega)]
          exact ho k (by omega)
      · rw [sn1, ← e27]; exact hg
    · refine ⟨fun q2 => absurd q2 neg1, fun _ => h σ1 hK (fun h0 => ?_)⟩
      obtain ⟨k, hk⟩ := ((hB _ hs).2).mp (hlead h0)
      cases k with
      | zero =>
        have e : stn o n = 2 ^ M - 1 := hk
        rw [e, pc_all M (by omega)] at hpc
        omega
      | succ k =>
        obtain ⟨m, m1, m2⟩ := hk
        refine absurd ?_ (hno m m1)
        rw [e27]
        exact ((hB _ (ed_lt hM9 m1).1).2).mpr ⟨k, m2⟩
/-- orders are found, once -/
theorem s_rfind {Q : Sg → Prop} (hF : Fr N M T σ) (hJ : Jo M J σ) (h0 : ¬ gI σ 10 = 0 → RaOK M J σ)
    (h : ∀ τ, Kp [10, 11, 12] [] [24, 25, 26, 27, 28] [] σ τ → ¬ gI τ 10 = 0 → RaOK M J τ → (¬ gI σ 10 = 0 → τ = σ) → Q τ) : w_X4_find σ Q := by
  have hM9 : M ≤ 9 := hF.2.2.2.1
  have h512 := p512 hM9
  have hpos := Nat.two_pow_pos M
  unfold w_X4_find
  refine ⟨fun q => ?_, fun q => h σ Kp.rf q (h0 q) (fun _ => rfl)⟩
  rintro _ rfl
  rw [hF.2.1, shl_1 (by omega), show nI (2 ^ M) - 1 = nI (2 ^ M - 1) from pk_sub (b := 1) hpos]
  have hK2 : Kp [10, 11, 12] [] [24, 25, 26, 27, 28] [] σ (sI σ 11 (nI (2 ^ M - 1))) := Kp.rf.sI rfl
  have hF2 : Fr N M T (sI σ 11 (nI (2 ^ M - 1))) := hF.congr rfl rfl (fun k _ => rfl)
  have hJ2 : Jo M J (sI σ 11 (nI (2 ^ M - 1))) := hJ.congr rfl (fun k _ _ => rfl)
  have hx2 : fj (sI σ 11 (nI (2 ^ M - 1))) = fj σ := rfl
  refine s_gather hF2 hJ2 (by rw [gI_sI, if_pos rfl]) (fun τ4 hK4 hG4 => ?_)
  rw [hx2] at hG4
  have m4 : gI τ4 1 = nI M := (hK4.I 1 rfl).trans hF2.2.1
  have l4 : gI τ4 9 = (fj σ).2.2.2.2.2.2 := hK4.I 9 rfl
  rw [m4]
  refine s_forward hM9 hG4 l4 (fun τ6 hK6 hC6 => ?_)
  rw [(hK6.I 1 rfl).trans m4]
  have hG6 := hG4.kept hK6 rfl rfl
  have l6 : gI τ6 9 = (fj σ).2.2.2.2.2.2 := (hK6.I 9 rfl).trans l4
  refine s_backward hM9 hG6 l6 (fun τ8 hK8 hB8 => ?_)
  rw [(hK8.I 1 rfl).trans ((hK6.I 1 rfl).trans m4)]
  have hG8 := hG6.kept hK8 rfl rfl
  have l8 : gI τ8 9 = (fj σ).2.2.2.2.2.2 := (hK8.I 9 rfl).trans l6
  refine s_findOrder hM9 hG8 l8 hB8 (fun τ10 hK10 hO => ?_)
  rintro _ rfl
  have hK : Kp [10, 11, 12] [] [24, 25, 26, 27, 28] [] σ (sI τ10 10 1) := ((((hK2.tr (hK4.mo rfl rfl rfl rfl)).tr (hK6.mo rfl rfl rfl rfl)).tr (hK8.mo rfl rfl rfl rfl)).tr (hK10.mo rfl rfl rfl rfl)).sI rfl
  have hx : fj (sI τ10 10 1) = fj σ := fj_of (hK.A 3 rfl) (hK.A 4 rfl) (hK.A 5 rfl) (hK.A 13 rfl) (hK.A 14 rfl) (hK.A 15 rfl) (hK.I 9 rfl)
  have hG10 := hG8.kept hK10 rfl rfl
  refine h _ hK (by rw [gI_sI, if_pos rfl]; decide) ?_ (fun z => absurd q z)
  unfold RaOK
  rw [hx]
  refine ⟨?_, ?_⟩
  · obtain ⟨k1, k2, k3, k4⟩ := hG10
    exact ⟨k1, k2, k3, k4⟩
  · obtain ⟨c, c1, c2, c3⟩ := hC6 (2 ^ M - 1) (by omega)
    have hb := hB8 0 hpos
    have e26 : gA (sI τ10 10 1) 26 = gA τ6 26 := (hK10.A 26 rfl).trans (hK8.A 26 rfl)
    have e27 : gA (sI τ10 10 1) 27 = gA τ8 27 := hK10.A 27 rfl
    have e9 : gI (sI τ10 10 1) 9 = (fj σ).2.2.2.2.2.2 := hK.I 9 rfl
    refine ⟨c, ?_, by rw [e26]; exact c2, c3, by rw [e27]; exact hb.1, by rw [e27]; exact hb.2, fun hcan => ?_⟩
    · have : pc (2 ^ M - 1) ≤ 9 := pcn_le _ 9
      have h2 : 9 ^ pc (2 ^ M - 1) ≤ 9 ^ 9 := Nat.pow_le_pow_right (by decide) this
      have h3 : (9 : Nat) ^ 9 = 387420489 := rfl
      omega
    · obtain ⟨o, o1, o2, o3⟩ := hO (hb.2.mpr hcan)
      exact ⟨o, o1, o2, fun k hk => by rw [e9]; exact o3 k hk⟩
theorem s_rfind2 {Q : Sg → Prop} (hf : ¬ gI σ 10 = 0) (h : Q σ) : w_X4_find σ Q := ⟨fun q => absurd q hf, fun _ => h⟩
end RB
