/-! which sticks: a cost stands for a choice that fits -/
def usN (a : Nat → Nat) (set s : Nat) : Nat → Bool
  | 0 => false
  | n + 1 => usN a set s n || (set.testBit n && decide (a n = s))
theorem usN_iff (a : Nat → Nat) (set s : Nat) : ∀ n, usN a set s n = true ↔ ∃ m, m < n ∧ set.testBit m = true ∧ a m = s := by
  intro n
  induction n with
  | zero => exact ⟨fun h => Bool.noConfusion h, fun ⟨m, h, _⟩ => absurd h (Nat.not_lt_zero _)⟩
  | succ n ih =>
    show (usN a set s n || (set.testBit n && decide (a n = s))) = true ↔ _
    rw [Bool.or_eq_true, Bool.and_eq_true, decide_eq_true_iff, ih]
    constructor
    · rintro (⟨m, h1, h2⟩ | ⟨h1, h2⟩)
      · exact ⟨m, by omega, h2⟩
      · exact ⟨n, by omega, h1, h2⟩
    · rintro ⟨m, h1, h2⟩
      by_cases e : m = n
      · subst e; exact Or.inr h2
      · exact Or.inl ⟨m, by omega, h2⟩
theorem usN_eq {a b : Nat → Nat} {set t s n : Nat} (h : ∀ m, m < n → ((set.testBit m = true ∧ a m = s) ↔ (t.testBit m = true ∧ b m = s))) : usN a set s n = usN b t s n := by
  have h1 := usN_iff a set s n
  have h2 := usN_iff b t s n
  have : usN a set s n = true ↔ usN b t s n = true := by
    rw [h1, h2]
    constructor
    · rintro ⟨m, k1, k2⟩; exact ⟨m, k1, (h m k1).mp k2⟩
    · rintro ⟨m, k1, k2⟩; exact ⟨m, k1, (h m k1).mpr k2⟩
  cases e1 : usN a set s n <;> cases e2 : usN b t s n
  · rfl
  · rw [e1, e2] at this; exact absurd (this.mpr rfl) Bool.false_ne_true
  · rw [e1, e2] at this; exact absurd (this.mp rfl) Bool.false_ne_true
  · rfl
def ldN (J : Nat) (σ : Sg) (M : Nat) (a : Nat → Nat) (set s : Nat) : Nat := sn M (fun m => if set.testBit m = true ∧ a m = s then pieceN J σ m + 1 else 0)
def lenN (len a : Nat → Nat) (set S : Nat) : Nat := sn S (fun s => if usN a set s 9 = true then len s else 0)
def cdN (a : Nat → Nat) (set : Nat) : Nat := Vd (fun m => if set.testBit m = true then a m else 0) 9
def Good (J : Nat) (σ : Sg) (M : Nat) (len : Nat → Nat) (S set : Nat) (c : Int) : Prop :=
  c = 4611686018427387904 ∨ ∃ a : Nat → Nat, (∀ m, m < 9 → set.testBit m = true → a m < S) ∧ (∀ s, s < S → ldN J σ M a set s ≤ len s) ∧ c = ((lenN len a set S * 1953125 + cdN a set : Nat) : Int)
section GD
variable {J M S set : Nat} {σ : Sg} {len : Nat → Nat} {c : Int}
theorem Good.up (hM : M ≤ 9) (h : Good J σ M len S set c) : Good J σ M len (S + 1) set c := by
  rcases h with h | ⟨a, h1, h2, h3⟩
  · exact Or.inl h
  · have no : ∀ m, m < 9 → ¬ (set.testBit m = true ∧ a m = S) := fun m hm ⟨q1, q2⟩ => by
      have := h1 m hm q1
      omega
    refine Or.inr ⟨a, fun m hm hb => Nat.lt_succ_of_lt (h1 m hm hb), fun s hs => ?_, ?_⟩
    · by_cases e : s = S
      · subst e
        unfold ldN
        rw [sn_zero (fun m hm => if_neg (no m (by omega)))]
        exact Nat.zero_le _
      · exact h2 s (by omega)
    · have e : lenN len a set (S + 1) = lenN len a set S := by
        unfold lenN
        rw [sn_s, if_neg (fun z => by
          obtain ⟨m, m1, m2⟩ := (usN_iff a set S 9).mp z
          exact no m m1 m2)]
        rfl
      rw [e]
      exact h3
theorem Good.bd (hS : S ≤ 5) (hlen : ∀ s, s < S → len s ≤ 900) (h : Good J σ M len S set c) : c = 4611686018427387904 ∨ (0 ≤ c ∧ c ≤ 8800000000) := by
  rcases h with h | ⟨a, h1, h2, h3⟩
  · exact Or.inl h
  · have k1 : lenN len a set S ≤ S * 900 := sn_le (fun s hs => by split; exact hlen s hs; omega)
    have k2 : cdN a set < 5 ^ 9 := Vd_lt 9 (fun m hm => by
      split
      · rename_i hb
        have := h1 m hm hb
        omega
      · omega)
    have k3 : S * 900 ≤ 5 * 900 := Nat.mul_le_mul_right _ hS
    have k4 : (5 : Nat) ^ 9 = 1953125 := rfl
    right
    omega
theorem bit_of {x : Nat} (h : x ≠ 0) : ∃ m, x.testBit m = true := by
  apply Classical.byContradiction
  intro hn
  apply h
  apply Nat.eq_of_testBit_eq
  intro i
  rw [Nat.zero_testBit]
  cases hb : x.testBit i
  · rfl
  · exact absurd ⟨i, hb⟩ hn
theorem Good.cut {cut : Nat} (hM : M ≤ 9) (hset : set < 2 ^ M) (hc : cut &&& set = cut) (hc0 : cut ≠ 0) (hsp : spN J σ M cut ≤ len S) (h : Good J σ M len S (set ^^^ cut) c) (hne : c ≠ 4611686018427387904) :
    Good J σ M len (S + 1) set (c + (len S : Int) * 1953125 + (S : Int) * (wtN cut : Int)) := by
  rcases h with h | ⟨a, h1, h2, h3⟩
  · exact absurd h hne
  have hb : ∀ m, cut.testBit m = true → set.testBit m = true := fun m hm => by
    have := congrArg (fun z => z.testBit m) hc
    simp only [Nat.testBit_and] at this
    rw [hm, Bool.true_and] at this
    exact this
  have ht : ∀ m, (set ^^^ cut).testBit m = (set.testBit m && !(cut.testBit m)) := fun m => by
    rw [Nat.testBit_xor]
    have := hb m
    cases h1 : set.testBit m <;> cases h2 : cut.testBit m
    · rfl
    · rw [h1, h2] at this; exact absurd (this rfl) Bool.false_ne_true
    · rfl
    · rfl
  have m9 : ∀ m, set.testBit m = true → m < 9 := fun m hm => by
    apply Nat.lt_of_not_le
    intro hle
    rw [tb_hi (Nat.lt_of_lt_of_le hset (p512 hM) : set < 2 ^ 9) hle] at hm
    exact Bool.noConfusion hm
  obtain ⟨a', ha'⟩ : ∃ z : Nat → Nat, z = fun m => if cut.testBit m = true then S else a m := ⟨_, rfl⟩
  have ay : ∀ m, cut.testBit m = true → a' m = S := fun m hm => by rw [ha']; exact if_pos hm
  have an : ∀ m, cut.testBit m = false → a' m = a m := fun m hm => by rw [ha']; exact if_neg (by rw [hm]; exact Bool.false_ne_true)
  have tn : ∀ m, cut.testBit m = false → (set ^^^ cut).testBit m = set.testBit m := fun m hm => by rw [ht, hm]; exact Bool.and_true _
  have ty : ∀ m, cut.testBit m = true → (set ^^^ cut).testBit m = false := fun m hm => by rw [ht, hm]; exact Bool.and_false _
  have old : ∀ s, s < S → ∀ m, m < 9 → ((set.testBit m = true ∧ a' m = s) ↔ ((set ^^^ cut).testBit m = true ∧ a m = s)) := fun s hs m hm => by
    cases hcm : cut.testBit m
    · rw [tn m hcm, an m hcm]
    · rw [ty m hcm, ay m hcm]
      exact ⟨fun ⟨_, q⟩ => by omega, fun ⟨q, _⟩ => Bool.noConfusion q⟩
  have new : ∀ m, m < 9 → ((set.testBit m = true ∧ a' m = S) ↔ cut.testBit m = true) := fun m hm => by
    cases hcm : cut.testBit m
    · rw [an m hcm]
      refine ⟨fun ⟨q1, q2⟩ => ?_, fun q => Bool.noConfusion q⟩
      have := h1 m hm (by rw [tn m hcm]; exact q1)
      omega
    · rw [ay m hcm]
      exact ⟨fun _ => rfl, fun _ => ⟨hb m hcm, rfl⟩⟩
  refine Or.inr ⟨a', fun m hm hbm => ?_, fun s hs => ?_, ?_⟩
  · cases hcm : cut.testBit m
    · rw [an m hcm]
      have := h1 m hm (by rw [tn m hcm]; exact hbm)
      omega
    · rw [ay m hcm]; omega
  · by_cases e : s = S
    · subst e
      have : ldN J σ M a' set s = spN J σ M cut := sn_congr (fun m hm => by
        by_cases q : cut.testBit m = true
        · rw [if_pos ((new m (by omega)).mpr q), if_pos q]
        · rw [if_neg (fun z => q ((new m (by omega)).mp z)), if_neg q])
      rw [this]
      exact hsp
    · have hs' : s < S := by omega
      have : ldN J σ M a' set s = ldN J σ M a (set ^^^ cut) s := sn_congr (fun m hm => by
        have := old s hs' m (by omega)
        by_cases q : (set ^^^ cut).testBit m = true ∧ a m = s
        · rw [if_pos (this.mpr q), if_pos q]
        · rw [if_neg (fun z => q (this.mp z)), if_neg q])
      rw [this]
      exact h2 s hs'
  · have e1 : lenN len a' set (S + 1) = lenN len a (set ^^^ cut) S + len S := by
      unfold lenN
      rw [sn_s]
      obtain ⟨m, hm⟩ := bit_of hc0
      have h9 := m9 m (hb m hm)
      rw [if_pos ((usN_iff a' set S 9).mpr ⟨m, h9, hb m hm, ay m hm⟩)]
      congr 1
      refine sn_congr (fun s hs => ?_)
      rw [usN_eq (old s hs)]
    have e2 : cdN a' set = cdN a (set ^^^ cut) + S * wtN cut := by
      unfold cdN wtN
      rw [← Vd_lin]
      refine Vd_congr 9 (fun m hm => ?_)
      unfold bN
      cases hcm : cut.testBit m
      · rw [tn m hcm, an m hcm, if_neg Bool.false_ne_true]
        rfl
      · rw [ty m hcm, ay m hcm, hb m hcm, if_pos rfl, if_pos rfl, if_neg Bool.false_ne_true]
        omega
    rw [h3, e1, e2]
    have e3 : ((S * wtN cut : Nat) : Int) = (S : Int) * (wtN cut : Int) := Int.natCast_mul _ _
    omega
end GD
theorem sub_and {c P f : Nat} (h : c &&& (P &&& f) = c) : c &&& P = c := by
  apply Nat.eq_of_testBit_eq
  intro i
  have := congrArg (fun z => z.testBit i) h
  simp only [Nat.testBit_and] at this ⊢
  cases h1 : c.testBit i <;> cases h2 : P.testBit i
  · rfl
  · rfl
  · rw [h1, h2] at this; exact this
  · rfl
theorem and_self2 (x m : Nat) : (x &&& m) &&& m = x &&& m := by rw [Nat.and_assoc, Nat.and_self]
theorem xor_less {P c : Nat} (h : c &&& P = c) (h0 : c ≠ 0) : P ^^^ c < P := by
  have hle : P ^^^ c ≤ P := by
    apply Nat.le_of_testBit
    intro i hi
    rw [Nat.testBit_xor] at hi
    have := congrArg (fun z => z.testBit i) h
    simp only [Nat.testBit_and] at this
    cases h1 : P.testBit i
    · rw [h1, Bool.and_false] at this
      rw [h1, ← this] at hi
      exact hi
    · rfl
  have hne : P ^^^ c ≠ P := by
    intro e
    apply h0
    apply Nat.eq_of_testBit_eq
    intro i
    have := congrArg (fun z => z.testBit i) e
    simp only [Nat.testBit_xor] at this
    rw [Nat.zero_testBit]
    cases h1 : c.testBit i
    · rfl
    · rw [h1, Bool.xor_true] at this
      cases h2 : P.testBit i
      · rw [h2] at this; exact this
      · rw [h2] at this; exact this.symm
  omega
theorem s_fitting {N M T k : Nat} {σ : Sg} {Q : Int32 → Prop} (hF : Fr N M T σ) (hk : k < 5) (h : ∀ f, f < 2 ^ M → Q (nI f)) : w_X0_fitting (nI k) σ Q := by
  have hM9 : M ≤ 9 := hF.2.2.2.1
  unfold w_X0_fitting
  rw [hF.2.1, ixn (a := k) (by omega)]
  have hin5 : vp_in (nI k) 5 := in_nI hk (by decide)
  refine ⟨fun r i => ∃ m f : Nat, m ≤ M ∧ i = nI m ∧ r = nI f ∧ f < 2 ^ m, fun _ i => ((M : Int) - i.toInt).toNat, ⟨0, 0, Nat.zero_le _, rfl, rfl, by decide⟩, ?_⟩
  rintro _ _ ⟨m, f, hm, rfl, rfl, hf⟩
  refine ⟨fun q => ?_, fun q => ?_⟩
  · have := le_end q hm (by omega)
    subst this
    exact h f hf
  · have hlt : m < M := lt_of_nle q (by omega) (by omega)
    have hmu := mu_n hlt (by omega)
    have hin9 : vp_in (nI m) 9 := in_nI (by omega) (by decide)
    have hpow : 2 ^ (m + 1) = 2 * 2 ^ m := by rw [Nat.pow_succ]; omega
    have same : (∃ m' f' : Nat, m' ≤ M ∧ nI m + 1 = nI m' ∧ nI f = nI f' ∧ f' < 2 ^ m') ∧ ((M : Int) - (nI m + 1).toInt).toNat < ((M : Int) - (nI m).toInt).toNat := ⟨⟨m + 1, f, by omega, nI_1 m, rfl, by omega⟩, hmu⟩
    rw [ixn (a := m) (by omega)]
    refine ⟨hin9, hin5, fun _ => same, fun _ => ⟨hin9, hin5, fun _ => same, fun _ => ?_⟩⟩
    rintro _ rfl
    exact ⟨⟨m + 1, f ||| 2 ^ m, by omega, nI_1 m, by rw [shl_1 (by omega), nI_or], Nat.or_lt_two_pow (by omega) (Nat.pow_lt_pow_right (by decide) (Nat.lt_succ_self m))⟩, hmu⟩
theorem rng3 {x y : Int} (h1 : 0 ≤ x ∧ x ≤ 20000000000) (h3 : -(5 * 1953125) ≤ y ∧ y ≤ 5 * 1953125) : -9223372036854775808 ≤ x + y ∧ x + y < 9223372036854775808 := by omega
/-- one stick is offered -/
theorem s_offer {J M k f : Nat} {σ0 σ : Sg} {Q : Sg → Prop} {len : Nat → Nat} (hM : M ≤ 9) (hk : k < 5) (hlen : ∀ s, s ≤ k → len s ≤ 900 ∧ gA σ 19 s = nI (len s)) (hf : f < 2 ^ M)
    (hJ12 : ∀ s, spN J σ0 M s ≤ 4500) (hT : ∀ s, s < 2 ^ M → gA σ 22 s = nI (spN J σ0 M s) ∧ gA σ 23 s = nI (wtN s))
    (hg : ∀ t, t < 2 ^ M → Good J σ0 M len k t (gB σ 11 t).toInt) (hz : gB σ 11 0 = 0)
    (h : ∀ τ, Kp [] [] [] [11] σ τ → (∀ t, t < 2 ^ M → Good J σ0 M len (k + 1) t (gB τ 11 t).toInt) → gB τ 11 0 = 0 → Q τ) : w_X0_offer (nI k) (nI (2 ^ M)) (nI f) σ Q := by
  have h512 := p512 hM
  have hpos := Nat.two_pow_pos M
  unfold w_X0_offer
  rintro _ rfl
  rw [show nI (2 ^ M) - 1 = nI (2 ^ M - 1) from pk_sub (b := 1) hpos]
  refine ⟨fun i σ2 => ∃ P : Nat, P < 2 ^ M ∧ i = nI P ∧ Kp [] [] [] [11] σ σ2 ∧ (∀ t, t < 2 ^ M → Good J σ0 M len (if P < t then k + 1 else k) t (gB σ2 11 t).toInt) ∧ gB σ2 11 0 = 0, fun i _ => i.toInt.toNat, ⟨2 ^ M - 1, by omega, rfl, Kp.rf, fun t ht => by rw [if_neg (by omega)]; exact hg t ht, hz⟩, ?_⟩
  rintro _ σ2 ⟨P, hP, rfl, hK, hG, hz2⟩
  refine ⟨fun q => ?_, fun q => ?_⟩
  · have hp0 : P = 0 := by
      have := (nI_le2 (a := P) (b := 0) (by omega) (by decide)).mp q
      omega
    refine h σ2 hK (fun t ht => ?_) hz2
    have := hG t ht
    by_cases e : P < t
    · rw [if_pos e] at this; exact this
    · rw [if_neg e] at this; exact this.up hM
  · have hP0 : 0 < P := by
      apply Nat.pos_of_ne_zero
      rintro rfl
      exact q (Int32.le_refl _)
    rintro _ rfl
    rw [nI_and]
    have inP : vp_in (nI P) 512 := in_nI (by omega) (by decide)
    have hPG : Good J σ0 M len (k + 1) P (gB σ2 11 P).toInt := by
      have := hG P hP
      rw [if_neg (Nat.lt_irrefl P)] at this
      exact this.up hM
    refine ⟨fun i σ5 => ∃ c : Nat, c ≤ P ∧ c &&& (P &&& f) = c ∧ i = nI c ∧ Kp [] [] [] [11] σ σ5 ∧ (∀ t, t ≠ P → gB σ5 11 t = gB σ2 11 t) ∧ Good J σ0 M len (k + 1) P (gB σ5 11 P).toInt, fun i _ => i.toInt.toNat, ⟨P &&& f, Nat.and_le_left, Nat.and_self _, rfl, hK, fun _ _ => rfl, hPG⟩, ?_⟩
    rintro _ σ5 ⟨c, hcP, hc, rfl, hK5, hoth, hGP⟩
    refine ⟨fun q2 => ?_, fun q2 => ?_⟩
    · refine ⟨⟨P - 1, by omega, ?_, hK5, fun t ht => ?_, ?_⟩, ?_⟩
      · have := pk_m1 (P - 1)
        rw [show P - 1 + 1 = P by omega] at this
        exact this
      · by_cases e : t = P
        · subst e
          rw [if_pos (by omega)]
          exact hGP
        · have := hG t ht
          rw [hoth t e]
          by_cases e2 : P < t
          · rw [if_pos e2] at this; rw [if_pos (by omega)]; exact this
          · rw [if_neg e2] at this; rw [if_neg (by omega)]; exact this
      · rw [hoth 0 (by omega)]; exact hz2
      · have := pk_m1 (P - 1)
        rw [show P - 1 + 1 = P by omega] at this
        show (nI P + (-1)).toInt.toNat < (nI P).toInt.toNat
        rw [this, nI_ti (by omega), nI_ti (by omega)]
        omega
    · have hc0 : 0 < c := by
        apply Nat.pos_of_ne_zero
        rintro rfl
        exact q2 (Int32.le_refl _)
      have hcp := sub_and hc
      have hx := xor_less hcp (by omega)
      have inc : vp_in (nI c) 512 := in_nI (by omega) (by decide)
      have ink : vp_in (nI k) 5 := in_nI hk (by decide)
      rw [nI_xor, ixn (a := P ^^^ c) (by omega), ixn (a := c) (by omega), ixn (a := k) (by omega), ixn (a := P) (by omega)]
      refine ⟨in_nI (by omega) (by decide), ?_⟩
      intro v8 e8
      have enext : (nI c - 1) &&& nI (P &&& f) = nI ((c - 1) &&& (P &&& f)) := by
        rw [show nI c - 1 = nI (c - 1) from pk_sub (b := 1) hc0, nI_and]
      have hnl : (c - 1) &&& (P &&& f) ≤ c - 1 := Nat.and_le_left
      have next : ∀ σ6, Kp [] [] [] [11] σ σ6 → (∀ t, t ≠ P → gB σ6 11 t = gB σ2 11 t) → Good J σ0 M len (k + 1) P (gB σ6 11 P).toInt → ∀ v : Int32, v = (nI c - 1) &&& nI (P &&& f) →
          (∃ c' : Nat, c' ≤ P ∧ c' &&& (P &&& f) = c' ∧ v = nI c' ∧ Kp [] [] [] [11] σ σ6 ∧ (∀ t, t ≠ P → gB σ6 11 t = gB σ2 11 t) ∧ Good J σ0 M len (k + 1) P (gB σ6 11 P).toInt) ∧ v.toInt.toNat < (nI c).toInt.toNat := by
        rintro σ6 k1 k2 k3 _ rfl
        rw [enext]
        refine ⟨⟨(c - 1) &&& (P &&& f), by omega, and_self2 _ _, rfl, k1, k2, k3⟩, ?_⟩
        rw [nI_ti (by omega), nI_ti (by omega)]
        omega
      refine ⟨inc, ink, fun _ => next σ5 hK5 hoth hGP, fun q3 => ⟨fun q4 => ?_, fun _ => next σ5 hK5 hoth hGP⟩⟩
      have a19 : gA σ5 19 k = nI (len k) := by rw [hK5.A 19 rfl]; exact (hlen k (Nat.le_refl _)).2
      have a22 : gA σ5 22 c = nI (spN J σ0 M c) := by rw [hK5.A 22 rfl]; exact (hT c (by omega)).1
      have a23 : gA σ5 23 c = nI (wtN c) := by rw [hK5.A 23 rfl]; exact (hT c (by omega)).2
      have l900 := (hlen k (Nat.le_refl _)).1
      have s45 := hJ12 c
      have wl := wt_lt c
      rw [a19, a22] at q3
      have hsp : spN J σ0 M c ≤ len k := by
        have : ¬ len k < spN J σ0 M c := fun z => q3 ((nI_lt2 (by omega) (by omega)).mpr z)
        omega
      rw [a19, a23]
      refine ⟨ink, inc, ?_⟩
      intro v16 e16
      refine ⟨inP, inP, ?_⟩
      rintro _ rfl
      have o8 : gB σ5 11 (P ^^^ c) = gB σ2 11 (P ^^^ c) := hoth _ (by omega)
      have g8 : Good J σ0 M len k (P ^^^ c) v8.toInt := by
        have := hG (P ^^^ c) (by omega)
        rw [if_neg (by omega)] at this
        rw [e8, o8]
        exact this
      have cNO : (4611686018427387904 : Int64).toInt = 4611686018427387904 := by decide +kernel
      have ne8 : v8.toInt ≠ 4611686018427387904 := fun z => q4 (leq.mpr (z.trans cNO.symm))
      have b8 : 0 ≤ v8.toInt ∧ v8.toInt ≤ 8800000000 := by
        rcases g8.bd (by omega) (fun s hs => (hlen s (by omega)).1) with z | z
        · exact absurd z ne8
        · exact z
      have gnew := Good.cut hM hP hcp (by omega) hsp g8 ne8
      have cCH : (1953125 : Int64).toInt = 1953125 := by decide +kernel
      have t1 : ((nI (len k)).toInt64).toInt = (len k : Int) := by rw [Int32.toInt_toInt64, nI_ti (by omega)]
      have t2 : ((nI k).toInt64).toInt = (k : Int) := by rw [Int32.toInt_toInt64, nI_ti (by omega)]
      have t3 : ((nI (wtN c)).toInt64).toInt = (wtN c : Int) := by rw [Int32.toInt_toInt64, nI_ti (by omega)]
      have m1 : ((nI (len k)).toInt64 * 1953125).toInt = (len k : Int) * 1953125 := l_mul (B := 2000000000) t1 cCH (by omega) (by decide)
      have r1 : 0 ≤ v8.toInt + (len k : Int) * 1953125 ∧ v8.toInt + (len k : Int) * 1953125 ≤ 20000000000 := by omega
      have wl2 : (0 : Int) ≤ (wtN c : Int) ∧ (wtN c : Int) ≤ 1953125 := by omega
      have kb := mul_bd (x := (k : Int)) (y := (wtN c : Int)) (A := 5) (B := 1953125) (by omega) (by omega) (by decide) (by decide)
      have m2 : ((nI k).toInt64 * (nI (wtN c)).toInt64).toInt = (k : Int) * (wtN c : Int) := l_mul (B := 5 * 1953125) t2 t3 kb (by decide)
      have m3 : (v8 + (nI (len k)).toInt64 * 1953125).toInt = v8.toInt + (len k : Int) * 1953125 := l_add rfl m1 (by omega)
      have m4 : v16.toInt = v8.toInt + (len k : Int) * 1953125 + (k : Int) * (wtN c : Int) := by rw [e16]; exact l_add m3 m2 (rng3 r1 kb)
      refine next _ (hK5.sB rfl) (fun t ht => ?_) ?_
      · rw [gB_sB, if_pos rfl, updL_ap, if_neg ht]; exact hoth t ht
      · rw [gB_sB, if_pos rfl, updL_ap, if_pos rfl]
        unfold mminl
        split
        · rw [m4]; exact gnew
        · exact hGP
