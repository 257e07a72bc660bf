/-! pieces -/
theorem s_joinsIn {M J m : Nat} {σ : Sg} {Q : Int32 → Prop} (hJ : Jo M J σ) (h : Q (nI (gc σ m J))) : w_X3_joinsGoingIn (nI m) σ Q := by
  obtain ⟨e1, e2, -⟩ := hJ
  unfold w_X3_joinsGoingIn
  rw [e1]
  refine ⟨fun r i => ∃ n : Nat, n ≤ J ∧ i = nI n ∧ r = nI (gc σ m n), fun _ i => ((J : Int) - i.toInt).toNat, ⟨0, Nat.zero_le _, rfl, rfl⟩, ?_⟩
  rintro _ _ ⟨n, hn, rfl, rfl⟩
  refine ⟨fun q => ?_, fun q => ?_⟩
  · have := le_end q hn (by omega)
    subst this
    exact h
  · have hlt : n < J := lt_of_nle q (by omega) (by omega)
    have hmu := mu_n hlt (by omega)
    rw [ixn (a := n) (by omega)]
    refine ⟨in_nI (by omega) (by decide), fun q2 => ?_, fun q2 => ?_⟩
    · rintro _ rfl
      refine ⟨⟨n + 1, by omega, nI_1 n, ?_⟩, hmu⟩
      show nI (gc σ m n) + nI 0 = nI (gc σ m n + (if gA σ 13 n = nI m then 1 else 0))
      rw [if_neg q2, nI_add]
    · rintro _ rfl
      refine ⟨⟨n + 1, by omega, nI_1 n, ?_⟩, hmu⟩
      show nI (gc σ m n) + nI 1 = nI (gc σ m n + (if gA σ 13 n = nI m then 1 else 0))
      rw [if_pos q2, nI_add]
theorem s_pieceLen {N M T J m : Nat} {σ : Sg} {Q : Int32 → Prop} (hF : Fr N M T σ) (hJ : Jo M J σ) (hm : m < M) (h : Q (nI (pieceN J σ m))) : w_X0_pieceLength (nI m) σ Q := by
  unfold w_X0_pieceLength
  refine s_lengthSq hF hm ?_
  rintro _ rfl
  have fin : ∀ n, n = plG (100 * lenSq σ m) 0 425 → w_X3_joinsGoingIn (nI m) σ (fun r5 => Q (nI n + (4 * r5))) := fun n hn => by
    refine s_joinsIn hJ ?_
    have e : nI n + (4 * nI (gc σ m J)) = nI (pieceN J σ m) := by
      show nI n + nI 4 * nI (gc σ m J) = nI (plG (100 * lenSq σ m) 0 425 + 4 * gc σ m J)
      rw [pk_mul, nI_add, hn]
    rw [e]
    exact h
  refine ⟨fun i => ∃ n : Nat, n ≤ 425 ∧ i = nI n ∧ plG (100 * lenSq σ m) n (425 - n) = plG (100 * lenSq σ m) 0 425, fun i => (((425 : Nat) : Int) - i.toInt).toNat, ⟨0, by decide, rfl, rfl⟩, ?_⟩
  rintro _ ⟨n, hn, rfl, he⟩
  refine ⟨fun q => ?_, fun q => ⟨fun q2 => ?_, fun q2 => ?_⟩⟩
  · have := le_end (a := 425) q hn (by decide)
    subst this
    exact fin 425 he
  · have hlt : n < 425 := lt_of_nle (a := 425) q (by decide) (by omega)
    obtain ⟨f, hf⟩ : ∃ f, 425 - n = f + 1 := ⟨425 - n - 1, by omega⟩
    rw [hf] at he
    have e2 : plG (100 * lenSq σ m) n (f + 1) = n := by
      show (if 100 * lenSq σ m ≤ nI n * nI n then n else plG (100 * lenSq σ m) (n + 1) f) = n
      exact if_pos q2
    exact fin n (e2.symm.trans he)
  · have hlt : n < 425 := lt_of_nle (a := 425) q (by decide) (by omega)
    obtain ⟨f, hf⟩ : ∃ f, 425 - n = f + 1 := ⟨425 - n - 1, by omega⟩
    rw [hf] at he
    have e2 : plG (100 * lenSq σ m) n (f + 1) = plG (100 * lenSq σ m) (n + 1) f := by
      show (if 100 * lenSq σ m ≤ nI n * nI n then n else plG (100 * lenSq σ m) (n + 1) f) = _
      exact if_neg q2
    exact ⟨⟨n + 1, by omega, nI_1 n, by rw [show 425 - (n + 1) = f by omega, ← e2]; exact he⟩, mu_n hlt (by decide)⟩
theorem sq_nI : ∀ d, d < 25 → ∀ e, e < 25 → ((nI d) * (nI d) + (nI e) * (nI e)) = nI (d * d + e * e) := fun d _ e _ => by rw [pk_mul, pk_mul, nI_add]
theorem sq_sub {a b : Nat} (ha : a < 25) (hb : b < 25) : ∃ d : Nat, d < 25 ∧ (nI a - nI b) * (nI a - nI b) = nI (d * d) ∧ (a ≠ b → 0 < d) := by
  by_cases h : b ≤ a
  · exact ⟨a - b, by omega, by rw [pk_sub h, pk_mul], fun q => by omega⟩
  · refine ⟨b - a, by omega, ?_, fun q => by omega⟩
    have e : nI a - nI b = -(nI (b - a)) := by
      rw [← pk_sub (show a ≤ b by omega), Int32.neg_sub]
    rw [e, Int32.neg_mul_neg, pk_mul]
theorem lenSq_pos {N M T m : Nat} {σ : Sg} (hF : Fr N M T σ) (hm : m < M) : ∃ q : Nat, 1 ≤ q ∧ q < 2000 ∧ lenSq σ m = nI q := by
  have hN : N ≤ 5 := hF.2.2.1
  have hp := hF.2.2.2.2.2.1
  obtain ⟨a, b, e1, e2, ha, hb, hab⟩ := hF.2.2.2.2.2.2.2.2.2.1 m hm
  obtain ⟨x, y, g1, g2, g3, g4, g5⟩ := hp a ha
  obtain ⟨x', y', f1, f2, f3, f4, f5⟩ := hp b hb
  unfold lenSq
  rw [e1, e2, ix20 (by omega), ix20 (by omega), ix21 (by omega), ix21 (by omega), g1, g2, f1, f2]
  obtain ⟨d, d1, d2, d3⟩ := sq_sub (a := x') (b := x) (by omega) (by omega)
  obtain ⟨e, e1', e2', -⟩ := sq_sub (a := y') (b := y) (by omega) (by omega)
  rw [d2, e2', nI_add]
  have hd := d3 (by omega)
  have k1 : d * d ≤ 24 * 24 := Nat.mul_le_mul (by omega) (by omega)
  have k2 : e * e ≤ 24 * 24 := Nat.mul_le_mul (by omega) (by omega)
  have k3 : 1 * 1 ≤ d * d := Nat.mul_le_mul hd hd
  exact ⟨d * d + e * e, by omega, by omega, rfl⟩
theorem piece_bd {N M T J m : Nat} {σ : Sg} (hF : Fr N M T σ) (hm : m < M) (hJ : J ≤ 12) : 1 ≤ pieceN J σ m ∧ pieceN J σ m ≤ 473 := by
  obtain ⟨q, q1, q2, q3⟩ := lenSq_pos hF hm
  have h1 := plG_le (100 * lenSq σ m) 0 425
  have h2 := gc_le σ m J
  have h3 : 1 ≤ plG (100 * lenSq σ m) 0 425 := by
    have e : plG (100 * lenSq σ m) 0 425 = plG (100 * lenSq σ m) 1 424 := by
      show (if 100 * lenSq σ m ≤ nI 0 * nI 0 then 0 else plG (100 * lenSq σ m) (0 + 1) 424) = _
      refine if_neg ?_
      rw [q3]
      show ¬ nI 100 * nI q ≤ nI 0 * nI 0
      rw [pk_mul, pk_mul]
      intro z
      have := (nI_le2 (by omega) (by decide)).mp z
      omega
    rw [e]
    have ge : ∀ f n, n ≤ plG (100 * lenSq σ m) n f := by
      intro f
      induction f with
      | zero => intro n; exact Nat.le_refl _
      | succ f ih =>
        intro n
        show n ≤ (if 100 * lenSq σ m ≤ nI n * nI n then n else plG (100 * lenSq σ m) (n + 1) f)
        split
        · exact Nat.le_refl _
        · have := ih (n + 1); omega
    exact ge 424 1
  unfold pieceN
  omega
theorem s_L_piece {N M T J m : Nat} {σ : Sg} {Q : Int32 → Prop} (hF : Fr N M T σ) (hJ : Jo M J σ) (hm : m < M) (h : Q (nI (pieceN J σ m))) : w_L_piece (nI m) σ Q := by
  unfold w_L_piece w_X6_piece
  exact s_cM hF.2.1 hF.2.2.2.1 hm (s_pieceLen hF hJ hm h)
/-! sets of members -/
theorem tb_add {s m : Nat} (h : s < 2 ^ m) (k : Nat) : (s + 2 ^ m).testBit k = (s.testBit k || decide (m = k)) := by
  rw [← Nat.or_two_pow_eq_add_of_lt h, Nat.testBit_or, Nat.testBit_two_pow]
theorem tb_hi {s m k : Nat} (h : s < 2 ^ m) (hk : m ≤ k) : s.testBit k = false :=
  Nat.testBit_lt_two_pow (Nat.lt_of_lt_of_le h (Nat.pow_le_pow_right (by decide) hk))
theorem p512 {M : Nat} (hM : M ≤ 9) : 2 ^ M ≤ 512 := Nat.pow_le_pow_right (n := 2) (by decide) hM
def Vd (d : Nat → Nat) : Nat → Nat
  | 0 => 0
  | n + 1 => 5 * Vd d n + d n
theorem Vd_s (d : Nat → Nat) (n : Nat) : Vd d (n + 1) = 5 * Vd d n + d n := rfl
theorem Vd_congr {d e : Nat → Nat} : ∀ n, (∀ k, k < n → d k = e k) → Vd d n = Vd e n := by
  intro n
  induction n with
  | zero => intro _; rfl
  | succ n ih => intro h; rw [Vd_s, Vd_s, ih (fun k hk => h k (by omega)), h n (by omega)]
theorem Vd_lin (d e : Nat → Nat) (c : Nat) : ∀ n, Vd (fun k => d k + c * e k) n = Vd d n + c * Vd e n := by
  intro n
  induction n with
  | zero => rfl
  | succ n ih =>
    rw [Vd_s, Vd_s, Vd_s, ih, Nat.mul_add, Nat.mul_add, Nat.mul_left_comm]
    omega
theorem Vd_one (m : Nat) : ∀ n, Vd (fun k => if k = m then 1 else 0) n = if m < n then 5 ^ (n - 1 - m) else 0 := by
  intro n
  induction n with
  | zero => rfl
  | succ n ih =>
    rw [Vd_s, ih]
    by_cases h : m < n
    · rw [if_pos h, if_neg (by omega), if_pos (by omega), show n + 1 - 1 - m = n - 1 - m + 1 by omega, Nat.pow_succ]
      omega
    · rw [if_neg h]
      by_cases h2 : n = m
      · rw [if_pos h2, if_pos (by omega), show n + 1 - 1 - m = 0 by omega]
      · rw [if_neg h2, if_neg (by omega)]
theorem Vd_lt {d : Nat → Nat} : ∀ n, (∀ k, k < n → d k ≤ 4) → Vd d n < 5 ^ n := by
  intro n
  induction n with
  | zero => intro _; exact Nat.one_pos
  | succ n ih =>
    intro h
    have h1 := ih (fun k hk => h k (by omega))
    have h2 := h n (by omega)
    rw [Vd_s, Nat.pow_succ]
    omega
def bN (s m : Nat) : Nat := if s.testBit m = true then 1 else 0
def wtN (s : Nat) : Nat := Vd (bN s) 9
def spN (J : Nat) (σ : Sg) (M s : Nat) : Nat := sn M (fun m => if s.testBit m then pieceN J σ m + 1 else 0)
theorem wt_add {s m : Nat} (h : s < 2 ^ m) (hm : m < 9) : wtN (s + 2 ^ m) = wtN s + 5 ^ (8 - m) := by
  have e : wtN (s + 2 ^ m) = Vd (fun k => bN s k + 1 * (if k = m then 1 else 0)) 9 := by
    refine Vd_congr 9 (fun k _ => ?_)
    unfold bN
    rw [tb_add h]
    by_cases hk : k = m
    · subst hk
      rw [tb_hi h (Nat.le_refl _), decide_eq_true rfl]
      simp
    · rw [decide_eq_false (fun z => hk z.symm), Bool.or_false, if_neg hk]
      rfl
  rw [e, Vd_lin, Vd_one, if_pos hm]
  show wtN s + 1 * 5 ^ (8 - m) = _
  omega
theorem sn_add (n : Nat) (f g : Nat → Nat) : sn n (fun k => f k + g k) = sn n f + sn n g := by
  induction n with
  | zero => rfl
  | succ n ih => rw [sn_s, sn_s, sn_s, ih]; omega
theorem sn_zero {n : Nat} {f : Nat → Nat} (h : ∀ k, k < n → f k = 0) : sn n f = 0 := by
  induction n with
  | zero => rfl
  | succ n ih => rw [sn_s, ih (fun k hk => h k (by omega)), h n (by omega)]
theorem sn_at {n m : Nat} {f : Nat → Nat} (hm : m < n) (h : ∀ k, k < n → k ≠ m → f k = 0) : sn n f = f m := by
  induction n with
  | zero => omega
  | succ n ih =>
    rw [sn_s]
    by_cases e : m = n
    · rw [sn_zero (fun k hk => h k (by omega) (by omega)), e]; omega
    · rw [ih (by omega) (fun k hk h2 => h k (by omega) h2), h n (by omega) (by omega)]; omega
theorem sp_add {J M s m : Nat} {σ : Sg} (h : s < 2 ^ m) (hm : m < M) : spN J σ M (s + 2 ^ m) = spN J σ M s + (pieceN J σ m + 1) := by
  have e : spN J σ M (s + 2 ^ m) = sn M (fun k => (if s.testBit k then pieceN J σ k + 1 else 0) + (if k = m then pieceN J σ m + 1 else 0)) := by
    refine sn_congr (fun k _ => ?_)
    rw [tb_add h]
    by_cases hk : k = m
    · subst hk
      rw [tb_hi h (Nat.le_refl _), decide_eq_true rfl]
      simp
    · rw [decide_eq_false (fun z => hk z.symm), Bool.or_false, if_neg hk]
      rfl
  rw [e, sn_add, sn_at (m := m) hm (fun k _ hk => if_neg hk), if_pos rfl]
  rfl
theorem sp_le {N M T J : Nat} {σ : Sg} (hF : Fr N M T σ) (hJ : J ≤ 12) (s : Nat) : spN J σ M s ≤ M * 474 := by
  refine sn_le (fun k hk => ?_)
  have := (piece_bd hF hk hJ).2
  split <;> omega
theorem wt_lt (s : Nat) : wtN s < 1953125 := Vd_lt (d := bN s) 9 (fun k _ => by unfold bN; split <;> omega)
/-- measure -/
theorem s_measure {N M T J : Nat} {σ : Sg} {Q : Sg → Prop} (hF : Fr N M T σ) (hJ : Jo M J σ) (hz : gA σ 22 0 = 0 ∧ gA σ 23 0 = 0)
    (h : ∀ τ, Kp [] [] [22, 23] [] σ τ → (∀ s, s < 2 ^ M → gA τ 22 s = nI (spN J σ M s) ∧ gA τ 23 s = nI (wtN s)) → Q τ) : w_X0_measure σ Q := by
  have hM9 : M ≤ 9 := hF.2.2.2.1
  have hJ12 : J ≤ 12 := hJ.2.1
  unfold w_X0_measure
  refine ⟨fun w i σ1 => ∃ m : Nat, m ≤ M ∧ i = nI m ∧ (m < 9 → w = nI (5 ^ (8 - m))) ∧ Kp [] [] [22, 23] [] σ σ1 ∧ ∀ s, s < 2 ^ m → gA σ1 22 s = nI (spN J σ M s) ∧ gA σ1 23 s = nI (wtN s), fun _ i _ => ((M : Int) - i.toInt).toNat, ⟨0, Nat.zero_le _, rfl, fun _ => rfl, Kp.rf, fun s hs => ?_⟩, ?_⟩
  · have e : s = 0 := by
      have : s < 1 := hs
      omega
    subst e
    rw [hz.1, hz.2]
    have e1 : spN J σ M 0 = 0 := sn_zero (fun k _ => by rw [Nat.zero_testBit]; rfl)
    have e2 : wtN 0 = 0 := by decide +kernel
    rw [e1, e2]
    exact ⟨rfl, rfl⟩
  rintro w _ σ1 ⟨m, hm, rfl, hw, hK, hT⟩
  rw [hK.I 1 rfl, hF.2.1]
  refine ⟨fun q => ?_, fun q => ?_⟩
  · have := le_end q hm (by omega)
    subst this
    exact h σ1 hK hT
  · have hlt : m < M := lt_of_nle q (by omega) (by omega)
    have hmu := mu_n hlt (by omega)
    have hw := hw (by omega)
    subst hw
    have hF1 : Fr N M T σ1 := hF.congr (hK.I 0 rfl) (hK.I 1 rfl) (fun k hk => hK.A k (by
      rcases (show k = 0 ∨ k = 1 ∨ k = 2 ∨ k = 3 ∨ k = 4 ∨ k = 5 ∨ k = 6 ∨ k = 7 ∨ k = 8 ∨ k = 9 by omega) with e | e | e | e | e | e | e | e | e | e <;> subst e <;> rfl))
    have hJ1 : Jo M J σ1 := hJ.congr (hK.I 4 rfl) (fun k h1 h2 => hK.A k (by
      rcases (show k = 13 ∨ k = 14 ∨ k = 15 ∨ k = 16 ∨ k = 17 by omega) with e | e | e | e | e <;> subst e <;> rfl))
    refine s_pieceLen hF1 hJ1 hlt ?_
    rw [pieceN_congr (σ := σ) (τ := σ1) (hK.A 0 rfl) (hK.A 4 rfl) (hK.A 5 rfl) (hK.A 13 rfl)]
    intro v4 e4
    rintro _ rfl
    have h2m : 2 ^ (m + 1) ≤ 512 := p512 (show m + 1 ≤ 9 by omega)
    have hpow : 2 ^ (m + 1) = 2 * 2 ^ m := by rw [Nat.pow_succ]; omega
    have hpos := Nat.two_pow_pos m
    rw [shl_1 (by omega), two_nI]
    have e4' : v4 = nI (pieceN J σ m + 1) := by rw [e4]; exact nI_1 _
    subst e4'
    refine ⟨fun i σ6 => ∃ s : Nat, 2 ^ m ≤ s ∧ s ≤ 2 * 2 ^ m ∧ i = nI s ∧ Kp [] [] [22, 23] [] σ σ6 ∧ ∀ t, t < s → gA σ6 22 t = nI (spN J σ M t) ∧ gA σ6 23 t = nI (wtN t), fun i _ => (((2 * 2 ^ m : Nat) : Int) - i.toInt).toNat, ⟨2 ^ m, Nat.le_refl _, by omega, rfl, hK, hT⟩, ?_⟩
    rintro _ σ6 ⟨s, hs1, hs2, rfl, hK6, hT6⟩
    refine ⟨fun q2 => ?_, fun q2 => ?_⟩
    · have := le_end q2 hs2 (by omega)
      subst this
      rintro _ rfl
      refine ⟨⟨m + 1, by omega, nI_1 m, fun h9 => ?_, hK6, fun t ht => hT6 t (by omega)⟩, hmu⟩
      have e5 : 5 ^ (8 - m) / 5 = 5 ^ (8 - (m + 1)) := by
        rw [show 8 - m = 8 - (m + 1) + 1 by omega, Nat.pow_succ, Nat.mul_div_cancel _ (by decide)]
      have h58 : 5 ^ (8 - m) ≤ 5 ^ 8 := Nat.pow_le_pow_right (by decide) (by omega)
      rw [← e5]
      exact div_nI (d := 5) (by omega) (by decide) (by decide)
    · have hst : s < 2 * 2 ^ m := lt_of_nle q2 (by omega) (by omega)
      have hin : vp_in (nI s) 512 := in_nI (by omega) (by decide)
      rw [pk_sub hs1, ixn (a := s) (by omega), ixn (a := s - 2 ^ m) (by omega)]
      have hin2 : vp_in (nI (s - 2 ^ m)) 512 := in_nI (by omega) (by decide)
      obtain ⟨t1, t2⟩ := hT6 (s - 2 ^ m) (by omega)
      have es : s - 2 ^ m + 2 ^ m = s := by omega
      have v1 := sp_add (J := J) (σ := σ) (M := M) (s := s - 2 ^ m) (m := m) (by omega) hlt
      have v2 := wt_add (s := s - 2 ^ m) (m := m) (by omega) (by omega)
      rw [es] at v1 v2
      refine ⟨hin2, hin, ?_⟩
      rintro _ rfl
      refine ⟨hin2, hin, ?_⟩
      rintro _ rfl
      refine ⟨⟨s + 1, by omega, by omega, nI_1 s, (hK6.sA rfl).sA rfl, fun t ht => ?_⟩, mu_n hst (by omega)⟩
      by_cases e : t = s
      · subst e
        constructor
        · rw [gA_sA, if_neg (by decide), gA_sA, if_pos rfl, upd_ap, if_pos rfl, t1, v1, nI_add]
        · rw [gA_sA, if_pos rfl, upd_ap, if_pos rfl, gA_sA, if_neg (by decide), t2, v2, nI_add]
      · obtain ⟨u1, u2⟩ := hT6 t (by omega)
        constructor
        · rw [gA_sA, if_neg (by decide), gA_sA, if_pos rfl, upd_ap, if_neg e]; exact u1
        · rw [gA_sA, if_pos rfl, upd_ap, if_neg e, gA_sA, if_neg (by decide)]; exact u2
