/-! doubles: whole numbers, and one addition that rounds -/
theorem f_tails : FP.Core.b64.tails = 4503599627370496 := by decide +kernel
theorem f_exps : FP.Core.b64.exps = 2048 := by decide +kernel
theorem f_qmin : FP.Core.b64.qmin = -1074 := by decide +kernel
theorem f_qmax : FP.Core.b64.qmax = 971 := by decide +kernel
theorem fp_asm {s : Bool} {e t : Nat} (he : e < 2048) (ht : t < 4503599627370496) : (UInt64.ofNat (FP.Core.assemble FP.Core.b64 s e t)).toNat = (s.toNat * 2048 + e) * 4503599627370496 + t := by
  have hs : s.toNat ≤ 1 := by cases s <;> decide
  have hlt : (s.toNat * 2048 + e) * 4503599627370496 + t < 2 ^ 64 := by omega
  unfold FP.Core.assemble
  rw [f_tails, f_exps, UInt64.toNat_ofNat', Nat.mod_eq_of_lt hlt]
theorem fp_dec {s : Bool} {e t : Nat} (he : e < 2047) (ht : t < 4503599627370496) : FP.Core.decode FP.Core.b64 ((s.toNat * 2048 + e) * 4503599627370496 + t) = if e = 0 then FP.Core.Datum.fin s t (-1074) else FP.Core.Datum.fin s (4503599627370496 + t) (-1074 + ((e : Int) - 1)) := by
  have hs : s.toNat ≤ 1 := by cases s <;> decide
  have hE : FP.Core.fieldE FP.Core.b64 ((s.toNat * 2048 + e) * 4503599627370496 + t) = e := by
    unfold FP.Core.fieldE; rw [f_tails, f_exps]; omega
  have hT : FP.Core.fieldT FP.Core.b64 ((s.toNat * 2048 + e) * 4503599627370496 + t) = t := by
    unfold FP.Core.fieldT; rw [f_tails]; omega
  have hS : FP.Core.fieldS FP.Core.b64 ((s.toNat * 2048 + e) * 4503599627370496 + t) = s := by
    unfold FP.Core.fieldS; rw [f_tails, f_exps]
    have e1 : ((s.toNat * 2048 + e) * 4503599627370496 + t) / 4503599627370496 / 2048 % 2 = s.toNat := by omega
    rw [e1]
    cases s <;> rfl
  unfold FP.Core.decode
  rw [hE, hT, hS, f_exps, f_qmin, f_tails, if_neg (show ¬ e = 2048 - 1 by omega)]
theorem fp_de {s : Bool} {c : Nat} {q : Int} (hc : c < 9007199254740992) (h1 : -1074 ≤ q) (h2 : q ≤ 971) (h3 : q = -1074 ∨ 4503599627370496 ≤ c) : FP.Core.decode FP.Core.b64 (UInt64.ofNat (FP.Core.encode FP.Core.b64 (.fin s c q))).toNat = .fin s c q := by
  show FP.Core.decode FP.Core.b64 (UInt64.ofNat (if c < FP.Core.b64.tails then FP.Core.assemble FP.Core.b64 s 0 c else FP.Core.assemble FP.Core.b64 s ((q - FP.Core.b64.qmin).toNat + 1) (c - FP.Core.b64.tails))).toNat = _
  rw [f_tails, f_qmin]
  by_cases h : c < 4503599627370496
  · rw [if_pos h, fp_asm (by decide) h, fp_dec (by decide) h, if_pos rfl]
    have : q = -1074 := by omega
    rw [this]
  · rw [if_neg h, fp_asm (by omega) (by omega), fp_dec (by omega) (by omega), if_neg (by omega)]
    have e1 : 4503599627370496 + (c - 4503599627370496) = c := by omega
    have e2 : (-1074 : Int) + ((((q - -1074).toNat + 1 : Nat) : Int) - 1) = q := by omega
    rw [e1, e2]
theorem fp_lead {n : Nat} (h : n ≠ 0) : FP.Core.leading n 1 = (n.log2 : Int) := by
  have e : (1 : Nat).log2 = 0 := by decide +kernel
  have h1 := Nat.log2_self_le h
  show (if 1 * 2 ^ (((n.log2 : Int) - ((1 : Nat).log2 : Int))).toNat ≤ n * 2 ^ (-((n.log2 : Int) - ((1 : Nat).log2 : Int))).toNat then ((n.log2 : Int) - ((1 : Nat).log2 : Int)) else ((n.log2 : Int) - ((1 : Nat).log2 : Int)) - 1) = _
  rw [e]
  have k1 : (n.log2 : Int) - ((0 : Nat) : Int) = (n.log2 : Int) := by omega
  rw [k1, show ((n.log2 : Int)).toNat = n.log2 by omega, show (-(n.log2 : Int)).toNat = 0 by omega, if_pos (by rw [Nat.one_mul, Nat.pow_zero, Nat.mul_one]; exact h1)]
def fQ (n : Nat) (e : Int) : Int := max (-1074) ((n.log2 : Int) + e - 52)
theorem fp_rr {s : Bool} {n : Nat} {e : Int} (h : n ≠ 0) : FP.Core.roundRatio FP.Core.b64 s n 1 e = FP.Core.settle FP.Core.b64 s (FP.Core.nearest (n * 2 ^ (e - fQ n e).toNat) (1 * 2 ^ (fQ n e - e).toNat)) (fQ n e) := by
  have hq : FP.Core.quantum FP.Core.b64 n 1 e = fQ n e := by
    unfold FP.Core.quantum fQ
    rw [fp_lead h, f_qmin]
    rfl
  unfold FP.Core.roundRatio
  rw [if_neg h]
  unfold FP.Core.roundAt FP.Core.unitsNum FP.Core.unitsDen
  rw [hq]
theorem near_scale (A B k : Nat) (hk : 0 < k) : FP.Core.nearest (A * k) (B * k) = FP.Core.nearest A B := by
  have c1 : (2 * (A % B) * k < B * k) ↔ (2 * (A % B) < B) := ⟨fun h => Nat.lt_of_mul_lt_mul_right h, fun h => Nat.mul_lt_mul_of_pos_right h hk⟩
  have c2 : (B * k < 2 * (A % B) * k) ↔ (B < 2 * (A % B)) := ⟨fun h => Nat.lt_of_mul_lt_mul_right h, fun h => Nat.mul_lt_mul_of_pos_right h hk⟩
  unfold FP.Core.nearest
  rw [Nat.mul_mod_mul_right, Nat.mul_div_mul_right _ _ hk, ← Nat.mul_assoc]
  simp only [c1, c2]
theorem near_one (C : Nat) : FP.Core.nearest C 1 = C := by
  unfold FP.Core.nearest
  rw [Nat.mod_one, Nat.div_one, if_pos (by decide)]
theorem log2_sc {n : Nat} (h : n ≠ 0) (j : Nat) : (n * 2 ^ j).log2 = n.log2 + j := by
  have hp := Nat.two_pow_pos j
  refine (Nat.log2_eq_iff (Nat.mul_ne_zero h (by omega))).mpr ⟨?_, ?_⟩
  · rw [Nat.pow_add]; exact Nat.mul_le_mul_right _ (Nat.log2_self_le h)
  · rw [show n.log2 + j + 1 = n.log2 + 1 + j by omega, Nat.pow_add]
    exact Nat.mul_lt_mul_of_pos_right Nat.lt_log2_self hp
theorem ne_sc {n : Nat} (h : n ≠ 0) (j : Nat) : n * 2 ^ j ≠ 0 := Nat.mul_ne_zero h (by have := Nat.two_pow_pos j; omega)
theorem fp_sc {s : Bool} {n : Nat} (h : n ≠ 0) (j : Nat) : FP.Core.roundRatio FP.Core.b64 s (n * 2 ^ j) 1 (-(j : Int)) = FP.Core.roundRatio FP.Core.b64 s n 1 0 := by
  rw [fp_rr (ne_sc h j), fp_rr h]
  have eQ : fQ (n * 2 ^ j) (-(j : Int)) = fQ n 0 := by
    unfold fQ
    rw [log2_sc h, show (((n.log2 + j : Nat) : Int) + -(j : Int) - 52) = ((n.log2 : Int) + 0 - 52) by omega]
  rw [eQ]
  generalize fQ n 0 = Q
  have key : FP.Core.nearest (n * 2 ^ j * 2 ^ (-(j : Int) - Q).toNat) (1 * 2 ^ (Q - -(j : Int)).toNat) = FP.Core.nearest (n * 2 ^ (0 - Q).toNat) (1 * 2 ^ (Q - 0).toNat) := by
    by_cases h1 : 0 ≤ Q
    · rw [show (-(j : Int) - Q).toNat = 0 by omega, show (Q - -(j : Int)).toNat = Q.toNat + j by omega, show (0 - Q).toNat = 0 by omega, show (Q - 0).toNat = Q.toNat by omega, Nat.pow_zero, Nat.mul_one, Nat.mul_one, Nat.pow_add, ← Nat.mul_assoc]
      exact near_scale _ _ _ (Nat.two_pow_pos j)
    · by_cases h2 : -(j : Int) ≤ Q
      · rw [show (-(j : Int) - Q).toNat = 0 by omega, show (0 - Q).toNat = j - (Q - -(j : Int)).toNat by omega, show (Q - 0).toNat = 0 by omega]
        have hk : (Q - -(j : Int)).toNat ≤ j := by omega
        generalize (Q - -(j : Int)).toNat = k at hk
        have ej : n * 2 ^ j * 2 ^ 0 = n * 2 ^ (j - k) * 2 ^ k := by
          rw [Nat.pow_zero, Nat.mul_one, Nat.mul_assoc, ← Nat.pow_add, show j - k + k = j by omega]
        have e1 : 1 * 2 ^ k = 1 * 2 ^ 0 * 2 ^ k := by rw [Nat.pow_zero, Nat.mul_one]
        rw [ej, e1]
        exact near_scale _ _ _ (Nat.two_pow_pos k)
      · rw [show (Q - -(j : Int)).toNat = 0 by omega, show (Q - 0).toNat = 0 by omega, Nat.mul_assoc, ← Nat.pow_add, show j + (-(j : Int) - Q).toNat = (0 - Q).toNat by omega]
  rw [key]
theorem fp_big {n : Nat} (h : n ≠ 0) (hl : n.log2 ≤ 52) : n * 2 ^ (52 - n.log2) < 9007199254740992 ∧ 4503599627370496 ≤ n * 2 ^ (52 - n.log2) := by
  have h1 := Nat.log2_self_le h
  have h2 : n < 2 ^ (n.log2 + 1) := Nat.lt_log2_self
  constructor
  · have := Nat.mul_lt_mul_of_pos_right h2 (Nat.two_pow_pos (52 - n.log2))
    rw [← Nat.pow_add, show n.log2 + 1 + (52 - n.log2) = 53 by omega] at this
    exact this
  · have := Nat.mul_le_mul_right (2 ^ (52 - n.log2)) h1
    rw [← Nat.pow_add, show n.log2 + (52 - n.log2) = 52 by omega] at this
    exact this
theorem fp_ex {s : Bool} {n k : Nat} (h : n ≠ 0) (hl : n.log2 ≤ 52) (hk : k ≤ 900) : FP.Core.roundRatio FP.Core.b64 s (n * 2 ^ k) 1 0 = .fin s (n * 2 ^ (52 - n.log2)) ((n.log2 : Int) + k - 52) := by
  rw [fp_rr (ne_sc h k)]
  have eQ : fQ (n * 2 ^ k) 0 = (n.log2 : Int) + k - 52 := by
    unfold fQ
    rw [log2_sc h, Int.max_eq_right (by omega)]
    omega
  rw [eQ]
  have near : FP.Core.nearest (n * 2 ^ k * 2 ^ (0 - ((n.log2 : Int) + k - 52)).toNat) (1 * 2 ^ (((n.log2 : Int) + k - 52) - 0).toNat) = n * 2 ^ (52 - n.log2) := by
    by_cases hQ : 52 ≤ n.log2 + k
    · rw [show (0 - ((n.log2 : Int) + k - 52)).toNat = 0 by omega, show (((n.log2 : Int) + k - 52) - 0).toNat = n.log2 + k - 52 by omega]
      have e : n * 2 ^ k * 2 ^ 0 = n * 2 ^ (52 - n.log2) * 2 ^ (n.log2 + k - 52) := by
        rw [Nat.pow_zero, Nat.mul_one, Nat.mul_assoc, ← Nat.pow_add, show 52 - n.log2 + (n.log2 + k - 52) = k by omega]
      rw [e, near_scale _ _ _ (Nat.two_pow_pos _), near_one]
    · rw [show (((n.log2 : Int) + k - 52) - 0).toNat = 0 by omega, show (0 - ((n.log2 : Int) + k - 52)).toNat = 52 - n.log2 - k by omega, Nat.mul_assoc, ← Nat.pow_add, show k + (52 - n.log2 - k) = 52 - n.log2 by omega]
      exact near_one _
  rw [near]
  unfold FP.Core.settle FP.Core.bound
  rw [f_qmax, if_pos (show n * 2 ^ (52 - n.log2) < 2 ^ FP.Core.b64.p from (fp_big h hl).1), if_pos (by omega)]
/-- a datum that is a whole number, told in small units -/
def Rp (v : Int) (s : Bool) (c : Nat) (q : Int) : Prop := ∀ j : Nat, -(j : Int) ≤ q → FP.Core.signed s (c * 2 ^ (q + j).toNat) = v * ((2 ^ j : Nat) : Int)
theorem sgn_mul {v : Int} (m : Nat) : FP.Core.signed (decide (v < 0)) (v.natAbs * m) = v * (m : Int) := by
  unfold FP.Core.signed
  by_cases h : v < 0
  · rw [decide_eq_true h, if_pos rfl, Int.natCast_mul, show ((v.natAbs : Nat) : Int) = -v by omega, Int.neg_mul, Int.neg_neg]
  · rw [decide_eq_false h, if_neg Bool.false_ne_true, Int.natCast_mul, show ((v.natAbs : Nat) : Int) = v by omega]
theorem rp_of {v : Int} {k : Nat} (hl : v.natAbs.log2 ≤ 52) : Rp (v * ((2 ^ k : Nat) : Int)) (decide (v < 0)) (v.natAbs * 2 ^ (52 - v.natAbs.log2)) ((v.natAbs.log2 : Int) + k - 52) := by
  intro j hj
  rw [Nat.mul_assoc, ← Nat.pow_add, show 52 - v.natAbs.log2 + (((v.natAbs.log2 : Int) + k - 52) + j).toNat = k + j by omega, Nat.pow_add, sgn_mul, Int.natCast_mul, ← Int.mul_assoc]
theorem rp_0 (q : Int) : Rp 0 false 0 q := by
  intro j _
  rw [Nat.zero_mul, Int.zero_mul]
  rfl
theorem small_log {v : Int} (h : v ≠ 0) (hs : v.natAbs < 9007199254740992) : v.natAbs ≠ 0 ∧ v.natAbs.log2 ≤ 52 := by
  have h0 : v.natAbs ≠ 0 := by omega
  have := (Nat.log2_lt (k := 53) h0).mpr hs
  exact ⟨h0, by omega⟩
theorem l2d_eq (a : Int64) : FP.l2d a = UInt64.ofNat (FP.Core.encode FP.Core.b64 (FP.Core.roundRatio FP.Core.b64 (decide (a.toInt < 0)) a.toInt.natAbs 1 0)) := rfl
theorem fp_l2d {a : Int64} (h : a.toInt ≠ 0) (hs : a.toInt.natAbs < 9007199254740992) : FP.Core.decode FP.Core.b64 (FP.l2d a).toNat = .fin (decide (a.toInt < 0)) (a.toInt.natAbs * 2 ^ (52 - a.toInt.natAbs.log2)) ((a.toInt.natAbs.log2 : Int) + (0 : Nat) - 52) := by
  obtain ⟨h0, hl⟩ := small_log h hs
  have hb := fp_big h0 hl
  have e := fp_ex (s := decide (a.toInt < 0)) (k := 0) h0 hl (by decide)
  rw [Nat.pow_zero, Nat.mul_one] at e
  rw [l2d_eq, e]
  exact fp_de hb.1 (by omega) (by omega) (Or.inr hb.2)
theorem fp_l2d0 : FP.Core.decode FP.Core.b64 (FP.l2d 0).toNat = .fin false 0 (-1074) := by decide +kernel
theorem fp_K : FP.Core.decode FP.Core.b64 (4751297606875873280 : UInt64).toNat = .fin false 4503599627370496 (-20) := by decide +kernel
theorem fp_mul0 : FP.Core.decode FP.Core.b64 (FP.dmul (FP.l2d 0) 4751297606875873280).toNat = .fin false 0 (-1074) := by decide +kernel
theorem fp_mul {a : Int64} (h : a.toInt ≠ 0) (hs : a.toInt.natAbs < 9007199254740992) : FP.Core.decode FP.Core.b64 (FP.dmul (FP.l2d a) 4751297606875873280).toNat = .fin (decide (a.toInt < 0)) (a.toInt.natAbs * 2 ^ (52 - a.toInt.natAbs.log2)) ((a.toInt.natAbs.log2 : Int) + (32 : Nat) - 52) := by
  obtain ⟨h0, hl⟩ := small_log h hs
  have hb := fp_big h0 hl
  have e1 : FP.dmul (FP.l2d a) 4751297606875873280 = UInt64.ofNat (FP.Core.encode FP.Core.b64 (FP.Core.round FP.Core.b64 (FP.Core.exactProduct (FP.Core.decode FP.Core.b64 (FP.l2d a).toNat) (FP.Core.decode FP.Core.b64 (4751297606875873280 : UInt64).toNat)))) := rfl
  rw [e1, fp_l2d h hs, fp_K]
  show FP.Core.decode FP.Core.b64 (UInt64.ofNat (FP.Core.encode FP.Core.b64 (FP.Core.roundRatio FP.Core.b64 (decide (a.toInt < 0) != false) (a.toInt.natAbs * 2 ^ (52 - a.toInt.natAbs.log2) * 4503599627370496) 1 (((a.toInt.natAbs.log2 : Int) + (0 : Nat) - 52) + (-20))))).toNat = _
  have e2 : (decide (a.toInt < 0) != false) = decide (a.toInt < 0) := by cases decide (a.toInt < 0) <;> rfl
  have e3 : a.toInt.natAbs * 2 ^ (52 - a.toInt.natAbs.log2) * 4503599627370496 = a.toInt.natAbs * 2 ^ 32 * 2 ^ (72 - a.toInt.natAbs.log2) := by
    rw [show (4503599627370496 : Nat) = 2 ^ 52 from rfl, Nat.mul_assoc, Nat.mul_assoc, ← Nat.pow_add, ← Nat.pow_add, show 52 - a.toInt.natAbs.log2 + 52 = 32 + (72 - a.toInt.natAbs.log2) by omega]
  have e4 : ((a.toInt.natAbs.log2 : Int) + (0 : Nat) - 52) + (-20) = -((72 - a.toInt.natAbs.log2 : Nat) : Int) := by omega
  rw [e2, e3, e4, fp_sc (ne_sc h0 32), fp_ex h0 hl (by decide)]
  exact fp_de hb.1 (by omega) (by omega) (Or.inr hb.2)
theorem rr0 (s : Bool) (B : Nat) (e : Int) : FP.Core.roundRatio FP.Core.b64 s 0 B e = .fin s 0 FP.Core.b64.qmin := by
  unfold FP.Core.roundRatio
  rw [if_pos rfl]
/-- one addition of two whole numbers, of which one is told in small units -/
theorem fp_add {x y : UInt64} {s t : Bool} {c d : Nat} {q r u v : Int} {p : Int64} (hx : FP.Core.decode FP.Core.b64 x.toNat = .fin s c q) (hy : FP.Core.decode FP.Core.b64 y.toNat = .fin t d r)
    (hu : Rp u s c q) (hv : Rp v t d r) (hr : r ≤ 0) (hz : u + v = 0 → (s && t) = false) (hp : p.toInt = u + v) : FP.dadd x y = FP.l2d p := by
  have e1 : FP.dadd x y = UInt64.ofNat (FP.Core.encode FP.Core.b64 (FP.Core.round FP.Core.b64 (FP.Core.exactSum (FP.Core.decode FP.Core.b64 x.toNat) (FP.Core.decode FP.Core.b64 y.toNat)))) := rfl
  rw [e1, hx, hy, l2d_eq, hp]
  congr 2
  show FP.Core.roundRatio FP.Core.b64 (FP.Core.sumSign s t (FP.Core.sumUnits s c q t d r (min q r))) (FP.Core.sumUnits s c q t d r (min q r)).natAbs 1 (min q r) = _
  obtain ⟨j, hj⟩ : ∃ j : Nat, min q r = -(j : Int) := ⟨(-(min q r)).toNat, by omega⟩
  have hU : FP.Core.sumUnits s c q t d r (min q r) = (u + v) * ((2 ^ j : Nat) : Int) := by
    have k1 := hu j (by omega)
    have k2 := hv j (by omega)
    unfold FP.Core.sumUnits FP.Core.inUnits
    rw [hj, show q - -(j : Int) = q + j by omega, show r - -(j : Int) = r + j by omega, k1, k2, Int.add_mul]
  rw [hU, hj]
  have p2 : (0 : Int) < ((2 ^ j : Nat) : Int) := by have := Nat.two_pow_pos j; omega
  by_cases hs : u + v = 0
  · rw [hs, Int.zero_mul]
    show FP.Core.roundRatio FP.Core.b64 (FP.Core.sumSign s t 0) 0 1 (-(j : Int)) = FP.Core.roundRatio FP.Core.b64 (decide ((0 : Int) < 0)) 0 1 0
    have : FP.Core.sumSign s t 0 = false := by unfold FP.Core.sumSign; rw [if_pos rfl]; exact hz hs
    rw [this, rr0, rr0]
    rfl
  · have hne : (u + v) * ((2 ^ j : Nat) : Int) ≠ 0 := Int.mul_ne_zero hs (by omega)
    have hsg : FP.Core.sumSign s t ((u + v) * ((2 ^ j : Nat) : Int)) = decide (u + v < 0) := by
      unfold FP.Core.sumSign
      rw [if_neg hne, decide_eq_decide]
      constructor
      · intro h
        refine Int.lt_of_not_ge (fun hge => ?_)
        have := Int.mul_nonneg hge (Int.le_of_lt p2)
        omega
      · intro h
        exact Int.mul_neg_of_neg_of_pos h p2
    rw [hsg, Int.natAbs_mul, Int.natAbs_natCast]
    exact fp_sc (by omega) j
/-! no NaN -/
theorem fp_and (r : UInt64) : vf_n64 r ↔ r.toNat % 9223372036854775808 ≤ 9218868437227405312 := by
  unfold vf_n64
  rw [UInt64.le_iff_toNat_le, UInt64.toNat_and]
  have e : (0x7fffffffffffffff : UInt64).toNat = 2 ^ 63 - 1 := by decide +kernel
  have e2 : (0x7ff0000000000000 : UInt64).toNat = 9218868437227405312 := by decide +kernel
  rw [e, e2, Nat.and_two_pow_sub_one_eq_mod]
theorem enc_nn {d : FP.Core.Datum} (hd : (∃ s, d = .inf s) ∨ ∃ s c q, d = .fin s c q ∧ c < 9007199254740992 ∧ q ≤ 971) : vf_n64 (UInt64.ofNat (FP.Core.encode FP.Core.b64 d)) := by
  rw [fp_and]
  rcases hd with ⟨s, rfl⟩ | ⟨s, c, q, rfl, hc, hq⟩
  · show (UInt64.ofNat (FP.Core.assemble FP.Core.b64 s (FP.Core.b64.exps - 1) 0)).toNat % 9223372036854775808 ≤ _
    have hs : s.toNat ≤ 1 := by cases s <;> decide
    rw [f_exps, fp_asm (by decide) (by decide)]
    omega
  · show (UInt64.ofNat (if c < FP.Core.b64.tails then FP.Core.assemble FP.Core.b64 s 0 c else FP.Core.assemble FP.Core.b64 s ((q - FP.Core.b64.qmin).toNat + 1) (c - FP.Core.b64.tails))).toNat % 9223372036854775808 ≤ _
    have hs : s.toNat ≤ 1 := by cases s <;> decide
    rw [f_tails, f_qmin]
    by_cases h : c < 4503599627370496
    · rw [if_pos h, fp_asm (by decide) h]; omega
    · rw [if_neg h, fp_asm (by omega) (by omega)]; omega
theorem bound_ok (s : Bool) (c : Nat) (q : Int) (hc : c < 9007199254740992) : (∃ t, FP.Core.bound FP.Core.b64 s c q = .inf t) ∨ ∃ t c' q', FP.Core.bound FP.Core.b64 s c q = .fin t c' q' ∧ c' < 9007199254740992 ∧ q' ≤ 971 := by
  unfold FP.Core.bound
  rw [f_qmax]
  by_cases h : q ≤ 971
  · rw [if_pos h]; exact Or.inr ⟨s, c, q, rfl, hc, h⟩
  · rw [if_neg h]; exact Or.inl ⟨s, rfl⟩
theorem rr_nn (s : Bool) (A B : Nat) (e : Int) : vf_n64 (UInt64.ofNat (FP.Core.encode FP.Core.b64 (FP.Core.roundRatio FP.Core.b64 s A B e))) := by
  refine enc_nn ?_
  unfold FP.Core.roundRatio
  split
  · exact Or.inr ⟨s, 0, _, rfl, by decide, by rw [f_qmin]; decide⟩
  · unfold FP.Core.roundAt FP.Core.settle
    split
    · rename_i h
      exact bound_ok _ _ _ h
    · exact bound_ok _ _ _ (by rw [f_tails]; decide)
theorem l2d_nn (a : Int64) : vf_n64 (FP.l2d a) := rr_nn _ _ _ _
theorem mul_nn (a : Int64) (hs : a.toInt.natAbs < 9007199254740992) : vf_n64 (FP.dmul (FP.l2d a) 4751297606875873280) := by
  have e1 : FP.dmul (FP.l2d a) 4751297606875873280 = UInt64.ofNat (FP.Core.encode FP.Core.b64 (FP.Core.round FP.Core.b64 (FP.Core.exactProduct (FP.Core.decode FP.Core.b64 (FP.l2d a).toNat) (FP.Core.decode FP.Core.b64 (4751297606875873280 : UInt64).toNat)))) := rfl
  rw [e1, fp_K]
  by_cases h : a.toInt = 0
  · have e : a = 0 := leq.mpr (h.trans rfl)
    rw [e, fp_l2d0]
    exact rr_nn _ _ _ _
  · rw [fp_l2d h hs]
    exact rr_nn _ _ _ _
/-- two parts: one addition that rounds -/
theorem fp_parts {a b p : Int64} (ha : a.toInt.natAbs < 9007199254740992) (hb : b.toInt.natAbs < 9007199254740992) (hb0 : 0 ≤ b.toInt) (hp : p.toInt = a.toInt * 4294967296 + b.toInt) : FP.dadd (FP.dmul (FP.l2d a) 4751297606875873280) (FP.l2d b) = FP.l2d p := by
  have hx : ∃ s c q, FP.Core.decode FP.Core.b64 (FP.dmul (FP.l2d a) 4751297606875873280).toNat = .fin s c q ∧ Rp (a.toInt * ((2 ^ 32 : Nat) : Int)) s c q := by
    by_cases h : a.toInt = 0
    · have e : a = 0 := leq.mpr (h.trans rfl)
      rw [h, e, fp_mul0, Int.zero_mul]
      exact ⟨_, _, _, rfl, rp_0 _⟩
    · exact ⟨_, _, _, fp_mul h ha, rp_of (small_log h ha).2⟩
  have hy : ∃ c q, FP.Core.decode FP.Core.b64 (FP.l2d b).toNat = .fin false c q ∧ q ≤ 0 ∧ Rp b.toInt false c q := by
    by_cases h : b.toInt = 0
    · have e : b = 0 := leq.mpr (h.trans rfl)
      rw [h, e, fp_l2d0]
      exact ⟨_, _, rfl, by decide, rp_0 _⟩
    · have hl := (small_log h hb).2
      have k := rp_of (v := b.toInt) (k := 0) hl
      rw [Nat.pow_zero, show ((1 : Nat) : Int) = 1 from rfl, Int.mul_one, decide_eq_false (show ¬ b.toInt < 0 by omega)] at k
      have k2 := fp_l2d h hb
      rw [decide_eq_false (show ¬ b.toInt < 0 by omega)] at k2
      exact ⟨_, _, k2, by omega, k⟩
  obtain ⟨s, c, q, h1, h2⟩ := hx
  obtain ⟨d, r, h3, h4, h5⟩ := hy
  refine fp_add h1 h3 h2 h5 h4 (fun _ => Bool.and_false s) ?_
  rw [hp]
  rfl
def isF (d : FP.Core.Datum) : Bool := match d with
  | .fin _ c _ => c != 0
  | _ => false
theorem i2d_pos : ∀ M, M < 10 → 0 < M → isF (FP.Core.decode FP.Core.b64 (FP.i2d (nI M)).toNat) = true := by decide +kernel
theorem div_nn {x : UInt64} {s : Bool} {c M : Nat} {q : Int} (hx : FP.Core.decode FP.Core.b64 x.toNat = .fin s c q) (h0 : 0 < M) (h9 : M < 10) : vf_n64 (FP.ddiv x (FP.i2d (nI M))) := by
  have h := i2d_pos M h9 h0
  have e1 : FP.ddiv x (FP.i2d (nI M)) = UInt64.ofNat (FP.Core.encode FP.Core.b64 (FP.Core.quotient FP.Core.b64 (FP.Core.decode FP.Core.b64 x.toNat) (FP.Core.decode FP.Core.b64 (FP.i2d (nI M)).toNat))) := rfl
  rw [e1, hx]
  generalize FP.Core.decode FP.Core.b64 (FP.i2d (nI M)).toNat = y at h
  cases y with
  | nan => exact Bool.noConfusion h
  | inf t => exact Bool.noConfusion h
  | fin t d r =>
    have hd : ¬ d = 0 := by
      intro z
      subst z
      exact Bool.noConfusion h
    have e : FP.Core.quotient FP.Core.b64 (.fin s c q) (.fin t d r) = FP.Core.roundRatio FP.Core.b64 (s != t) c d (q - r) := by
      show (if d = 0 then (if c = 0 then FP.Core.Datum.nan else .inf (s != t)) else FP.Core.roundRatio FP.Core.b64 (s != t) c d (q - r)) = _
      exact if_neg hd
    rw [e]
    exact rr_nn _ _ _ _
theorem fp_same {r : UInt64} (h : vf_n64 r) : Op.cmpValue (FP.dcmp r r) .l = 0 := by
  rw [fp_and] at h
  have e : FP.dcmp r r = FP.Core.order (FP.Core.decode FP.Core.b64 r.toNat) (FP.Core.decode FP.Core.b64 r.toNat) := rfl
  have hr : r.toNat < 18446744073709551616 := r.toNat_lt
  have hn : FP.Core.decode FP.Core.b64 r.toNat ≠ .nan := by
    unfold FP.Core.decode
    split
    · rename_i h1
      split
      · exact fun h => by cases h
      · rename_i h2
        unfold FP.Core.fieldE at h1
        unfold FP.Core.fieldT at h2
        rw [f_tails, f_exps] at h1
        rw [f_tails] at h2
        omega
    · split
      · exact fun h => by cases h
      · exact fun h => by cases h
  have ho : FP.Core.order (FP.Core.decode FP.Core.b64 r.toNat) (FP.Core.decode FP.Core.b64 r.toNat) = some .eq := by
    generalize FP.Core.decode FP.Core.b64 r.toNat = y at hn
    cases y with
    | nan => exact absurd rfl hn
    | inf s =>
      show some (compare (FP.Core.signed s 1) (FP.Core.signed s 1)) = some .eq
      cases s <;> decide
    | fin s c q =>
      show some (compare (FP.Core.signed s (FP.Core.inUnits c q (min q q))) (FP.Core.signed s (FP.Core.inUnits c q (min q q)))) = some .eq
      generalize FP.Core.signed s (FP.Core.inUnits c q (min q q)) = z
      show some (if z < z then Ordering.lt else if z = z then Ordering.eq else Ordering.gt) = some .eq
      rw [if_neg (Int.lt_irrefl z), if_pos rfl]
  rw [e, ho]
  rfl
theorem enc_fin {s : Bool} {c : Nat} {q : Int} (hc : c < 9007199254740992) (hq : q ≤ 900) : ∃ t d r, FP.Core.decode FP.Core.b64 (UInt64.ofNat (FP.Core.encode FP.Core.b64 (.fin s c q))).toNat = .fin t d r := by
  show ∃ t d r, FP.Core.decode FP.Core.b64 (UInt64.ofNat (if c < FP.Core.b64.tails then FP.Core.assemble FP.Core.b64 s 0 c else FP.Core.assemble FP.Core.b64 s ((q - FP.Core.b64.qmin).toNat + 1) (c - FP.Core.b64.tails))).toNat = .fin t d r
  rw [f_tails, f_qmin]
  by_cases h : c < 4503599627370496
  · rw [if_pos h, fp_asm (by decide) h, fp_dec (by decide) h, if_pos rfl]
    exact ⟨_, _, _, rfl⟩
  · rw [if_neg h, fp_asm (by omega) (by omega), fp_dec (by omega) (by omega), if_neg (by omega)]
    exact ⟨_, _, _, rfl⟩
theorem l2d_fin (a : Int64) : ∃ s c q, FP.Core.decode FP.Core.b64 (FP.l2d a).toNat = .fin s c q := by
  have r := l_rng a
  by_cases h : a.toInt = 0
  · have e : a = 0 := leq.mpr (h.trans rfl)
    rw [e]; exact ⟨_, _, _, fp_l2d0⟩
  · have h0 : a.toInt.natAbs ≠ 0 := by omega
    have hl : a.toInt.natAbs.log2 ≤ 63 := by
      have := (Nat.log2_lt (k := 64) h0).mpr (by omega)
      omega
    have hQ : fQ a.toInt.natAbs 0 ≤ 11 := by unfold fQ; omega
    rw [l2d_eq, fp_rr h0]
    generalize FP.Core.nearest (a.toInt.natAbs * 2 ^ (0 - fQ a.toInt.natAbs 0).toNat) (1 * 2 ^ (fQ a.toInt.natAbs 0 - 0).toNat) = z
    unfold FP.Core.settle FP.Core.bound
    rw [f_qmax, f_tails]
    split
    · rename_i h1
      rw [if_pos (by omega)]
      exact enc_fin h1 (by omega)
    · rw [if_pos (by omega)]
      exact enc_fin (by decide) (by omega)
