/-! what a step keeps -/
def Kp (li ll la lb : List Nat) (σ τ : Sg) : Prop :=
  (∀ k, li.contains k = false → gI τ k = gI σ k) ∧ (∀ k, ll.contains k = false → gL τ k = gL σ k) ∧
  (∀ k, la.contains k = false → gA τ k = gA σ k) ∧ (∀ k, lb.contains k = false → gB τ k = gB σ k)
section KP
variable {li ll la lb li' ll' la' lb' : List Nat} {σ τ ρ : Sg} {k j : Nat} {v : Int32} {w : Int64}
theorem Kp.rf : Kp li ll la lb σ σ := ⟨fun _ _ => rfl, fun _ _ => rfl, fun _ _ => rfl, fun _ _ => rfl⟩
theorem Kp.tr (h : Kp li ll la lb σ τ) (h2 : Kp li ll la lb τ ρ) : Kp li ll la lb σ ρ :=
  ⟨fun k q => (h2.1 k q).trans (h.1 k q), fun k q => (h2.2.1 k q).trans (h.2.1 k q), fun k q => (h2.2.2.1 k q).trans (h.2.2.1 k q), fun k q => (h2.2.2.2 k q).trans (h.2.2.2 k q)⟩
theorem kp_sub {l l' : List Nat} (h : (l.all fun x => l'.contains x) = true) (k : Nat) (hk : l'.contains k = false) : l.contains k = false := by
  cases hc : l.contains k
  · rfl
  · have h1 := List.contains_iff_mem.mp hc
    have h2 := List.all_eq_true.mp h k h1
    rw [hk] at h2
    exact Bool.noConfusion h2
theorem Kp.mo (h : Kp li ll la lb σ τ) (h1 : (li.all fun x => li'.contains x) = true) (h2 : (ll.all fun x => ll'.contains x) = true) (h3 : (la.all fun x => la'.contains x) = true) (h4 : (lb.all fun x => lb'.contains x) = true) : Kp li' ll' la' lb' σ τ :=
  ⟨fun k q => h.1 k (kp_sub h1 k q), fun k q => h.2.1 k (kp_sub h2 k q), fun k q => h.2.2.1 k (kp_sub h3 k q), fun k q => h.2.2.2 k (kp_sub h4 k q)⟩
theorem Kp.I (h : Kp li ll la lb σ τ) (k : Nat) (hk : li.contains k = false) : gI τ k = gI σ k := h.1 k hk
theorem Kp.L (h : Kp li ll la lb σ τ) (k : Nat) (hk : ll.contains k = false) : gL τ k = gL σ k := h.2.1 k hk
theorem Kp.A (h : Kp li ll la lb σ τ) (k : Nat) (hk : la.contains k = false) : gA τ k = gA σ k := h.2.2.1 k hk
theorem Kp.B (h : Kp li ll la lb σ τ) (k : Nat) (hk : lb.contains k = false) : gB τ k = gB σ k := h.2.2.2 k hk
theorem kp_ne {l : List Nat} {a b : Nat} (ha : l.contains a = true) (hb : l.contains b = false) : ¬ b = a := by
  intro e; rw [e, ha] at hb; exact Bool.noConfusion hb
theorem Kp.sI (h : Kp li ll la lb σ τ) (hk : li.contains k = true) : Kp li ll la lb σ (sI τ k v) :=
  ⟨fun q hq => by rw [gI_sI, if_neg (kp_ne hk hq)]; exact h.1 q hq, fun q hq => h.2.1 q hq, fun q hq => h.2.2.1 q hq, fun q hq => h.2.2.2 q hq⟩
theorem Kp.sL (h : Kp li ll la lb σ τ) (hk : ll.contains k = true) : Kp li ll la lb σ (sL τ k w) :=
  ⟨fun q hq => h.1 q hq, fun q hq => by rw [gL_sL, if_neg (kp_ne hk hq)]; exact h.2.1 q hq, fun q hq => h.2.2.1 q hq, fun q hq => h.2.2.2 q hq⟩
theorem Kp.sA (h : Kp li ll la lb σ τ) (hk : la.contains k = true) : Kp li ll la lb σ (sA τ k j v) :=
  ⟨fun q hq => h.1 q hq, fun q hq => h.2.1 q hq, fun q hq => by rw [gA_sA, if_neg (kp_ne hk hq)]; exact h.2.2.1 q hq, fun q hq => h.2.2.2 q hq⟩
theorem Kp.sB (h : Kp li ll la lb σ τ) (hk : lb.contains k = true) : Kp li ll la lb σ (sB τ k j w) :=
  ⟨fun q hq => h.1 q hq, fun q hq => h.2.1 q hq, fun q hq => h.2.2.1 q hq, fun q hq => by rw [gB_sB, if_neg (kp_ne hk hq)]; exact h.2.2.2 q hq⟩
end KP
/-! longs -/
theorem l_rng (x : Int64) : -9223372036854775808 ≤ x.toInt ∧ x.toInt < 9223372036854775808 := ⟨x.le_toInt, x.toInt_lt⟩
theorem l_mul {x y : Int64} {a b B : Int} (hx : x.toInt = a) (hy : y.toInt = b) (h : -B ≤ a * b ∧ a * b ≤ B) (hB : B < 9223372036854775808) : (x * y).toInt = a * b := by
  rw [li_mul x y (by rw [hx, hy]; omega), hx, hy]
theorem l_add {x y : Int64} {a b : Int} (hx : x.toInt = a) (hy : y.toInt = b) (h : -9223372036854775808 ≤ a + b ∧ a + b < 9223372036854775808) : (x + y).toInt = a + b := by
  rw [li_add x y (by rw [hx, hy]; exact h), hx, hy]
theorem l_sub {x y : Int64} {a b : Int} (hx : x.toInt = a) (hy : y.toInt = b) (h : -9223372036854775808 ≤ a - b ∧ a - b < 9223372036854775808) : (x - y).toInt = a - b := by
  rw [li_sub x y (by rw [hx, hy]; exact h), hx, hy]
theorem ediv_bd {x d B : Int} (hd : 0 < d) (h : -B ≤ x ∧ x ≤ B) (hB : 0 ≤ B) : -B ≤ x / d ∧ x / d ≤ B := by
  constructor
  · apply Int.le_ediv_of_mul_le hd
    have h1 : 0 ≤ B * (d - 1) := Int.mul_nonneg hB (by omega)
    rw [Int.mul_sub, Int.mul_one] at h1
    rw [Int.neg_mul]
    omega
  · by_cases hx : 0 ≤ x
    · have := Int.ediv_le_self d hx
      omega
    · have h0 : x / d < 0 := Int.ediv_lt_of_lt_mul hd (by omega)
      omega
theorem l_sgn (p d : Int64) : (0 ≤ p ^^^ d) ↔ (p.toInt < 0 ↔ d.toInt < 0) := by
  have e : decide ((p ^^^ d).toInt < 0) = (decide (p.toInt < 0) ^^ decide (d.toInt < 0)) := by
    show decide ((p ^^^ d).toBitVec.toInt < 0) = (decide (p.toBitVec.toInt < 0) ^^ decide (d.toBitVec.toInt < 0))
    rw [← BitVec.msb_eq_toInt, ← BitVec.msb_eq_toInt, ← BitVec.msb_eq_toInt, ← BitVec.msb_xor]
    rfl
  rw [lle]
  have z : (0 : Int64).toInt = 0 := rfl
  rw [z]
  by_cases h1 : p.toInt < 0 <;> by_cases h2 : d.toInt < 0
  · rw [decide_eq_true h1, decide_eq_true h2] at e
    have := of_decide_eq_false e
    exact ⟨fun _ => ⟨fun _ => h2, fun _ => h1⟩, fun _ => by omega⟩
  · rw [decide_eq_true h1, decide_eq_false h2] at e
    have := of_decide_eq_true e
    exact ⟨fun _ => by omega, fun q => absurd (q.mp h1) h2⟩
  · rw [decide_eq_false h1, decide_eq_true h2] at e
    have := of_decide_eq_true e
    exact ⟨fun _ => by omega, fun q => absurd (q.mpr h2) h1⟩
  · rw [decide_eq_false h1, decide_eq_false h2] at e
    have := of_decide_eq_false e
    exact ⟨fun _ => ⟨fun z => absurd z h1, fun z => absurd z h2⟩, fun _ => by omega⟩
theorem l_ne0 {d : Int64} (h : 0 < d.toInt) : ¬ d = 0 := by
  intro e
  rw [e] at h
  exact absurd h (by decide)
theorem l_div {p d : Int64} (h : 0 < d.toInt) : (p / d).toInt = p.toInt.tdiv d.toInt := by
  apply Int64.toInt_div_of_ne_right
  intro e
  rw [e] at h
  exact absurd h (by decide)
theorem l_divp {p d : Int64} (h : 0 < d.toInt) (hp : 0 ≤ p.toInt) : (p / d).toInt = p.toInt / d.toInt := by
  rw [l_div h, Int.tdiv_eq_ediv_of_nonneg hp]
theorem em (x d : Int) : x / d * d + x % d = x := Int.ediv_mul_add_emod x d
/-- below 0: where the divisor goes in, and where it doesn't -/
theorem tdn {x d : Int} (hd : 0 < d) (hx : x < 0) : (x % d = 0 ∧ x.tdiv d = x / d) ∨ (¬ x % d = 0 ∧ x.tdiv d = x / d + 1) := by
  rw [Int.tdiv_eq_ediv]
  by_cases h : d ∣ x
  · exact Or.inl ⟨Int.emod_eq_zero_of_dvd h, by rw [if_pos (Or.inr h), Int.add_zero]⟩
  · refine Or.inr ⟨fun e => h (Int.dvd_of_emod_eq_zero e), ?_⟩
    rw [if_neg (by rintro (q | q); omega; exact h q), Int.sign_eq_one_of_pos hd]
theorem s_floorDiv {p d : Int64} {σ : Sg} {Q : Int64 → Prop} (hd : 0 < d.toInt) (h : ∀ r : Int64, r.toInt = p.toInt / d.toInt → Q r) : w_J9_floorDiv_f86c9 p d σ Q := by
  unfold w_J9_floorDiv_f86c9
  refine ⟨l_ne0 hd, ?_⟩
  rintro _ rfl
  have hp := l_rng p
  have hd2 := l_rng d
  have e := em p.toInt d.toInt
  have e1 := Int.emod_nonneg p.toInt (Int.ne_of_gt hd)
  have e2 := Int.emod_lt_of_pos p.toInt hd
  refine ⟨fun q => ?_, fun q => ?_⟩
  · have s := (l_sgn p d).mp q
    exact h _ (l_divp hd (by omega))
  · have s : p.toInt < 0 := by
      apply Int.not_le.mp
      intro z
      exact q ((l_sgn p d).mpr ⟨fun _ => by omega, fun _ => by omega⟩)
    rcases tdn hd s with ⟨t1, t2⟩ | ⟨t1, t2⟩
    · have hm : (p / d * d).toInt = p.toInt := by
        rw [li_mul _ _ (by rw [l_div hd, t2]; omega), l_div hd, t2]; omega
      refine ⟨fun _ => h _ (by rw [l_div hd, t2]), fun q2 => absurd (leq.mpr hm) q2⟩
    · have ee : (p.toInt / d.toInt + 1) * d.toInt = p.toInt / d.toInt * d.toInt + d.toInt := by rw [Int.add_mul, Int.one_mul]
      have hm : (p / d * d).toInt = p.toInt - p.toInt % d.toInt + d.toInt := by
        rw [li_mul _ _ (by rw [l_div hd, t2]; omega), l_div hd, t2]; omega
      refine ⟨fun q2 => ?_, fun _ => h _ ?_⟩
      · have := leq.mp q2
        omega
      · have hb := ediv_bd (x := p.toInt) (B := 9223372036854775808) hd (by omega) (by decide)
        have o : (1 : Int64).toInt = 1 := rfl
        have hb0 : p.toInt / d.toInt < 0 := Int.ediv_lt_of_lt_mul hd (by omega)
        rw [li_sub _ _ (by rw [l_div hd, t2, o]; omega), l_div hd, t2, o]
        omega
theorem l_rem {p d : Int64} (h : 0 < d.toInt) : (lRem p d).toInt = p.toInt - p.toInt.tdiv d.toInt * d.toInt := by
  have hp := l_rng p
  have hd2 := l_rng d
  have e := em p.toInt d.toInt
  have e1 := Int.emod_nonneg p.toInt (Int.ne_of_gt h)
  have e2 := Int.emod_lt_of_pos p.toInt h
  have hb : 0 ≤ p.toInt → p.toInt.tdiv d.toInt * d.toInt = p.toInt - p.toInt % d.toInt := fun z => by rw [Int.tdiv_eq_ediv_of_nonneg z]; omega
  have hb2 : p.toInt < 0 → p.toInt ≤ p.toInt.tdiv d.toInt * d.toInt ∧ p.toInt.tdiv d.toInt * d.toInt ≤ 0 := fun z => by
    have hn : p.toInt / d.toInt < 0 := Int.ediv_lt_of_lt_mul h (by omega)
    have hn2 := Int.mul_le_mul_of_nonneg_right (show p.toInt / d.toInt + 1 ≤ 0 by omega) (Int.le_of_lt h)
    have ee : (p.toInt / d.toInt + 1) * d.toInt = p.toInt / d.toInt * d.toInt + d.toInt := by rw [Int.add_mul, Int.one_mul]
    rw [Int.zero_mul, ee] at hn2
    rcases tdn h z with ⟨t1, t2⟩ | ⟨t1, t2⟩
    · rw [t2]; omega
    · rw [t2]; omega
  have hb3 : 0 ≤ p.toInt → p.toInt % d.toInt ≤ p.toInt := fun z => by
    have := Int.mul_nonneg (Int.ediv_nonneg z (Int.le_of_lt h)) (Int.le_of_lt h)
    omega
  have hm : (p / d * d).toInt = p.toInt.tdiv d.toInt * d.toInt := by
    rw [li_mul _ _ (by rw [l_div h]; omega), l_div h]
  show (p - p / d * d).toInt = _
  rw [li_sub _ _ (by rw [hm]; omega), hm]
theorem l_remp {p d : Int64} (h : 0 < d.toInt) (hp : 0 ≤ p.toInt) : (lRem p d).toInt = p.toInt % d.toInt := by
  have e := em p.toInt d.toInt
  rw [l_rem h, Int.tdiv_eq_ediv_of_nonneg hp]
  omega
theorem s_floorMod {p d : Int64} {σ : Sg} {Q : Int64 → Prop} (hd : 0 < d.toInt) (h : ∀ r : Int64, r.toInt = p.toInt % d.toInt → Q r) : w_J9_floorMod_f86c9 p d σ Q := by
  unfold w_J9_floorMod_f86c9
  refine ⟨l_ne0 hd, ?_⟩
  rintro _ rfl
  have hd2 := l_rng d
  have e := em p.toInt d.toInt
  have e1 := Int.emod_nonneg p.toInt (Int.ne_of_gt hd)
  have e2 := Int.emod_lt_of_pos p.toInt hd
  have z0 : (0 : Int64).toInt = 0 := rfl
  refine ⟨fun q => ?_, fun q => ?_⟩
  · have s := (l_sgn p d).mp q
    exact h _ (l_remp hd (by omega))
  · have s : p.toInt < 0 := by
      apply Int.not_le.mp
      intro z
      exact q ((l_sgn p d).mpr ⟨fun _ => by omega, fun _ => by omega⟩)
    rcases tdn hd s with ⟨t1, t2⟩ | ⟨t1, t2⟩
    · have hm : (lRem p d).toInt = 0 := by rw [l_rem hd, t2]; omega
      exact ⟨fun _ => h _ (by rw [hm, t1]), fun q2 => absurd (leq.mpr (hm.trans z0.symm)) q2⟩
    · have ee : (p.toInt / d.toInt + 1) * d.toInt = p.toInt / d.toInt * d.toInt + d.toInt := by rw [Int.add_mul, Int.one_mul]
      have hm : (lRem p d).toInt = p.toInt % d.toInt - d.toInt := by rw [l_rem hd, t2]; omega
      refine ⟨fun q2 => ?_, fun _ => h _ ?_⟩
      · have := leq.mp q2
        rw [hm, z0] at this
        omega
      · rw [li_add _ _ (by rw [hm]; omega), hm]; omega
