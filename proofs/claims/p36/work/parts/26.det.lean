/-! determinants by sets of columns: pure integers -/
theorem tbx (S m j : Nat) : (S ^^^ 2 ^ m).testBit j = (S.testBit j ^^ decide (m = j)) := by
  rw [Nat.testBit_xor, Nat.testBit_two_pow]
theorem tbx_ne {S m j : Nat} (h : m ≠ j) : (S ^^^ 2 ^ m).testBit j = S.testBit j := by
  rw [tbx, decide_eq_false h, Bool.xor_false]
theorem tbx_eq (S m : Nat) : (S ^^^ 2 ^ m).testBit m = !(S.testBit m) := by
  rw [tbx, decide_eq_true rfl, Bool.xor_true]
def cs (S m : Nat) : Nat → Int
  | 0 => 1
  | n + 1 => if m < n ∧ S.testBit n = true then -cs S m n else cs S m n
def eS (S m : Nat) : Int := if S.testBit m = true then cs S m 9 else 0
def exN (w D : Nat → Int) (S : Nat) : Nat → Int → Int
  | 0, _ => 0
  | n + 1, s => if S.testBit n = true then s * w n * D (S ^^^ 2 ^ n) + exN w D S n (-s) else exN w D S n s
theorem cs_s (S m n : Nat) : cs S m (n + 1) = if m < n ∧ S.testBit n = true then -cs S m n else cs S m n := rfl
theorem cs_low (S m : Nat) : ∀ n, n ≤ m + 1 → cs S m n = 1 := by
  intro n
  induction n with
  | zero => intro _; rfl
  | succ n ih => intro h; rw [cs_s, if_neg (by omega), ih (by omega)]
theorem exN_eq (w D : Nat → Int) (S : Nat) : ∀ n s, exN w D S n s = sm n (fun m => if S.testBit m = true then s * cs S m n * w m * D (S ^^^ 2 ^ m) else 0) := by
  intro n
  induction n with
  | zero => intro s; rfl
  | succ n ih =>
    intro s
    rw [sm_s]
    by_cases h : S.testBit n = true
    · rw [if_pos h, cs_low S n (n + 1) (Nat.le_refl _), Int.mul_one]
      show (if S.testBit n = true then s * w n * D (S ^^^ 2 ^ n) + exN w D S n (-s) else exN w D S n s) = _
      rw [if_pos h, ih, Int.add_comm]
      congr 1
      refine sm_congr (fun m hm => ?_)
      by_cases hm2 : S.testBit m = true
      · rw [if_pos hm2, if_pos hm2, cs_s, if_pos ⟨hm, h⟩, Int.neg_mul, Int.mul_neg]
      · rw [if_neg hm2, if_neg hm2]
    · rw [if_neg h, Int.add_zero]
      show (if S.testBit n = true then s * w n * D (S ^^^ 2 ^ n) + exN w D S n (-s) else exN w D S n s) = _
      rw [if_neg h, ih]
      refine sm_congr (fun m hm => ?_)
      by_cases hm2 : S.testBit m = true
      · rw [if_pos hm2, if_pos hm2, cs_s, if_neg (fun z => h z.2)]
      · rw [if_neg hm2, if_neg hm2]
theorem eS_no {S m : Nat} (h : S.testBit m = false) : eS S m = 0 := by
  unfold eS; rw [h]; rfl
def dt (w : Nat → Nat → Int) : Nat → Nat → Int
  | 0, _ => 1
  | k + 1, S => sm 9 (fun m => eS S m * w k m * dt w k (S ^^^ 2 ^ m))
theorem dt_s (w : Nat → Nat → Int) (k S : Nat) : dt w (k + 1) S = sm 9 (fun m => eS S m * w k m * dt w k (S ^^^ 2 ^ m)) := rfl
theorem exN_e (w D : Nat → Int) (S : Nat) : exN w D S 9 1 = sm 9 (fun m => eS S m * w m * D (S ^^^ 2 ^ m)) := by
  rw [exN_eq]
  refine sm_congr (fun m hm => ?_)
  unfold eS
  by_cases h : S.testBit m = true
  · rw [if_pos h, if_pos h, Int.one_mul]
  · rw [if_neg h, if_neg h, Int.zero_mul, Int.zero_mul]
/-! signs -/
theorem cs_up {S m q : Nat} (h : m < q) : ∀ n, cs (S ^^^ 2 ^ m) q n = cs S q n := by
  intro n
  induction n with
  | zero => rfl
  | succ n ih =>
    rw [cs_s, cs_s, ih]
    by_cases hq : q < n
    · rw [tbx_ne (by omega)]
    · rw [if_neg (fun z => hq z.1), if_neg (fun z => hq z.1)]
theorem cs_dn {S m q : Nat} (h : m < q) : ∀ n, cs (S ^^^ 2 ^ q) m n = if q < n then -cs S m n else cs S m n := by
  intro n
  induction n with
  | zero => rfl
  | succ n ih =>
    rw [cs_s, cs_s, ih]
    by_cases hn : n = q
    · subst hn
      rw [tbx_eq, if_neg (Nat.lt_irrefl n), if_pos (Nat.lt_succ_self n)]
      cases hb : S.testBit n
      · rw [if_pos ⟨h, rfl⟩, if_neg (fun z => Bool.noConfusion z.2)]
      · rw [if_neg (fun z => Bool.noConfusion z.2), if_pos ⟨h, rfl⟩, Int.neg_neg]
    · rw [tbx_ne (fun z => hn z.symm)]
      by_cases h2 : q < n
      · rw [if_pos h2, if_pos (show q < n + 1 by omega)]
        split <;> rfl
      · rw [if_neg h2, if_neg (show ¬ q < n + 1 by omega)]
theorem eS_up {S m q : Nat} (h : m < q) : eS (S ^^^ 2 ^ m) q = eS S q := by
  unfold eS
  rw [tbx_ne (by omega), cs_up h]
theorem eS_dn {S m q : Nat} (h : m < q) (hq : q < 9) : eS (S ^^^ 2 ^ q) m = -eS S m := by
  unfold eS
  rw [tbx_ne (by omega), cs_dn h, if_pos hq]
  split
  · rfl
  · rfl
def kS (S m q : Nat) : Int := eS S m * eS (S ^^^ 2 ^ m) q
theorem kS_lt {S m q : Nat} (h : m < q) (hq : q < 9) : kS S m q = -kS S q m := by
  unfold kS
  rw [eS_up h, eS_dn h hq, Int.mul_neg, Int.neg_neg, Int.mul_comm]
theorem kS_anti (S m q : Nat) (hm : m < 9) (hq : q < 9) : kS S m q = -kS S q m := by
  rcases Nat.lt_trichotomy m q with h | h | h
  · exact kS_lt h hq
  · subst h
    unfold kS
    cases hb : S.testBit m
    · rw [eS_no hb, Int.zero_mul]; rfl
    · rw [eS_no (S := S ^^^ 2 ^ m) (m := m) (by rw [tbx_eq, hb]; rfl), Int.mul_zero]; rfl
  · rw [kS_lt h hm, Int.neg_neg]
theorem sm_neg (n : Nat) (f : Nat → Int) : sm n (fun k => -f k) = -sm n f := by
  induction n with
  | zero => rfl
  | succ n ih => rw [sm_s, sm_s, ih]; omega
theorem sm_lmul (n : Nat) (f : Nat → Int) (c : Int) : sm n (fun k => c * f k) = c * sm n f := by
  rw [Int.mul_comm, ← sm_mul]
  exact sm_congr (fun k _ => Int.mul_comm _ _)
theorem xor3 (S m q : Nat) : S ^^^ 2 ^ m ^^^ 2 ^ q = S ^^^ 2 ^ q ^^^ 2 ^ m := by
  rw [Nat.xor_assoc, Nat.xor_comm (2 ^ m), ← Nat.xor_assoc]
theorem dt_2 (w : Nat → Nat → Int) (k S : Nat) : dt w (k + 2) S = sm 9 (fun m => sm 9 (fun q => kS S m q * (w (k + 1) m * w k q) * dt w k (S ^^^ 2 ^ m ^^^ 2 ^ q))) := by
  rw [dt_s]
  refine sm_congr (fun m _ => ?_)
  rw [dt_s, ← sm_lmul]
  refine sm_congr (fun q _ => ?_)
  unfold kS
  ac_rfl
theorem dt_congr {w w' : Nat → Nat → Int} : ∀ k, (∀ r, r < k → w r = w' r) → ∀ S, dt w k S = dt w' k S := by
  intro k
  induction k with
  | zero => intro _ S; rfl
  | succ k ih =>
    intro h S
    rw [dt_s, dt_s]
    refine sm_congr (fun m _ => ?_)
    rw [ih (fun r hr => h r (by omega)), h k (by omega)]
def swp (w : Nat → Nat → Int) (i : Nat) : Nat → Nat → Int := fun r => if r = i then w (i + 1) else if r = i + 1 then w i else w r
theorem dt_swp (w : Nat → Nat → Int) (i : Nat) : ∀ d S, dt (swp w i) (i + 2 + d) S = -dt w (i + 2 + d) S := by
  intro d
  induction d with
  | zero =>
    intro S
    rw [Nat.add_zero, dt_2, dt_2, sm_swap, ← sm_neg]
    refine sm_congr (fun m hm => ?_)
    rw [← sm_neg]
    refine sm_congr (fun q hq => ?_)
    rw [dt_congr (w := swp w i) (w' := w) i (fun r hr => by unfold swp; rw [if_neg (by omega), if_neg (by omega)]), kS_anti S q m hq hm, xor3 S q m]
    have e1 : swp w i (i + 1) = w i := by unfold swp; rw [if_neg (by omega), if_pos rfl]
    have e2 : swp w i i = w (i + 1) := by unfold swp; rw [if_pos rfl]
    rw [e1, e2, Int.mul_comm (w i q), Int.neg_mul, Int.neg_mul]
  | succ d ih =>
    intro S
    rw [← Nat.add_assoc, dt_s, dt_s, ← sm_neg]
    refine sm_congr (fun m _ => ?_)
    have e : swp w i (i + 2 + d) = w (i + 2 + d) := by unfold swp; rw [if_neg (by omega), if_neg (by omega)]
    rw [ih, e, Int.mul_neg]
theorem dt_dup : ∀ (d : Nat) (w : Nat → Nat → Int) (i k : Nat), i + 1 + d < k → w i = w (i + 1 + d) → ∀ S, dt w k S = 0 := by
  intro d
  induction d with
  | zero =>
    intro w i k hk he S
    have e : swp w i = w := by
      funext r
      unfold swp
      split
      · rename_i h; rw [h]; exact he.symm
      · split
        · rename_i h; rw [h]; exact he
        · rfl
    have h := dt_swp w i (k - (i + 2)) S
    rw [show i + 2 + (k - (i + 2)) = k by omega, e] at h
    omega
  | succ d ih =>
    intro w i k hk he S
    have h := dt_swp w (i + 1 + d) (k - (i + 1 + d + 2)) S
    rw [show i + 1 + d + 2 + (k - (i + 1 + d + 2)) = k by omega] at h
    have h2 := ih (swp w (i + 1 + d)) i k (by omega) (by
      have e1 : swp w (i + 1 + d) i = w i := by unfold swp; rw [if_neg (by omega), if_neg (by omega)]
      have e2 : swp w (i + 1 + d) (i + 1 + d) = w (i + 1 + d + 1) := by unfold swp; rw [if_pos rfl]
      rw [e1, e2, he]; rfl) S
    omega
/-! a column of what is asked, behind the others -/
def pcn (S : Nat) : Nat → Nat
  | 0 => 0
  | n + 1 => pcn S n + (if S.testBit n = true then 1 else 0)
def pc (S : Nat) : Nat := pcn S 9
def aw (w : Nat → Nat → Int) (a : Nat → Int) : Nat → Nat → Int := fun r m => if m = 7 then a r else w r m
def fs (w : Nat → Nat → Int) (a : Nat → Int) : Nat → Nat → Int
  | 0, _ => a 0
  | k + 1, S => a (k + 1) * dt w (k + 1) S - sm 9 (fun m => eS S m * w (k + 1) m * fs w a k (S ^^^ 2 ^ m))
theorem fs_s (w : Nat → Nat → Int) (a : Nat → Int) (k S : Nat) : fs w a (k + 1) S = a (k + 1) * dt w (k + 1) S - sm 9 (fun m => eS S m * w (k + 1) m * fs w a k (S ^^^ 2 ^ m)) := rfl
theorem d128 : ∀ S, S < 128 → eS (S + 128) 7 = 1 ∧ eS (S + 128) 8 = 0 ∧ eS S 7 = 0 ∧ eS S 8 = 0 ∧ (S + 128) ^^^ 2 ^ 7 = S ∧ (pc S = 0 → S = 0) := by decide +kernel
theorem d128m : ∀ S, S < 128 → ∀ m, m < 7 → eS (S + 128) m = -eS S m ∧ (S + 128) ^^^ 2 ^ m = (S ^^^ 2 ^ m) + 128 ∧ S ^^^ 2 ^ m < 128 := by decide +kernel
theorem pc_x : ∀ S, S < 128 → ∀ m, m < 7 → S.testBit m = true → pc (S ^^^ 2 ^ m) + 1 = pc S := by decide +kernel
theorem sm_9 (f : Nat → Int) : sm 9 f = sm 7 f + f 7 + f 8 := rfl
theorem dt_aw (w : Nat → Nat → Int) (a : Nat → Int) : ∀ k S, S < 128 → dt (aw w a) k S = dt w k S := by
  intro k
  induction k with
  | zero => intro S _; rfl
  | succ k ih =>
    intro S hS
    obtain ⟨-, -, h7, h8, -, -⟩ := d128 S hS
    rw [dt_s, dt_s, sm_9, sm_9, h7, h8]
    simp only [Int.zero_mul, Int.add_zero]
    refine sm_congr (fun m hm => ?_)
    rw [ih _ (d128m S hS m hm).2.2]
    unfold aw
    rw [if_neg (by omega)]
theorem fs_eq (w : Nat → Nat → Int) (a : Nat → Int) : ∀ k S, S < 128 → pc S = k → dt (aw w a) (k + 1) (S + 128) = fs w a k S := by
  intro k
  induction k with
  | zero =>
    intro S hS hp
    have e : S = 0 := (d128 S hS).2.2.2.2.2 hp
    subst e
    obtain ⟨h7, h8, -, -, -, -⟩ := d128 0 hS
    have e0 : sm 7 (fun m => eS (0 + 128) m * aw w a 0 m * dt (aw w a) 0 ((0 + 128) ^^^ 2 ^ m)) = 0 := sm_zero (fun m hm => by
      rw [(d128m 0 hS m hm).1, eS_no (S := 0) (Nat.zero_testBit m)]
      simp)
    rw [dt_s, sm_9, h7, h8, e0]
    show 0 + 1 * aw w a 0 7 * 1 + 0 * aw w a 0 8 * 1 = a 0
    have e7 : aw w a 0 7 = a 0 := rfl
    rw [e7]
    omega
  | succ k ih =>
    intro S hS hp
    obtain ⟨h7, h8, g7, g8, hx, -⟩ := d128 S hS
    rw [dt_s, sm_9, h7, h8, hx, dt_aw w a (k + 1) S hS, fs_s, sm_9, g7, g8]
    have e7 : aw w a (k + 1) 7 = a (k + 1) := rfl
    rw [e7]
    simp only [Int.one_mul, Int.zero_mul, Int.add_zero]
    have e : sm 7 (fun m => eS (S + 128) m * aw w a (k + 1) m * dt (aw w a) (k + 1) ((S + 128) ^^^ 2 ^ m)) = sm 7 (fun m => -(eS S m * w (k + 1) m * fs w a k (S ^^^ 2 ^ m))) := by
      refine sm_congr (fun m hm => ?_)
      obtain ⟨q1, q2, q3⟩ := d128m S hS m hm
      rw [q1, q2]
      cases hb : S.testBit m
      · rw [eS_no hb]; simp
      · have hpc := pc_x S hS m hm hb
        rw [ih (S ^^^ 2 ^ m) q3 (by omega)]
        have e2 : aw w a (k + 1) m = w (k + 1) m := by unfold aw; rw [if_neg (by omega)]
        rw [e2, Int.neg_mul, Int.neg_mul]
    rw [e, sm_neg]
    omega
theorem fs_congr {w w' : Nat → Nat → Int} {a a' : Nat → Int} : ∀ k, (∀ r, r ≤ k → w r = w' r ∧ a r = a' r) → ∀ S, fs w a k S = fs w' a' k S := by
  intro k
  induction k with
  | zero => intro h S; exact (h 0 (Nat.le_refl _)).2
  | succ k ih =>
    intro h S
    rw [fs_s, fs_s, dt_congr (k + 1) (fun r hr => (h r (by omega)).1) S, (h (k + 1) (Nat.le_refl _)).2, (h (k + 1) (Nat.le_refl _)).1]
    congr 1
    refine sm_congr (fun m _ => ?_)
    rw [ih (fun r hr => h r (by omega))]
theorem fs_lin (w : Nat → Nat → Int) (a b : Nat → Int) (c : Int) : ∀ k S, fs w (fun r => c * a r + b r) k S = c * fs w a k S + fs w b k S := by
  intro k
  induction k with
  | zero => intro S; rfl
  | succ k ih =>
    intro S
    rw [fs_s, fs_s, fs_s]
    have e : sm 9 (fun m => eS S m * w (k + 1) m * fs w (fun r => c * a r + b r) k (S ^^^ 2 ^ m)) = c * sm 9 (fun m => eS S m * w (k + 1) m * fs w a k (S ^^^ 2 ^ m)) + sm 9 (fun m => eS S m * w (k + 1) m * fs w b k (S ^^^ 2 ^ m)) := by
      rw [← sm_lmul, ← sm_add]
      refine sm_congr (fun m _ => ?_)
      rw [ih, Int.mul_add, Int.mul_left_comm]
    rw [e, Int.add_mul, Int.mul_sub, Int.mul_assoc]
    omega
theorem d_all : ∀ n, n < 8 → 2 ^ n - 1 < 128 ∧ pc (2 ^ n - 1) = n := by decide +kernel
/-- what the determinants tell of each row -/
theorem cramer (w : Nat → Nat → Int) (a : Nat → Int) (n r : Nat) (hn : n + 1 < 8) (hr : r ≤ n) : sm 9 (fun m => eS (2 ^ (n + 1) - 1) m * w r m * fs w a n ((2 ^ (n + 1) - 1) ^^^ 2 ^ m)) = a r * dt w (n + 1) (2 ^ (n + 1) - 1) := by
  obtain ⟨h1, h2⟩ := d_all (n + 1) hn
  obtain ⟨w', hw'⟩ : ∃ z : Nat → Nat → Int, z = fun q => if q = n + 1 then w r else w q := ⟨_, rfl⟩
  obtain ⟨a', ha'⟩ : ∃ z : Nat → Int, z = fun q => if q = n + 1 then a r else a q := ⟨_, rfl⟩
  have w1 : w' (n + 1) = w r := by rw [hw']; exact if_pos rfl
  have a1 : a' (n + 1) = a r := by rw [ha']; exact if_pos rfl
  have w2 : ∀ q, q ≠ n + 1 → w' q = w q := fun q hq => by rw [hw']; exact if_neg hq
  have a2 : ∀ q, q ≠ n + 1 → a' q = a q := fun q hq => by rw [ha']; exact if_neg hq
  have h3 := fs_eq w' a' (n + 1) _ h1 h2
  have h4 : dt (aw w' a') (n + 1 + 1) (2 ^ (n + 1) - 1 + 128) = 0 := dt_dup (n - r) (aw w' a') r (n + 1 + 1) (by omega) (by
    rw [show r + 1 + (n - r) = n + 1 by omega]
    funext m
    unfold aw
    rw [w1, a1, w2 r (by omega), a2 r (by omega)]) _
  have e : sm 9 (fun m => eS (2 ^ (n + 1) - 1) m * w r m * fs w' a' n ((2 ^ (n + 1) - 1) ^^^ 2 ^ m)) = sm 9 (fun m => eS (2 ^ (n + 1) - 1) m * w r m * fs w a n ((2 ^ (n + 1) - 1) ^^^ 2 ^ m)) :=
    sm_congr (fun m _ => by rw [fs_congr (w := w') (w' := w) (a := a') (a' := a) n (fun q hq => ⟨w2 q (by omega), a2 q (by omega)⟩)])
  rw [h4, fs_s, w1, a1, dt_congr (w := w') (w' := w) (n + 1) (fun q hq => w2 q (by omega)), e] at h3
  omega
/-! bounds -/
def bd : Nat → Int
  | 0 => 1
  | k + 1 => (k + 1) * (24 * bd k)
theorem bd_pos (k : Nat) : 0 ≤ bd k := by
  induction k with
  | zero => decide
  | succ k ih => exact Int.mul_nonneg (by omega) (by omega)
theorem cs_one (S m n : Nat) : cs S m n = 1 ∨ cs S m n = -1 := by
  induction n with
  | zero => exact Or.inl rfl
  | succ n ih =>
    rw [cs_s]
    split
    · rcases ih with h | h <;> rw [h]
      · exact Or.inr rfl
      · exact Or.inl rfl
    · exact ih
theorem sm_e (S : Nat) (t : Nat → Int) (B : Int) : ∀ n, (∀ m, m < n → S.testBit m = true → -B ≤ t m ∧ t m ≤ B) → -((pcn S n : Int) * B) ≤ sm n (fun m => eS S m * t m) ∧ sm n (fun m => eS S m * t m) ≤ (pcn S n : Int) * B := by
  intro n
  induction n with
  | zero => intro _; simp [sm, pcn]
  | succ n ih =>
    intro h
    have h1 := ih (fun m hm => h m (by omega))
    rw [sm_s]
    cases hb : S.testBit n
    · have e : pcn S (n + 1) = pcn S n := by show pcn S n + (if S.testBit n = true then 1 else 0) = _; rw [hb]; rfl
      rw [e, eS_no hb, Int.zero_mul]
      omega
    · have e : (pcn S (n + 1) : Int) = pcn S n + 1 := by
        have : pcn S (n + 1) = pcn S n + 1 := by show pcn S n + (if S.testBit n = true then 1 else 0) = _; rw [hb]; rfl
        omega
      have h2 := h n (by omega) hb
      have e2 : eS S n = cs S n 9 := by unfold eS; rw [if_pos hb]
      rw [e, e2, Int.add_mul, Int.one_mul]
      rcases cs_one S n 9 with q | q <;> rw [q]
      · rw [Int.one_mul]; omega
      · rw [Int.neg_mul, Int.one_mul]; omega
theorem mul_bd {x y A B : Int} (hx : -A ≤ x ∧ x ≤ A) (hy : -B ≤ y ∧ y ≤ B) (hA : 0 ≤ A) (hB : 0 ≤ B) : -(A * B) ≤ x * y ∧ x * y ≤ A * B := by
  have k1 : x.natAbs ≤ A.toNat := by omega
  have k2 : y.natAbs ≤ B.toNat := by omega
  have k3 := Nat.mul_le_mul k1 k2
  rw [← Int.natAbs_mul] at k3
  have k4 : ((A.toNat * B.toNat : Nat) : Int) = A * B := by
    rw [Int.natCast_mul, Int.toNat_of_nonneg hA, Int.toNat_of_nonneg hB]
  omega
theorem dt_bd (w : Nat → Nat → Int) (hw : ∀ r m, -24 ≤ w r m ∧ w r m ≤ 24) : ∀ k S, S < 128 → pc S = k → -bd k ≤ dt w k S ∧ dt w k S ≤ bd k := by
  intro k
  induction k with
  | zero => intro S _ _; exact ⟨show (-1 : Int) ≤ 1 by decide, show (1 : Int) ≤ 1 by decide⟩
  | succ k ih =>
    intro S hS hp
    have e : dt w (k + 1) S = sm 9 (fun m => eS S m * (w k m * dt w k (S ^^^ 2 ^ m))) := by
      rw [dt_s]; exact sm_congr (fun m _ => Int.mul_assoc _ _ _)
    have h := sm_e S (fun m => w k m * dt w k (S ^^^ 2 ^ m)) (24 * bd k) 9 (fun m hm hb => by
      have hm7 : m < 7 := by
        apply Nat.lt_of_not_le
        intro hle
        have : S < 2 ^ m := Nat.lt_of_lt_of_le hS (Nat.pow_le_pow_right (by decide) hle : 2 ^ 7 ≤ 2 ^ m)
        rw [Nat.testBit_lt_two_pow this] at hb
        exact Bool.noConfusion hb
      have hpc := pc_x S hS m hm7 hb
      exact mul_bd (hw k m) (ih _ (d128m S hS m hm7).2.2 (by omega)) (by decide) (bd_pos k))
    have e2 : (pcn S 9 : Int) = (k : Int) + 1 := by
      have : pcn S 9 = k + 1 := hp
      omega
    rw [e2] at h
    rw [e]
    exact h
theorem fs_bd (w : Nat → Nat → Int) (a : Nat → Int) (A : Int) (hA : 0 ≤ A) (hw : ∀ r m, -24 ≤ w r m ∧ w r m ≤ 24) (ha : ∀ r, -A ≤ a r ∧ a r ≤ A) : ∀ k S, S < 128 → pc S = k → -(A * ((k + 1) * bd k)) ≤ fs w a k S ∧ fs w a k S ≤ A * ((k + 1) * bd k) := by
  intro k
  induction k with
  | zero =>
    intro S _ _
    have := ha 0
    have e : A * ((((0 : Nat) : Int) + 1) * bd 0) = A := by rw [show ((((0 : Nat) : Int) + 1) * bd 0) = 1 from rfl, Int.mul_one]
    show -(A * ((((0 : Nat) : Int) + 1) * bd 0)) ≤ a 0 ∧ a 0 ≤ A * ((((0 : Nat) : Int) + 1) * bd 0)
    rw [e]; exact this
  | succ k ih =>
    intro S hS hp
    have h1 := mul_bd (ha (k + 1)) (dt_bd w hw (k + 1) S hS hp) hA (bd_pos _)
    have e : sm 9 (fun m => eS S m * w (k + 1) m * fs w a k (S ^^^ 2 ^ m)) = sm 9 (fun m => eS S m * (w (k + 1) m * fs w a k (S ^^^ 2 ^ m))) := sm_congr (fun m _ => Int.mul_assoc _ _ _)
    have hB : 0 ≤ A * ((k + 1) * bd k) := Int.mul_nonneg hA (Int.mul_nonneg (by omega) (bd_pos k))
    have h := sm_e S (fun m => w (k + 1) m * fs w a k (S ^^^ 2 ^ m)) (24 * (A * ((k + 1) * bd k))) 9 (fun m hm hb => by
      have hm7 : m < 7 := by
        apply Nat.lt_of_not_le
        intro hle
        have : S < 2 ^ m := Nat.lt_of_lt_of_le hS (Nat.pow_le_pow_right (by decide) hle : 2 ^ 7 ≤ 2 ^ m)
        rw [Nat.testBit_lt_two_pow this] at hb
        exact Bool.noConfusion hb
      have hpc := pc_x S hS m hm7 hb
      exact mul_bd (hw (k + 1) m) (ih _ (d128m S hS m hm7).2.2 (by omega)) (by decide) hB)
    have e2 : (pcn S 9 : Int) = (k : Int) + 1 := by
      have : pcn S 9 = k + 1 := hp
      omega
    rw [e2] at h
    rw [fs_s, e]
    have e3 : A * ((((k + 1 : Nat) : Int) + 1) * bd (k + 1)) = A * bd (k + 1) + ((k : Int) + 1) * (24 * (A * ((k + 1) * bd k))) := by
      have e4 : bd (k + 1) = ((k : Int) + 1) * (24 * bd k) := rfl
      rw [e4, nc1]
      grind
    rw [e3]
    omega
