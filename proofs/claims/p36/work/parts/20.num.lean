/-! numbers, getters and setters -/
theorem nc1 (c : Nat) : ((c + 1 : Nat) : Int) = (c : Int) + 1 := by omega
theorem in_nI {a n : Nat} (h : a < n) (hn : n < 1000000) : vp_in (nI a) n := nI_in h (by omega)
theorem ixn {a : Nat} (h : a < 1000000) : ix (nI a) = a := nI_clamp (by omega)
theorem nI_lt2 {a b : Nat} (ha : a < 2147483648) (hb : b < 2147483648) : nI a < nI b ↔ a < b := nI_ltI (by omega) (by omega)
theorem nI_le2 {a b : Nat} (ha : a < 2147483648) (hb : b < 2147483648) : nI a ≤ nI b ↔ a ≤ b := nI_leI (by omega) (by omega)
theorem nI_eq2 {a b : Nat} (ha : a < 2147483648) (hb : b < 2147483648) : nI a = nI b ↔ a = b := nI_eq (by omega) (by omega)
theorem nI_ti {a : Nat} (h : a < 2147483648) : (nI a).toInt = (a : Int) := nI_toInt (by omega)
theorem nI_xor (a b : Nat) : nI a ^^^ nI b = nI (a ^^^ b) := by
  apply Int32.toBitVec_inj.mp
  apply BitVec.eq_of_toNat_eq
  rw [Int32.toBitVec_xor, BitVec.toNat_xor]
  show (BitVec.ofNat 32 a).toNat ^^^ (BitVec.ofNat 32 b).toNat = (BitVec.ofNat 32 (a ^^^ b)).toNat
  rw [BitVec.toNat_ofNat, BitVec.toNat_ofNat, BitVec.toNat_ofNat, Nat.xor_mod_two_pow]
theorem nI_and (a b : Nat) : nI a &&& nI b = nI (a &&& b) := by
  apply Int32.toBitVec_inj.mp
  apply BitVec.eq_of_toNat_eq
  rw [Int32.toBitVec_and, BitVec.toNat_and]
  show (BitVec.ofNat 32 a).toNat &&& (BitVec.ofNat 32 b).toNat = (BitVec.ofNat 32 (a &&& b)).toNat
  rw [BitVec.toNat_ofNat, BitVec.toNat_ofNat, BitVec.toNat_ofNat, Nat.and_mod_two_pow]
theorem nI_or (a b : Nat) : nI a ||| nI b = nI (a ||| b) := by
  apply Int32.toBitVec_inj.mp
  apply BitVec.eq_of_toNat_eq
  rw [Int32.toBitVec_or, BitVec.toNat_or]
  show (BitVec.ofNat 32 a).toNat ||| (BitVec.ofNat 32 b).toNat = (BitVec.ofNat 32 (a ||| b)).toNat
  rw [BitVec.toNat_ofNat, BitVec.toNat_ofNat, BitVec.toNat_ofNat, Nat.or_mod_two_pow]
theorem sm31 : ∀ k, k < 31 → ((nI k &&& 31).toBitVec.smod 32).toNat = k := by decide +kernel
theorem shl_nI {a k : Nat} (hk : k < 31) (h : a * 2 ^ k < 4294967296) : iShl (nI a) (nI k) = nI (a * 2 ^ k) := by
  unfold iShl
  exact pk_shlN (nI k &&& 31) k (sm31 k hk) (by omega)
theorem shl_1 {k : Nat} (hk : k < 31) : iShl 1 (nI k) = nI (2 ^ k) := by
  have h : 1 * 2 ^ k < 4294967296 := by
    have := Nat.pow_lt_pow_right (a := 2) (by decide) hk
    omega
  have := shl_nI (a := 1) hk h
  rw [Nat.one_mul] at this
  exact this
theorem shr_nI {a k : Nat} (hk : k < 31) (h : a < 2147483648) : iShr (nI a) (nI k) = nI (a / 2 ^ k) := by
  unfold iShr
  exact pk_shrN (by omega) (nI k &&& 31) k (sm31 k hk)
theorem rem_nI {a d : Nat} (ha : a < 2147483648) (h0 : 0 < d) (hd : d < 2147483648) : iRem (nI a) (nI d) = nI (a % d) := pk_rem (by omega) h0 (by omega)
theorem div_nI {a d : Nat} (ha : a < 2147483648) (h0 : 0 < d) (hd : d < 2147483648) : nI a / nI d = nI (a / d) := pk_div (by omega) h0 (by omega)
theorem upd_ap (f : Nat → Int32) (i : Nat) (x : Int32) (j : Nat) : upd f i x j = if j = i then x else f j := rfl
theorem updL_ap (f : Nat → Int64) (i : Nat) (x : Int64) (j : Nat) : vp_updL f i x j = if j = i then x else f j := rfl
section GS
variable (σ : Sg) (k j q : Nat) (v : Int32) (w : Int64)
theorem gI_sI : gI (sI σ k v) q = if q = k then v else gI σ q := rfl
theorem gI_sL : gI (sL σ k w) q = gI σ q := rfl
theorem gI_sA : gI (sA σ k j v) q = gI σ q := rfl
theorem gI_sB : gI (sB σ k j w) q = gI σ q := rfl
theorem gL_sI : gL (sI σ k v) q = gL σ q := rfl
theorem gL_sL : gL (sL σ k w) q = if q = k then w else gL σ q := rfl
theorem gL_sA : gL (sA σ k j v) q = gL σ q := rfl
theorem gL_sB : gL (sB σ k j w) q = gL σ q := rfl
theorem gA_sI : gA (sI σ k v) q = gA σ q := rfl
theorem gA_sL : gA (sL σ k w) q = gA σ q := rfl
theorem gA_sA : gA (sA σ k j v) q = if q = k then upd (gA σ k) j v else gA σ q := rfl
theorem gA_sB : gA (sB σ k j w) q = gA σ q := rfl
theorem gB_sI : gB (sI σ k v) q = gB σ q := rfl
theorem gB_sL : gB (sL σ k w) q = gB σ q := rfl
theorem gB_sA : gB (sA σ k j v) q = gB σ q := rfl
theorem gB_sB : gB (sB σ k j w) q = if q = k then vp_updL (gB σ k) j w else gB σ q := rfl
end GS
/-! sums of integers -/
def sm (n : Nat) (f : Nat → Int) : Int := match n with
  | 0 => 0
  | n + 1 => sm n f + f n
theorem sm_0 (f : Nat → Int) : sm 0 f = 0 := rfl
theorem sm_s (n : Nat) (f : Nat → Int) : sm (n + 1) f = sm n f + f n := rfl
theorem sm_congr {n : Nat} {f g : Nat → Int} (h : ∀ k, k < n → f k = g k) : sm n f = sm n g := by
  induction n with
  | zero => rfl
  | succ n ih => rw [sm_s, sm_s, ih (fun k hk => h k (by omega)), h n (by omega)]
theorem sm_zero {n : Nat} {f : Nat → Int} (h : ∀ k, k < n → f k = 0) : sm n f = 0 := by
  induction n with
  | zero => rfl
  | succ n ih => rw [sm_s, ih (fun k hk => h k (by omega)), h n (by omega)]; rfl
theorem sm_add (n : Nat) (f g : Nat → Int) : sm n (fun k => f k + g k) = sm n f + sm n g := by
  induction n with
  | zero => rfl
  | succ n ih => rw [sm_s, sm_s, sm_s, ih]; omega
theorem sm_sub (n : Nat) (f g : Nat → Int) : sm n (fun k => f k - g k) = sm n f - sm n g := by
  induction n with
  | zero => rfl
  | succ n ih => rw [sm_s, sm_s, sm_s, ih]; omega
theorem sm_mul (n : Nat) (f : Nat → Int) (c : Int) : sm n (fun k => f k * c) = sm n f * c := by
  induction n with
  | zero => rw [sm_0, sm_0, Int.zero_mul]
  | succ n ih => rw [sm_s, sm_s, ih, Int.add_mul]
theorem sm_swap (n m : Nat) (f : Nat → Nat → Int) : sm n (fun i => sm m (fun j => f i j)) = sm m (fun j => sm n (fun i => f i j)) := by
  induction n with
  | zero => exact (sm_zero (fun _ _ => rfl)).symm
  | succ n ih => rw [sm_s, ih, ← sm_add]; rfl
theorem sm_abs {n : Nat} {f : Nat → Int} {b : Int} (h : ∀ k, k < n → -b ≤ f k ∧ f k ≤ b) : -(n * b) ≤ sm n f ∧ sm n f ≤ n * b := by
  induction n with
  | zero => simp [sm]
  | succ n ih =>
    have h1 := ih (fun k hk => h k (by omega))
    have h2 := h n (by omega)
    rw [sm_s]
    have e : ((n + 1 : Nat) : Int) * b = n * b + b := by rw [nc1, Int.add_mul, Int.one_mul]
    omega
/-- of a sum with two places that count -/
theorem sm_one {n : Nat} {f : Nat → Int} {a : Nat} (ha : a < n) (h : ∀ k, k < n → k ≠ a → f k = 0) : sm n f = f a := by
  induction n with
  | zero => omega
  | succ n ih =>
    rw [sm_s]
    by_cases e : a = n
    · rw [sm_zero (fun k hk => h k (by omega) (by omega)), e]; omega
    · rw [ih (by omega) (fun k hk h2 => h k (by omega) h2), h n (by omega) (by omega)]; omega
theorem sm_two {n : Nat} {f : Nat → Int} {a b : Nat} (ha : a < n) (hb : b < n) (hab : a ≠ b) (h : ∀ k, k < n → k ≠ a → k ≠ b → f k = 0) : sm n f = f a + f b := by
  induction n with
  | zero => omega
  | succ n ih =>
    rw [sm_s]
    by_cases e : a = n
    · rw [sm_one (a := b) (by omega) (fun k hk h2 => h k (by omega) (by omega) h2), e]; omega
    · by_cases e2 : b = n
      · rw [sm_one (a := a) (by omega) (fun k hk h2 => h k (by omega) h2 (by omega)), e2]
      · rw [ih (by omega) (by omega) (fun k hk h2 h3 => h k (by omega) h2 h3), h n (by omega) (by omega) (by omega)]; omega
/-! integers behind Int32 and Int64 -/
theorem ti_add (x y : Int32) (h : -2147483648 ≤ x.toInt + y.toInt ∧ x.toInt + y.toInt < 2147483648) : (x + y).toInt = x.toInt + y.toInt := by
  rw [Int32.toInt_add]; exact Int.bmod_eq_of_le (by omega) (by omega)
theorem ti_sub (x y : Int32) (h : -2147483648 ≤ x.toInt - y.toInt ∧ x.toInt - y.toInt < 2147483648) : (x - y).toInt = x.toInt - y.toInt := by
  rw [Int32.toInt_sub]; exact Int.bmod_eq_of_le (by omega) (by omega)
theorem ti_mul (x y : Int32) (h : -2147483648 ≤ x.toInt * y.toInt ∧ x.toInt * y.toInt < 2147483648) : (x * y).toInt = x.toInt * y.toInt := by
  rw [Int32.toInt_mul]; exact Int.bmod_eq_of_le (by omega) (by omega)
theorem ti_neg (x : Int32) (h : -2147483648 < x.toInt) : (-x).toInt = -x.toInt := by
  have := x.toInt_lt
  rw [Int32.toInt_neg]; exact Int.bmod_eq_of_le (by omega) (by omega)
theorem li_add (x y : Int64) (h : -9223372036854775808 ≤ x.toInt + y.toInt ∧ x.toInt + y.toInt < 9223372036854775808) : (x + y).toInt = x.toInt + y.toInt := by
  rw [Int64.toInt_add]; exact Int.bmod_eq_of_le (by omega) (by omega)
theorem li_sub (x y : Int64) (h : -9223372036854775808 ≤ x.toInt - y.toInt ∧ x.toInt - y.toInt < 9223372036854775808) : (x - y).toInt = x.toInt - y.toInt := by
  rw [Int64.toInt_sub]; exact Int.bmod_eq_of_le (by omega) (by omega)
theorem li_mul (x y : Int64) (h : -9223372036854775808 ≤ x.toInt * y.toInt ∧ x.toInt * y.toInt < 9223372036854775808) : (x * y).toInt = x.toInt * y.toInt := by
  rw [Int64.toInt_mul]; exact Int.bmod_eq_of_le (by omega) (by omega)
theorem li_neg (x : Int64) (h : -9223372036854775808 < x.toInt) : (-x).toInt = -x.toInt := by
  have := x.toInt_lt
  rw [Int64.toInt_neg]; exact Int.bmod_eq_of_le (by omega) (by omega)
theorem tlt {x y : Int32} : x < y ↔ x.toInt < y.toInt := Int32.lt_iff_toInt_lt
theorem tle {x y : Int32} : x ≤ y ↔ x.toInt ≤ y.toInt := Int32.le_iff_toInt_le
theorem llt {x y : Int64} : x < y ↔ x.toInt < y.toInt := Int64.lt_iff_toInt_lt
theorem lle {x y : Int64} : x ≤ y ↔ x.toInt ≤ y.toInt := Int64.le_iff_toInt_le
theorem teq {x y : Int32} : x = y ↔ x.toInt = y.toInt := Int32.toInt_inj.symm
theorem leq {x y : Int64} : x = y ↔ x.toInt = y.toInt := Int64.toInt_inj.symm
theorem in_ti {i : Int32} {n : Nat} (h0 : 0 ≤ i.toInt) (h : i.toInt < n) : vp_in i n := by
  unfold vp_in
  intro q
  rcases q with q | q
  · rw [tlt] at q
    have : (0 : Int32).toInt = 0 := rfl
    omega
  · have : i.toNatClampNeg = i.toInt.toNat := rfl
    omega
