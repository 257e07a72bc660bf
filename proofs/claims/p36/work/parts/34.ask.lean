/-! what is asked of a frame whose forces are found -/
theorem hi_lo64 (y : Int64) : 4294967296 * (lShr y 32).toInt + (y &&& 4294967295).toInt = y.toInt ∧ 0 ≤ (y &&& 4294967295).toInt ∧ (y &&& 4294967295).toInt ≤ 4294967295 := by
  have e1 : (lShr y 32).toInt = y.toInt / 4294967296 := by
    have : (lShr y 32).toInt = y.toInt >>> 32 := by
      show (y.toBitVec.sshiftRight (((32 : Int32).toInt64 &&& 63).toBitVec.smod 64).toNat).toInt = _
      rw [show (((32 : Int32).toInt64 &&& 63).toBitVec.smod 64).toNat = 32 by decide +kernel, BitVec.toInt_sshiftRight]
      rfl
    rw [this, Int.shiftRight_eq_div_pow]
    rfl
  have e0 : (y &&& 4294967295).toBitVec.toNat = y.toBitVec.toNat % 4294967296 := by
    rw [Int64.toBitVec_and, BitVec.toNat_and, show (4294967295 : Int64).toBitVec.toNat = 2 ^ 32 - 1 by decide +kernel, Nat.and_two_pow_sub_one_eq_mod]
  have lt := y.toBitVec.isLt
  have cond : ∀ z : Int64, z.toInt = (z.toBitVec.toNat : Int) ∧ z.toBitVec.toNat < 9223372036854775808 ∨ z.toInt = (z.toBitVec.toNat : Int) - 18446744073709551616 ∧ 9223372036854775808 ≤ z.toBitVec.toNat := fun z => by
    have : z.toInt = z.toBitVec.toInt := rfl
    rw [this, BitVec.toInt_eq_toNat_cond]
    split
    · exact Or.inl ⟨rfl, by omega⟩
    · exact Or.inr ⟨rfl, by omega⟩
  have c1 := cond y
  have c2 := cond (y &&& 4294967295)
  rw [e0] at c2
  omega
def rtN (d r : Int64) : Nat → Int64 × Int64
  | 0 => (0, r)
  | k + 1 => ((10 * (rtN d r k).1) + ((10 * (rtN d r k).2) / d), lRem (10 * (rtN d r k).2) d)
def restT (σ : Sg) (i : Nat) : Int64 := (rtN (gL σ 0) (gB σ 1 i) 3).1
theorem rtN_bd {d r : Int64} (hd : 0 < d.toInt ∧ d.toInt ≤ 30000000000000) (hr : 0 ≤ r.toInt ∧ r.toInt < d.toInt) : ∀ k, k ≤ 3 → 0 ≤ (rtN d r k).1.toInt ∧ (rtN d r k).1.toInt + 1 ≤ ((10 ^ k : Nat) : Int) ∧ 0 ≤ (rtN d r k).2.toInt ∧ (rtN d r k).2.toInt < d.toInt := by
  intro k
  induction k with
  | zero => intro _; exact ⟨show (0 : Int) ≤ 0 by decide, show (0 : Int) + 1 ≤ 1 by decide, hr.1, hr.2⟩
  | succ k ih =>
    intro hk
    obtain ⟨h1, h2, h3, h4⟩ := ih (by omega)
    have c10 : (10 : Int64).toInt = 10 := rfl
    have hp : 10 ^ k ≤ 100 := by
      have := Nat.pow_le_pow_right (n := 10) (by decide) (show k ≤ 2 by omega)
      omega
    have e1 : (10 * (rtN d r k).2).toInt = 10 * (rtN d r k).2.toInt := l_mul (B := 300000000000000) c10 rfl (by omega) (by decide)
    have e2 : (10 * (rtN d r k).1).toInt = 10 * (rtN d r k).1.toInt := l_mul (B := 1000) c10 rfl (by omega) (by decide)
    have q0 := Int.ediv_nonneg (a := 10 * (rtN d r k).2.toInt) (b := d.toInt) (by omega) (by omega)
    have q1 : 10 * (rtN d r k).2.toInt / d.toInt < 10 := Int.ediv_lt_of_lt_mul hd.1 (by omega)
    have e3 : ((10 * (rtN d r k).2) / d).toInt = 10 * (rtN d r k).2.toInt / d.toInt := by rw [l_divp hd.1 (by rw [e1]; omega), e1]
    have e4 : ((10 * (rtN d r k).1) + ((10 * (rtN d r k).2) / d)).toInt = 10 * (rtN d r k).1.toInt + 10 * (rtN d r k).2.toInt / d.toInt := l_add e2 e3 (by omega)
    have e5 : (lRem (10 * (rtN d r k).2) d).toInt = 10 * (rtN d r k).2.toInt % d.toInt := by rw [l_remp hd.1 (by rw [e1]; omega), e1]
    have m0 := Int.emod_nonneg (10 * (rtN d r k).2.toInt) (Int.ne_of_gt hd.1)
    have m1 := Int.emod_lt_of_pos (10 * (rtN d r k).2.toInt) hd.1
    have hpow : ((10 ^ (k + 1) : Nat) : Int) = 10 * ((10 ^ k : Nat) : Int) := by rw [Nat.pow_succ]; omega
    show 0 ≤ ((10 * (rtN d r k).1) + ((10 * (rtN d r k).2) / d)).toInt ∧ ((10 * (rtN d r k).1) + ((10 * (rtN d r k).2) / d)).toInt + 1 ≤ ((10 ^ (k + 1) : Nat) : Int) ∧ 0 ≤ (lRem (10 * (rtN d r k).2) d).toInt ∧ (lRem (10 * (rtN d r k).2) d).toInt < d.toInt
    rw [e4, e5, hpow]
    omega
theorem s_restIn {i : Nat} {σ : Sg} {Q : Int64 → Prop} (hi : i < 25) (hd : 0 < (gL σ 0).toInt) (h : Q (restT σ i)) : w_X1_restInThousandths (nI i) σ Q := by
  unfold w_X1_restInThousandths
  rw [ixn (by omega)]
  refine ⟨in_nI hi (by decide), ?_⟩
  rintro _ rfl
  have z : (0 : Int64).toInt = 0 := rfl
  refine ⟨fun t r i3 => ∃ k : Nat, k ≤ 3 ∧ i3 = nI k ∧ t = (rtN (gL σ 0) (gB σ 1 i) k).1 ∧ r = (rtN (gL σ 0) (gB σ 1 i) k).2, fun _ _ i3 => (((3 : Nat) : Int) - i3.toInt).toNat, ⟨0, by decide, rfl, rfl, rfl⟩, ?_⟩
  rintro _ _ _ ⟨k, hk, rfl, rfl, rfl⟩
  refine ⟨fun q => ?_, fun q => ⟨fun q2 => ?_, fun _ => ⟨l_ne0 hd, ?_⟩⟩⟩
  · have := le_end (a := 3) q hk (by decide)
    subst this
    exact h
  · rw [lle, z] at q2; omega
  · have hlt : k < 3 := lt_of_nle (a := 3) q (by decide) (by omega)
    rintro _ rfl
    refine ⟨l_ne0 hd, ?_⟩
    rintro _ rfl
    exact ⟨⟨k + 1, by omega, nI_1 k, rfl, rfl⟩, mu_n hlt (by decide)⟩
def tT (σ : Sg) (i : Nat) : Int64 := (1000 * (gB σ 0 i)) + restT σ i
theorem s_thous {i : Nat} {σ : Sg} {Q : Int64 → Prop} (hi : i < 25) (hd : 0 < (gL σ 0).toInt) (h : Q (tT σ i)) : w_X1_thousandths (nI i) σ Q := by
  unfold w_X1_thousandths
  rw [ixn (by omega)]
  exact ⟨in_nI hi (by decide), s_restIn hi hd h⟩
theorem s_find2 {σ : Sg} {Q : Sg → Prop} (hf : ¬ gI σ 2 = 0) (h : Q σ) : w_X1_find σ Q := ⟨fun q => absurd q hf, fun _ => h⟩
theorem s_cS {σ : Sg} {Q : Sg → Prop} {X : String → Sg → Prop} (hf : ¬ gI σ 2 = 0) (h : gI σ 3 = 46) (hQ : Q σ) : w_X6_checkStanding σ Q X :=
  s_find2 hf ⟨fun _ => hQ, fun q => absurd h q⟩
theorem s_cSx {σ : Sg} {Q : Sg → Prop} {X : String → Sg → Prop} (hf : ¬ gI σ 2 = 0) (h : ¬ gI σ 3 = 46) (hX : X "java/lang/IllegalStateException" σ) : w_X6_checkStanding σ Q X :=
  s_find2 hf ⟨fun q => absurd q h, fun _ => hX⟩
section ST
variable {N M T : Nat} {σ : Sg}
theorem FoS.d (h : FoS N M σ) : 0 < (gL σ 0).toInt ∧ (gL σ 0).toInt ≤ 30000000000000 := by
  obtain ⟨-, d, h1, h2, h3, -⟩ := h
  rw [h3]; exact ⟨h1, h2⟩
theorem s_L_force {m : Nat} {Q : Int64 → Sg → Prop} (hF : Fr N M T σ) (hm : m < M) (hf : ¬ gI σ 2 = 0) (h : gI σ 3 = 46) (hQ : Q (gB σ 2 m) σ) : w_L_force (nI m) σ Q := by
  have hM9 : M ≤ 9 := hF.2.2.2.1
  unfold w_L_force w_X6_force
  refine s_cM hF.2.1 hM9 hm (s_cS hf h ?_)
  rw [ixn (by omega)]
  exact ⟨in_nI (by omega) (by decide), hQ⟩
theorem s_L_pull {m : Nat} {Q : Int64 → Sg → Prop} (hF : Fr N M T σ) (hm : m < M) (hf : ¬ gI σ 2 = 0) (h : gI σ 3 = 46) (hS : FoS N M σ) (hQ : Q (tT σ m) σ) : w_L_pull (nI m) σ Q := by
  have hM9 : M ≤ 9 := hF.2.2.2.1
  unfold w_L_pull w_X6_pull
  exact s_cM hF.2.1 hM9 hm (s_cS hf h (s_thous (by omega) hS.d.1 hQ))
theorem s_L_weakest {Q : Int32 → Sg → Prop} (hF : Fr N M T σ) (hf : ¬ gI σ 2 = 0) (h : gI σ 3 = 46) (h0 : M = 0 → Q (-75) σ)
    (h1 : ∀ w, w < M → (∀ m, m < M → mabsl (gB σ 2 m) ≤ mabsl (gB σ 2 w)) → Q (nI w) σ) : w_L_weakest σ Q := by
  have hM9 : M ≤ 9 := hF.2.2.2.1
  unfold w_L_weakest w_X6_weakest
  refine s_cS hf h ?_
  rw [hF.2.1]
  refine ⟨fun q => ?_, fun q => Or.inr ⟨rfl, h0 ((nI_eq2 (b := 0) (by omega) (by decide)).mp q)⟩⟩
  have hpos : 0 < M := by
    apply Nat.pos_of_ne_zero
    rintro rfl
    exact q rfl
  refine ⟨fun r i => ∃ n w : Nat, n ≤ M ∧ i = nI n ∧ r = nI w ∧ w < M ∧ ∀ m, m < n → mabsl (gB σ 2 m) ≤ mabsl (gB σ 2 w), fun _ i => ((M : Int) - i.toInt).toNat, ⟨1, 0, hpos, rfl, rfl, hpos, fun j hj => by rw [show j = 0 by omega]; exact Int64.le_refl _⟩, ?_⟩
  rintro _ _ ⟨n, w, hn, rfl, rfl, hw, hmax⟩
  refine ⟨fun q2 => ?_, fun q2 => ?_⟩
  · have := le_end q2 hn (by omega)
    subst this
    exact h1 w hw hmax
  · have hlt : n < M := lt_of_nle q2 (by omega) (by omega)
    have hmu := mu_n hlt (by omega)
    rw [ixn (a := n) (by omega), ixn (a := w) (by omega)]
    refine ⟨in_nI (by omega) (by decide), in_nI (by omega) (by decide), fun c => ?_, fun c => ?_⟩
    · refine ⟨⟨n + 1, w, by omega, nI_1 n, rfl, hw, fun j hj => ?_⟩, hmu⟩
      by_cases e : j = n
      · rw [e]; exact c
      · exact hmax j (by omega)
    · refine ⟨⟨n + 1, n, by omega, nI_1 n, rfl, hlt, fun j hj => ?_⟩, hmu⟩
      by_cases e : j = n
      · rw [e]; exact Int64.le_refl _
      · exact Int64.le_trans (hmax j (by omega)) (Int64.le_of_lt (Int64.not_le.mp c))
def afN (σ : Sg) : Nat → Int64
  | 0 => 0
  | m + 1 => afN σ m + mabsl (gB σ 2 m)
theorem s_L_allForce {Q : Int64 → Sg → Prop} (hF : Fr N M T σ) (hf : ¬ gI σ 2 = 0) (h : gI σ 3 = 46) (hQ : Q (afN σ M) σ) : w_L_allForce σ Q := by
  have hM9 : M ≤ 9 := hF.2.2.2.1
  unfold w_L_allForce w_X6_allForce
  refine s_cS hf h ?_
  rw [hF.2.1]
  refine ⟨fun s i => ∃ n : Nat, n ≤ M ∧ i = nI n ∧ s = afN σ n, fun _ i => ((M : Int) - i.toInt).toNat, ⟨0, Nat.zero_le _, rfl, rfl⟩, ?_⟩
  rintro _ _ ⟨n, hn, rfl, rfl⟩
  refine ⟨fun q2 => ?_, fun q2 => ?_⟩
  · have := le_end q2 hn (by omega)
    subst this
    exact hQ
  · have hlt : n < M := lt_of_nle q2 (by omega) (by omega)
    rw [ixn (a := n) (by omega)]
    refine ⟨in_nI (by omega) (by decide), ?_⟩
    rintro _ rfl
    exact ⟨⟨n + 1, by omega, nI_1 n, rfl⟩, mu_n hlt (by omega)⟩
/-- bounds of pulls in thousandths -/
theorem tT_bd (hS : FoS N M σ) {m : Nat} (hm : m < M) : ∃ r : Int, 0 ≤ r ∧ r ≤ 999 ∧ (restT σ m).toInt = r ∧ (tT σ m).toInt = 1000 * fW σ m + r ∧ -1100000000000000 ≤ fW σ m ∧ fW σ m ≤ 1100000000000000 := by
  have hd := hS.d
  obtain ⟨-, d, h1, h2, h3, h4, -⟩ := hS
  obtain ⟨r0, r1, w0, w1⟩ := h4 m hm
  have hb := rtN_bd (r := gB σ 1 m) hd (by rw [h3]; exact ⟨r0, r1⟩) 3 (Nat.le_refl _)
  have c1000 : (1000 : Int64).toInt = 1000 := rfl
  have e : (1000 * gB σ 0 m).toInt = 1000 * fW σ m := l_mul (B := 1100000000000000000) c1000 rfl (by omega) (by decide)
  have hr : 0 ≤ (restT σ m).toInt ∧ (restT σ m).toInt ≤ 999 := by
    have : ((10 ^ 3 : Nat) : Int) = 1000 := rfl
    rw [this] at hb
    unfold restT
    exact ⟨hb.1, by have := hb.2.1; omega⟩
  exact ⟨(restT σ m).toInt, hr.1, hr.2, rfl, l_add e rfl (by omega), w0, w1⟩
theorem s_L_meanPull {Q : UInt64 → Sg → Prop} {p : Int64} (hF : Fr N M T σ) (hf : ¬ gI σ 2 = 0) (h : gI σ 3 = 46) (hS : FoS N M σ) (hM : 0 < M) (hp : p.toInt = sm M (fun m => (tT σ m).toInt))
    (hQ : Q (FP.ddiv (FP.l2d p) (FP.i2d (nI M))) σ) : w_L_meanPull σ Q := by
  have hM9 : M ≤ 9 := hF.2.2.2.1
  have hd := hS.d
  unfold w_L_meanPull w_X6_meanPull
  refine s_cS hf h ?_
  rw [hF.2.1]
  refine ⟨fun _ => ?_, fun q => absurd q (nI_ne0 hM (by omega))⟩
  unfold w_X1_sumOfThousandths
  have z : (0 : Int64).toInt = 0 := rfl
  refine ⟨fun hi lo i => ∃ n : Nat, n ≤ M ∧ i = nI n ∧ hi.toInt * 4294967296 + lo.toInt = sm n (fun m => (tT σ m).toInt) ∧ -((n : Int) * 257000000) ≤ hi.toInt ∧ hi.toInt ≤ (n : Int) * 257000000 ∧ 0 ≤ lo.toInt ∧ lo.toInt ≤ (n : Int) * 5000000000000, fun _ _ i => ((M : Int) - i.toInt).toNat, ⟨0, Nat.zero_le _, rfl, rfl, by decide, by decide, by decide, by decide⟩, ?_⟩
  rintro hi lo _ ⟨n, hn, rfl, hsum, a1, a2, b1, b2⟩
  refine ⟨fun q2 => ?_, fun q2 => ?_⟩
  · have := le_end q2 hn (by omega)
    subst this
    have e := fp_parts (a := hi) (b := lo) (p := p) (by omega) (by omega) b1 (by rw [hp, hsum])
    rw [e]
    obtain ⟨s, c, q, hfin⟩ := l2d_fin p
    exact ⟨mul_nn hi (by omega), l2d_nn p, div_nn hfin hM (by omega), hQ⟩
  · have hlt : n < M := lt_of_nle q2 (by omega) (by omega)
    rw [ixn (a := n) (by omega)]
    have hin : vp_in (nI n) 25 := in_nI (by omega) (by decide)
    obtain ⟨r, r0, r1, er, et, w0, w1⟩ := tT_bd hS hlt
    have hl := hi_lo64 (gB σ 0 n)
    have hw : (gB σ 0 n).toInt = fW σ n := rfl
    rw [hw] at hl
    have c1000 : (1000 : Int64).toInt = 1000 := rfl
    refine ⟨hin, ?_⟩
    rintro _ rfl
    refine ⟨hin, s_restIn (by omega) hd.1 ?_⟩
    rintro _ rfl
    have e1 : (1000 * lShr (gB σ 0 n) 32).toInt = 1000 * (lShr (gB σ 0 n) 32).toInt := l_mul (B := 257000000) c1000 rfl (by omega) (by decide)
    have e2 : (1000 * (gB σ 0 n &&& 4294967295)).toInt = 1000 * (gB σ 0 n &&& 4294967295).toInt := l_mul (B := 4294967295000) c1000 rfl (by omega) (by decide)
    have e3 : (hi + 1000 * lShr (gB σ 0 n) 32).toInt = hi.toInt + 1000 * (lShr (gB σ 0 n) 32).toInt := l_add rfl e1 (by omega)
    have e4 : (1000 * (gB σ 0 n &&& 4294967295) + restT σ n).toInt = 1000 * (gB σ 0 n &&& 4294967295).toInt + r := l_add e2 er (by omega)
    have e5 : (lo + (1000 * (gB σ 0 n &&& 4294967295) + restT σ n)).toInt = lo.toInt + (1000 * (gB σ 0 n &&& 4294967295).toInt + r) := l_add rfl e4 (by omega)
    refine ⟨⟨n + 1, by omega, nI_1 n, ?_, ?_, ?_, ?_, ?_⟩, mu_n hlt (by omega)⟩
    · rw [e3, e5, sm_s, ← hsum, et]; omega
    · rw [e3]; omega
    · rw [e3]; omega
    · rw [e5]; omega
    · rw [e5]; omega
/-! sections -/
def crT (σ : Sg) (x : Int32) (m j ax : Nat) : Int := if 0 ≤ oEnd σ m (nI j) ∧ ¬ gA σ 0 (ix ((2 * oEnd σ m (nI j)) + 0)) ≤ x then (wayT σ m j ax).toInt else 0
def nodeT (σ : Sg) (M : Nat) (d : Int) (x : Int32) (ax j : Nat) : Int :=
  ((gA σ 1 (2 * j + ax)).toInt + fW σ (9 + (2 * j + ax))) * d + fR σ (9 + (2 * j + ax)) + sm M (fun m => crT σ x m j ax * (fW σ m * d + fR σ m))
theorem wayI_2 {m j ax : Nat} (hax : ax < 2) : wayI σ m (2 * j + ax) = (wayT σ m j ax).toInt := by
  unfold wayI
  rw [show (2 * j + ax) / 2 = j by omega, show (2 * j + ax) % 2 = ax by omega]
theorem way_ends (hF : Fr N M T σ) {m : Nat} (hm : m < M) {ax : Nat} (hax : ax < 2) : ∃ a b : Nat, a < N ∧ b < N ∧ a ≠ b ∧ oEnd σ m (nI a) = nI b ∧ oEnd σ m (nI b) = nI a ∧ (∀ j, j < N → j ≠ a → j ≠ b → oEnd σ m (nI j) = -1) ∧ (wayT σ m a ax).toInt = -(wayT σ m b ax).toInt := by
  have hN : N ≤ 5 := hF.2.2.1
  have hp := hF.2.2.2.2.2.1
  obtain ⟨a, b, e1, e2, ha, hb, hab⟩ := hF.2.2.2.2.2.2.2.2.2.1 m hm
  have o1 : oEnd σ m (nI a) = nI b := by unfold oEnd; rw [if_pos e1, e2]
  have o2 : oEnd σ m (nI b) = nI a := by
    unfold oEnd
    rw [if_neg (fun q => hab ((nI_eq2 (by omega) (by omega)).mp (e1.symm.trans q))), if_pos e2, e1]
  refine ⟨a, b, ha, hb, hab, o1, o2, fun j hj h1 h2 => ?_, ?_⟩
  · unfold oEnd
    rw [if_neg (fun q => h1 ((nI_eq2 (by omega) (by omega)).mp (e1.symm.trans q)).symm), if_neg (fun q => h2 ((nI_eq2 (by omega) (by omega)).mp (e2.symm.trans q)).symm)]
  · unfold wayT
    rw [o1, o2, if_pos (nI_pos' (by omega)), if_pos (nI_pos' (by omega)), ix2x (by omega) (by omega), ix2x (by omega) (by omega)]
    obtain ⟨x, y, g1, g2, g3, g4, g5⟩ := hp a ha
    obtain ⟨x', y', f1, f2, f3, f4, f5⟩ := hp b hb
    rcases (show ax = 0 ∨ ax = 1 by omega) with h | h <;> subst h
    · rw [Nat.add_zero, Nat.add_zero, g1, f1, pk_sub_toInt (by omega) (by omega), pk_sub_toInt (by omega) (by omega)]; omega
    · rw [g2, f2, pk_sub_toInt (by omega) (by omega), pk_sub_toInt (by omega) (by omega)]; omega
/-- a section is in balance: what lies on its left, where inner members come twice -/
theorem section_0 (hF : Fr N M T σ) (hS : FoS N M σ) (x : Int32) {ax : Nat} (hax : ax < 2) {d : Int} (hd : (gL σ 0).toInt = d) :
    sm N (fun j => if gA σ 0 (2 * j) ≤ x then nodeT σ M d x ax j else 0) = 0 := by
  have hN : N ≤ 5 := hF.2.2.1
  obtain ⟨-, d', -, -, h3, -, -, heq, -⟩ := hS
  have hdd : d' = d := h3.symm.trans hd
  subst hdd
  -- inner members
  have e1 : ∀ j, j < N → (if gA σ 0 (2 * j) ≤ x then nodeT σ M d' x ax j else 0) = -sm M (fun m => (if gA σ 0 (2 * j) ≤ x then wayI σ m (2 * j + ax) - crT σ x m j ax else 0) * (fW σ m * d' + fR σ m)) := fun j hj => by
    by_cases hl : gA σ 0 (2 * j) ≤ x
    · rw [if_pos hl]
      have h := heq (2 * j + ax) (by omega)
      have : sm M (fun m => (if gA σ 0 (2 * j) ≤ x then wayI σ m (2 * j + ax) - crT σ x m j ax else 0) * (fW σ m * d' + fR σ m)) = sm M (fun m => wayI σ m (2 * j + ax) * (fW σ m * d' + fR σ m)) - sm M (fun m => crT σ x m j ax * (fW σ m * d' + fR σ m)) := by
        rw [← sm_sub]
        exact sm_congr (fun m _ => by rw [if_pos hl, Int.sub_mul])
      rw [this]
      unfold nodeT
      omega
    · rw [if_neg hl, sm_zero (fun m _ => by rw [if_neg hl, Int.zero_mul])]
      rfl
  rw [sm_congr e1, sm_neg, sm_swap, sm_zero (fun m hm => ?_)]
  · rfl
  rw [sm_mul]
  obtain ⟨a, b, ha, hb, hab, o1, o2, o3, hw⟩ := way_ends hF hm hax
  have hz : sm N (fun j => if gA σ 0 (2 * j) ≤ x then wayI σ m (2 * j + ax) - crT σ x m j ax else 0) = 0 := by
    rw [sm_two ha hb hab (fun j hj h1 h2 => ?_)]
    · have ea : ix ((2 * nI a) + 0) = 2 * a := ix20 (by omega)
      have eb : ix ((2 * nI b) + 0) = 2 * b := ix20 (by omega)
      unfold crT
      rw [o1, o2, ea, eb, wayI_2 hax, wayI_2 hax, hw]
      have p1 : (0 : Int32) ≤ nI a := nI_pos' (by omega)
      have p2 : (0 : Int32) ≤ nI b := nI_pos' (by omega)
      by_cases la : gA σ 0 (2 * a) ≤ x <;> by_cases lb : gA σ 0 (2 * b) ≤ x
      · rw [if_pos la, if_pos lb, if_neg (fun z => z.2 lb), if_neg (fun z => z.2 la)]; omega
      · rw [if_pos la, if_neg lb, if_pos ⟨p2, lb⟩]; omega
      · rw [if_neg la, if_pos lb, if_pos ⟨p1, la⟩]; omega
      · rw [if_neg la, if_neg lb]; omega
    · have e0 : wayI σ m (2 * j + ax) = 0 := by
        rw [wayI_2 hax]
        unfold wayT
        rw [o3 j hj h1 h2, if_neg neg1]
        rfl
      have ec : crT σ x m j ax = 0 := by
        unfold crT
        rw [o3 j hj h1 h2, if_neg (fun z => neg1 z.1)]
      rw [e0, ec]
      split <;> rfl
  rw [hz, Int.zero_mul]
theorem crT_bd (hF : Fr N M T σ) (x : Int32) {m j ax : Nat} (hm : m < M) (hj : j < N) (hax : ax < 2) : -24 ≤ crT σ x m j ax ∧ crT σ x m j ax ≤ 24 := by
  unfold crT
  split
  · exact wayT_bd hF hm hj hax
  · exact ⟨by decide, by decide⟩
theorem s_bIx {k ax : Nat} {Q : Int32 → Prop} (h : Q (nI (9 + (2 * k + ax)))) : w_X1_bearingIndex (nI k) (nI ax) σ Q := by
  have e9 : (9 + (2 * nI k)) + nI ax = nI (9 + (2 * k + ax)) := by
    show (nI 9 + (nI 2 * nI k)) + nI ax = _
    rw [pk_mul, nI_add, nI_add, Nat.add_assoc]
  unfold w_X1_bearingIndex
  rw [e9]
  exact h
theorem s_holdsAlong {x : Int32} {ax : Nat} {Q : Int32 → Prop} (hF : Fr N M T σ) (hS : FoS N M σ) (hax : ax < 2) (h : Q 1) : w_X1_holdsAlong x (nI ax) σ Q := by
  have hN : N ≤ 5 := hF.2.2.1
  have hM9 : M ≤ 9 := hF.2.2.2.1
  have z : (0 : Int64).toInt = 0 := rfl
  obtain ⟨hM7, d, d0, d1, ed, hb, hbb, heq, hsg⟩ := id hS
  have hd : 0 < (gL σ 0).toInt := by rw [ed]; exact d0
  have loadb : ∀ p, -1122 ≤ (gA σ 1 p).toInt ∧ (gA σ 1 p).toInt ≤ 1122 := fun p => by
    have h1 := hF.2.2.2.2.2.2.2.1 p
    have h2 : T ≤ 34 := hF.2.2.2.2.1
    omega
  unfold w_X1_holdsAlong
  rw [hF.1, hF.2.1]
  refine ⟨fun w r i => ∃ k : Nat, k ≤ N ∧ i = nI k ∧ w.toInt * d + r.toInt = sm k (fun j => if gA σ 0 (2 * j) ≤ x then nodeT σ M d x ax j else 0) ∧ -((k : Int) * 600000000000000000) ≤ w.toInt ∧ w.toInt ≤ (k : Int) * 600000000000000000 ∧ -((k : Int) * 6000000000000000) ≤ r.toInt ∧ r.toInt ≤ (k : Int) * 6000000000000000, fun _ _ i => ((N : Int) - i.toInt).toNat, ⟨0, Nat.zero_le _, rfl, ?_, by decide, by decide, by decide, by decide⟩, ?_⟩
  · rw [z, Int.zero_mul]; rfl
  rintro w r _ ⟨k, hk, rfl, hsum, w1, w2, r1, r2⟩
  refine ⟨fun q => ⟨fun q2 => ?_, fun _ => ⟨l_ne0 hd, ?_⟩⟩, fun q => ?_⟩
  · rw [lle, z] at q2; omega
  · have := le_end q hk (by omega)
    subst this
    have h0 := section_0 hF hS x hax ed
    rw [h0] at hsum
    have hr : r.toInt = -w.toInt * d := by rw [Int.neg_mul]; omega
    have hdn : d ≠ 0 := by omega
    have e1 : (lRem r (gL σ 0)).toInt = 0 := by
      rw [l_rem hd, ed, hr, Int.mul_tdiv_cancel _ hdn]
      omega
    have e2 : (r / gL σ 0).toInt = -w.toInt := by
      rw [l_div hd, ed, hr, Int.mul_tdiv_cancel _ hdn]
    have e3 : (w + r / gL σ 0).toInt = 0 := by
      rw [l_add (a := w.toInt) (b := -w.toInt) rfl e2 (by omega)]; omega
    exact ⟨fun q3 => absurd (leq.mpr (e1.trans z.symm)) q3, fun _ => ⟨l_ne0 hd, fun q3 => absurd (leq.mpr (e3.trans z.symm)) q3, fun _ => h⟩⟩
  · have hlt : k < N := lt_of_nle q (by omega) (by omega)
    have hmu := mu_n hlt (by omega)
    rw [ix20 (a := k) (by omega)]
    refine ⟨in20 (by omega) (by decide), fun hl => ?_, fun hl => ⟨⟨k + 1, by omega, nI_1 k, ?_, by omega, by omega, by omega, by omega⟩, hmu⟩⟩
    · have hin : vp_in (nI (9 + (2 * k + ax))) 25 := in_nI (by omega) (by decide)
      rw [ix2x (a := k) (by omega) (by omega)]
      refine ⟨in2x (by omega) (by decide), s_bIx ?_⟩
      rw [ixn (a := 9 + (2 * k + ax)) (by omega)]
      refine ⟨hin, ?_⟩
      intro v13 h13
      refine s_bIx ?_
      rw [ixn (a := 9 + (2 * k + ax)) (by omega)]
      refine ⟨hin, ?_⟩
      intro v16 h16
      have lb := loadb (2 * k + ax)
      obtain ⟨g1, g2, g3, g4⟩ := hbb (2 * k + ax) (by omega)
      have c1 : ((gA σ 1 (2 * k + ax)).toInt64).toInt = (gA σ 1 (2 * k + ax)).toInt := Int32.toInt_toInt64 _
      have c2 : ((gA σ 1 (2 * k + ax)).toInt64 + gB σ 0 (9 + (2 * k + ax))).toInt = (gA σ 1 (2 * k + ax)).toInt + fW σ (9 + (2 * k + ax)) := l_add c1 rfl (by show -9223372036854775808 ≤ _ + fW σ (9 + (2 * k + ax)) ∧ _ + fW σ (9 + (2 * k + ax)) < _; omega)
      have c3 : v13.toInt = w.toInt + ((gA σ 1 (2 * k + ax)).toInt + fW σ (9 + (2 * k + ax))) := by rw [h13]; exact l_add rfl c2 (by omega)
      have c4 : v16.toInt = r.toInt + fR σ (9 + (2 * k + ax)) := by
        rw [h16]; exact l_add (b := fR σ (9 + (2 * k + ax))) rfl rfl (by omega)
      refine ⟨fun w' r' i => ∃ m : Nat, m ≤ M ∧ i = nI m ∧ w'.toInt * d + r'.toInt = v13.toInt * d + v16.toInt + sm m (fun m => crT σ x m k ax * (fW σ m * d + fR σ m)) ∧ v13.toInt - (m : Int) * 26400000000000000 ≤ w'.toInt ∧ w'.toInt ≤ v13.toInt + (m : Int) * 26400000000000000 ∧ v16.toInt - (m : Int) * 720000000000000 ≤ r'.toInt ∧ r'.toInt ≤ v16.toInt + (m : Int) * 720000000000000, fun _ _ i => ((M : Int) - i.toInt).toNat, ⟨0, Nat.zero_le _, rfl, (Int.add_zero _).symm, by omega, by omega, by omega, by omega⟩, ?_⟩
      rintro w' r' _ ⟨m, hm, rfl, hs', w1', w2', r1', r2'⟩
      refine ⟨fun q2 => ?_, fun q2 => ?_⟩
      · have := le_end q2 hm (by omega)
        subst this
        refine ⟨⟨k + 1, by omega, nI_1 k, ?_, by omega, by omega, by omega, by omega⟩, hmu⟩
        rw [hs', sm_s, ← hsum, if_pos hl, c3, c4]
        unfold nodeT
        rw [Int.add_mul]
        omega
      · have hmlt : m < M := lt_of_nle q2 (by omega) (by omega)
        have hmu2 := mu_n hmlt (by omega)
        have skip : crT σ x m k ax = 0 → (∃ m' : Nat, m' ≤ M ∧ nI m + 1 = nI m' ∧ w'.toInt * d + r'.toInt = v13.toInt * d + v16.toInt + sm m' (fun m => crT σ x m k ax * (fW σ m * d + fR σ m)) ∧ v13.toInt - (m' : Int) * 26400000000000000 ≤ w'.toInt ∧ w'.toInt ≤ v13.toInt + (m' : Int) * 26400000000000000 ∧ v16.toInt - (m' : Int) * 720000000000000 ≤ r'.toInt ∧ r'.toInt ≤ v16.toInt + (m' : Int) * 720000000000000) ∧ ((M : Int) - (nI m + 1).toInt).toNat < ((M : Int) - (nI m).toInt).toNat := fun e0 => by
          refine ⟨⟨m + 1, by omega, nI_1 m, ?_, by omega, by omega, by omega, by omega⟩, hmu2⟩
          rw [hs', sm_s, e0, Int.zero_mul, Int.add_zero]
        refine s_otherEnd (by omega) ⟨fun q3 => skip ?_, fun q3 => ?_⟩
        · unfold crT
          rw [if_neg (fun z => (Int32.not_le.mpr q3) z.1)]
        · rcases oEnd_cases (k := k) hF hmlt with e | ⟨b, hb', e⟩
          · rw [e] at q3; exact absurd (by decide) q3
          · rw [e]
            have ein : vp_in ((2 * nI b) + 0) 16 := in20 (by omega) (by decide)
            refine ⟨ein, fun q4 => skip ?_, fun q4 => ?_⟩
            · unfold crT
              rw [e, if_neg (fun z => z.2 q4)]
            · refine s_wayAlong hF hmlt (by omega) hax ?_
              rw [ixn (a := m) (by omega)]
              have hinm : vp_in (nI m) 25 := in_nI (by omega) (by decide)
              have ecr : crT σ x m k ax = (wayT σ m k ax).toInt := by
                unfold crT
                rw [e, if_pos ⟨nI_pos' (by omega), q4⟩]
              have cb := crT_bd hF x hmlt hlt hax
              obtain ⟨x1, x2, x3, x4⟩ := hb m hmlt
              have ew : ((wayT σ m k ax).toInt64).toInt = crT σ x m k ax := by rw [Int32.toInt_toInt64, ecr]
              have b1 := mul_bd cb (B := 1100000000000000) (y := fW σ m) ⟨x3, x4⟩ (by decide) (by decide)
              have b2 := mul_bd cb (B := 30000000000000) (y := fR σ m) (by omega) (by decide) (by decide)
              have p1 : ((wayT σ m k ax).toInt64 * gB σ 0 m).toInt = crT σ x m k ax * fW σ m := l_mul (B := 24 * 1100000000000000) ew rfl b1 (by decide)
              have p2 : ((wayT σ m k ax).toInt64 * gB σ 1 m).toInt = crT σ x m k ax * fR σ m := l_mul (B := 24 * 30000000000000) ew rfl b2 (by decide)
              refine ⟨hinm, ?_⟩
              rintro _ rfl
              refine ⟨hinm, ?_⟩
              rintro _ rfl
              have s1 : (w' + (wayT σ m k ax).toInt64 * gB σ 0 m).toInt = w'.toInt + crT σ x m k ax * fW σ m := l_add rfl p1 (by omega)
              have s2 : (r' + (wayT σ m k ax).toInt64 * gB σ 1 m).toInt = r'.toInt + crT σ x m k ax * fR σ m := l_add rfl p2 (by omega)
              refine ⟨⟨m + 1, by omega, nI_1 m, ?_, by rw [s1]; omega, by rw [s1]; omega, by rw [s2]; omega, by rw [s2]; omega⟩, hmu2⟩
              rw [s1, s2, sm_s]
              have e5 : (w'.toInt + crT σ x m k ax * fW σ m) * d + (r'.toInt + crT σ x m k ax * fR σ m) = (w'.toInt * d + r'.toInt) + crT σ x m k ax * (fW σ m * d + fR σ m) := by grind
              rw [e5, hs']
              omega
    · rw [sm_s, if_neg hl, Int.add_zero]; exact hsum
theorem s_holdsAt {x : Int32} {Q : Int32 → Prop} (hF : Fr N M T σ) (hS : FoS N M σ) (h : Q 1) : w_X1_holdsAt x σ Q := by
  unfold w_X1_holdsAt
  exact s_holdsAlong (ax := 0) hF hS (by decide) ⟨fun q => absurd q (by decide), fun _ => s_holdsAlong (ax := 1) hF hS (by decide) ⟨fun q => absurd q (by decide), fun _ => h⟩⟩
theorem s_L_isBalanced {x : Nat} {Q : Int32 → Sg → Prop} (hF : Fr N M T σ) (hx : x ≤ 30) (hf : ¬ gI σ 2 = 0) (h : gI σ 3 = 46) (hS : FoS N M σ) (hQ : Q 1 σ) : w_L_isBalanced (nI x) σ Q := by
  unfold w_L_isBalanced w_X6_isBalanced
  refine s_withinY ?_ ⟨fun _ => s_cS hf h (s_holdsAt hF hS ⟨rfl, fun q => absurd q (by decide), fun _ => hQ⟩), fun q => absurd q (by decide)⟩
  rw [nI_ti (by omega)]
  have e0 : (0 : Int32).toInt = 0 := rfl
  have e30 : (30 : Int32).toInt = 30 := rfl
  omega
/-- the law's check of the frame -/
theorem s_isFrame {Q : Int32 → Sg → Prop} (hF : Fr N M T σ) (hN : 2 ≤ N) (h0 : ¬ gI σ 2 = 0 → FoOK N M σ)
    (h : ∀ τ, Kp [2, 3] [0] [10, 11, 12] [0, 1, 2, 3, 4, 5, 6, 7, 8, 9, 10] σ τ → ¬ gI τ 2 = 0 → FoOK N M τ → Q 1 τ) : w_L_isFrame (nI N) (nI M) σ Q := by
  have hM9 : M ≤ 9 := hF.2.2.2.1
  unfold w_L_isFrame w_X6_state
  refine s_find hF hN h0 (fun τ hK hf hO _ => ?_)
  have hFt : Fr N M T τ := hF.congr (hK.I 0 rfl) (hK.I 1 rfl) (fun k hk => hK.A k (by
    rcases (show k = 0 ∨ k = 1 ∨ k = 2 ∨ k = 3 ∨ k = 4 ∨ k = 5 ∨ k = 6 ∨ k = 7 ∨ k = 8 ∨ k = 9 by omega) with e | e | e | e | e | e | e | e | e | e <;> subst e <;> rfl))
  have hQ := h τ hK hf hO
  obtain ⟨hc, hS⟩ := hO
  have hnar : narrow .char (.int (gI τ 3)) = .int (gI τ 3) := by
    rcases hc with e | e | e | e <;> rw [e] <;> rfl
  refine ⟨hnar, s_stateIx hc (fun r hr => ?_)⟩
  intro J4 hJ4
  refine ⟨fun q => absurd hr (Int32.not_le.mpr q), fun _ => hJ4 1 ⟨fun h46 => ?_, fun h46 => ?_⟩⟩
  · have hS := hS h46
    have hM7 : M ≤ 7 := hS.1
    refine ⟨fun is sum pulls most i s => ∃ m : Nat, m ≤ M ∧ i = nI m ∧ τ = s ∧ is = 1 ∧ sum = afN τ m ∧ pulls.toInt = sm m (fun m => (tT τ m).toInt) ∧ 0 ≤ most.toInt ∧ (∀ j, j < m → mabsl (gB τ 2 j) ≤ most) ∧ ((m = 0 ∧ most = 0) ∨ ∃ j, j < m ∧ most = mabsl (gB τ 2 j)), fun _ _ _ _ i _ => ((M : Int) - i.toInt).toNat, ?_, ⟨0, Nat.zero_le _, rfl, rfl, rfl, rfl, rfl, by decide, fun j hj => absurd hj (Nat.not_lt_zero _), Or.inl ⟨rfl, rfl⟩⟩, ?_⟩
    · show ((M : Int) - (0 : Int32).toInt).toNat ≤ 9
      have : (0 : Int32).toInt = 0 := rfl
      omega
    rintro _ _ pulls most _ _ ⟨m, hm, rfl, rfl, rfl, rfl, hp, hm0, hm1, hm2⟩
    refine ⟨fun q => ?_, fun q => ?_⟩
    · have := le_end q hm (by omega)
      subst this
      refine ⟨fun is x s => ∃ k : Nat, k ≤ 7 ∧ x = nI (5 * k) ∧ τ = s ∧ is = 1, fun _ x _ => ((((35 - x.toInt) / 5).toNat : Nat)), ?_, ⟨0, by decide, rfl, rfl, rfl⟩, ?_⟩
      · show ((35 - (0 : Int32).toInt) / 5).toNat ≤ 7
        decide
      rintro _ _ _ ⟨k, hk, rfl, rfl, rfl⟩
      refine ⟨fun q2 => ?_, fun q2 => ?_⟩
      · -- the weakest, all force, the mean
        have tail : ∀ w : Int32, ((¬ nI m = 0 → w_L_force w τ (fun r18 σ19 => (¬ (mabsl r18) = most → Q 0 σ19) ∧ ((mabsl r18) = most → w_L_meanPull σ19 (fun r21 σ22 => vf_n64 (FP.ddiv (FP.l2d pulls) (FP.i2d (nI m))) ∧ (¬ (Op.cmpValue (FP.dcmp r21 (FP.ddiv (FP.l2d pulls) (FP.i2d (nI m)))) .l) = 0 → Q 0 σ22) ∧ ((Op.cmpValue (FP.dcmp r21 (FP.ddiv (FP.l2d pulls) (FP.i2d (nI m)))) .l) = 0 → Q 1 σ22))))) ∧ (nI m = 0 → (¬ w = (-75) → Q 0 τ) ∧ (w = (-75) → Q 1 τ))) →
            ((1 : Int32) = 0 → Q 0 τ) ∧ (¬ (1 : Int32) = 0 → w_L_allForce τ (fun r14 σ15 => (¬ r14 = afN τ m → Q 0 σ15) ∧ (r14 = afN τ m → (¬ nI m = 0 → w_L_force w σ15 (fun r18 σ19 => (¬ (mabsl r18) = most → Q 0 σ19) ∧ ((mabsl r18) = most → w_L_meanPull σ19 (fun r21 σ22 => vf_n64 (FP.ddiv (FP.l2d pulls) (FP.i2d (nI m))) ∧ (¬ (Op.cmpValue (FP.dcmp r21 (FP.ddiv (FP.l2d pulls) (FP.i2d (nI m)))) .l) = 0 → Q 0 σ22) ∧ ((Op.cmpValue (FP.dcmp r21 (FP.ddiv (FP.l2d pulls) (FP.i2d (nI m)))) .l) = 0 → Q 1 σ22))))) ∧ (nI m = 0 → (¬ w = (-75) → Q 0 σ15) ∧ (w = (-75) → Q 1 σ15))))) := by
          intro w hk2
          exact ⟨fun q3 => absurd q3 (by decide), fun _ => s_L_allForce hFt hf h46 ⟨fun q3 => absurd rfl q3, fun _ => hk2⟩⟩
        refine s_L_weakest hFt hf h46 (fun hz => ?_) (fun w hw hmax => ?_)
        · subst hz
          exact tail (-75) ⟨fun q3 => absurd rfl q3, fun _ => ⟨fun q3 => absurd rfl q3, fun _ => hQ⟩⟩
        · refine tail (nI w) ⟨fun _ => ?_, fun q3 => absurd q3 (nI_ne0 (by omega) (by omega))⟩
          refine s_L_force hFt hw hf h46 ⟨fun q3 => absurd ?_ q3, fun _ => ?_⟩
          · rcases hm2 with ⟨hz, -⟩ | ⟨j, hj, hje⟩
            · omega
            · refine Int64.le_antisymm (hm1 w hw) ?_
              rw [hje]; exact hmax j hj
          · obtain ⟨s, c, q', hfin⟩ := l2d_fin pulls
            have hnn := div_nn hfin (show 0 < m by omega) (by omega)
            exact s_L_meanPull hFt hf h46 hS (by omega) hp ⟨hnn, fun q3 => absurd (fp_same hnn) q3, fun _ => hQ⟩
      · have hk7 : k < 7 := by
          apply Nat.lt_of_not_le
          intro z
          exact q2 (nI_lt (a := 30) (by omega) (by omega))
        refine s_L_isBalanced hFt (by omega) hf h46 hS ?_
        intro J28 hJ28
        refine ⟨fun q3 => absurd rfl q3, fun _ => hJ28 1 ?_⟩
        rintro _ rfl
        refine ⟨⟨k + 1, by omega, nI_add (5 * k) 5, rfl, rfl⟩, ?_⟩
        show ((35 - (nI (5 * k) + nI 5).toInt) / 5).toNat < ((35 - (nI (5 * k)).toInt) / 5).toNat
        rw [nI_add, nI_ti (by omega), nI_ti (by omega)]
        omega
    · have hlt : m < M := lt_of_nle q (by omega) (by omega)
      have hmu := mu_n hlt (by omega)
      refine s_L_force hFt hlt hf h46 (s_L_pull hFt hlt hf h46 hS ?_)
      rintro _ rfl
      rintro _ rfl
      obtain ⟨r', r0, r1, er, et, w0, w1⟩ := tT_bd hS hlt
      have z : (0 : Int64).toInt = 0 := rfl
      obtain ⟨-, d, -, -, -, -, -, -, hsg⟩ := id hS
      obtain ⟨sg1, sg2⟩ := hsg m hlt
      have hsum := sm_abs (n := m) (f := fun m => (tT τ m).toInt) (b := 1100000000000000999) (fun j hj => by
        obtain ⟨r2, a0, a1, -, a3, a4, a5⟩ := tT_bd hS (show j < M by omega)
        show _ ≤ (tT τ j).toInt ∧ (tT τ j).toInt ≤ _
        rw [a3]; omega)
      have hp2 : (pulls + tT τ m).toInt = sm (m + 1) (fun m => (tT τ m).toInt) := by
        rw [sm_s]; exact l_add hp rfl (by rw [et]; omega)
      have hab : 0 ≤ (mabsl (gB τ 2 m)).toInt := by
        have hlow : -9223372036854775808 < (gB τ 2 m).toInt := by
          by_cases hw : 0 ≤ fW τ m
          · have := sg1 hw; omega
          · exact (sg2 (by omega)).2
        rw [mabs_ti hlow]; split <;> omega
      have cont : ∀ mo : Int64, mo = (if most < mabsl (gB τ 2 m) then mabsl (gB τ 2 m) else most) → ∀ (J38 : Int32 → Prop), (∀ (s0_38 : Int32), (∀ v43 : Int32, v43 = 1 &&& s0_38 → (∃ m' : Nat, m' ≤ M ∧ nI m + 1 = nI m' ∧ τ = τ ∧ v43 = 1 ∧ afN τ m + mabsl (gB τ 2 m) = afN τ m' ∧ (pulls + tT τ m).toInt = sm m' (fun m => (tT τ m).toInt) ∧ 0 ≤ mo.toInt ∧ (∀ j, j < m' → mabsl (gB τ 2 j) ≤ mo) ∧ ((m' = 0 ∧ mo = 0) ∨ ∃ j, j < m' ∧ mo = mabsl (gB τ 2 j))) ∧ ((M : Int) - (nI m + 1).toInt).toNat < ((M : Int) - (nI m).toInt).toNat) → J38 s0_38) → J38 1 := by
        intro mo hmo J38 hJ
        refine hJ 1 ?_
        rintro _ rfl
        refine ⟨⟨m + 1, by omega, nI_1 m, rfl, rfl, rfl, hp2, ?_, fun j hj => ?_, Or.inr ?_⟩, hmu⟩
        · rw [hmo]; split
          · exact hab
          · exact hm0
        · rw [hmo]
          by_cases e : j = m
          · subst e
            split
            · exact Int64.le_refl _
            · rename_i c; exact Int64.not_lt.mp c
          · have := hm1 j (by omega)
            split
            · rename_i c; exact Int64.le_trans this (Int64.le_of_lt c)
            · exact this
        · rw [hmo]
          split
          · exact ⟨m, by omega, rfl⟩
          · rename_i c
            rcases hm2 with ⟨hz, hz2⟩ | ⟨j, hj, hje⟩
            · subst hz
              refine ⟨0, by omega, ?_⟩
              rw [hz2] at c ⊢
              refine Int64.le_antisymm (lle.mpr (by rw [z]; exact hab)) (Int64.not_lt.mp c)
            · exact ⟨j, by omega, hje⟩
      have fin : ∀ mo : Int64, mo = (if most < mabsl (gB τ 2 m) then mabsl (gB τ 2 m) else most) → ∀ (J38 : Int32 → Prop), (∀ (s0_38 : Int32), (∀ v43 : Int32, v43 = 1 &&& s0_38 → (∃ m' : Nat, m' ≤ M ∧ nI m + 1 = nI m' ∧ τ = τ ∧ v43 = 1 ∧ afN τ m + mabsl (gB τ 2 m) = afN τ m' ∧ (pulls + tT τ m).toInt = sm m' (fun m => (tT τ m).toInt) ∧ 0 ≤ mo.toInt ∧ (∀ j, j < m' → mabsl (gB τ 2 j) ≤ mo) ∧ ((m' = 0 ∧ mo = 0) ∨ ∃ j, j < m' ∧ mo = mabsl (gB τ 2 j))) ∧ ((M : Int) - (nI m + 1).toInt).toNat < ((M : Int) - (nI m).toInt).toNat) → J38 s0_38) →
          (gB τ 2 m = 0 → J38 1) ∧ (¬ gB τ 2 m = 0 → (gB τ 2 m ≤ 0 → (tT τ m < 0 → J38 1) ∧ (¬ tT τ m < 0 → J38 0)) ∧ (¬ gB τ 2 m ≤ 0 → (tT τ m < 0 → J38 0) ∧ (¬ tT τ m < 0 → J38 1))) := by
        intro mo hmo J38 hJ
        have h1 := cont mo hmo J38 hJ
        refine ⟨fun _ => h1, fun hne => ⟨fun hle => ⟨fun _ => h1, fun hn => ?_⟩, fun hnl => ⟨fun hlt2 => ?_, fun _ => h1⟩⟩⟩
        · rw [lle, z] at hle
          rw [llt, z, et] at hn
          have hw : 0 ≤ fW τ m := by omega
          have := sg1 hw
          exact absurd (leq.mpr (show (gB τ 2 m).toInt = (0 : Int64).toInt by rw [z]; omega)) hne
        · rw [llt, z, et] at hlt2
          have := (sg2 (by omega)).1
          exact absurd (lle.mpr (by rw [z]; exact this)) hnl
      unfold w_J9_max_f86c9
      exact ⟨fun c => fin _ (if_pos c).symm, fun c => fin _ (if_neg c).symm⟩
  · refine ⟨fun q => absurd q (by decide), fun _ => ?_⟩
    have a1 : w_L_allForce τ (fun r45 σ46 => (¬ r45 = (-79) → Q 0 σ46) ∧ (r45 = (-79) → w_L_weakest σ46 (fun r48 σ49 => (¬ r48 = (-79) → Q 0 σ49) ∧ (r48 = (-79) → w_L_isBalanced 3 σ49 (fun r51 σ52 => (¬ r51 = (-79) → Q 0 σ52) ∧ (r51 = (-79) → w_L_meanPull σ52 (fun r54 σ55 => (¬ (Op.cmpValue (FP.dcmp r54 13858631584581681152) .l) = 0 → Q 0 σ55) ∧ ((Op.cmpValue (FP.dcmp r54 13858631584581681152) .l) = 0 → Q 1 σ55)))))))) := by
      unfold w_L_allForce w_X6_allForce
      refine s_cSx hf h46 ⟨rfl, fun q => absurd rfl q, fun _ => ?_⟩
      unfold w_L_weakest w_X6_weakest
      refine s_cSx hf h46 (Or.inl ⟨rfl, fun q => absurd rfl q, fun _ => ?_⟩)
      unfold w_L_isBalanced w_X6_isBalanced
      refine s_withinY (by decide) ⟨fun _ => s_cSx hf h46 (Or.inr ⟨rfl, fun q => absurd rfl q, fun _ => ?_⟩), fun q => absurd q (by decide)⟩
      unfold w_L_meanPull w_X6_meanPull
      refine s_cSx hf h46 (Or.inl ⟨rfl, fun q => absurd (by decide +kernel) q, fun _ => hQ⟩)
    exact a1
end ST
