/-! what holds of the yard between the law's calls -/
def sn (n : Nat) (f : Nat → Nat) : Nat := match n with
  | 0 => 0
  | n + 1 => sn n f + f n
theorem sn_s (n : Nat) (f : Nat → Nat) : sn (n + 1) f = sn n f + f n := rfl
theorem sn_congr {n : Nat} {f g : Nat → Nat} (h : ∀ k, k < n → f k = g k) : sn n f = sn n g := by
  induction n with
  | zero => rfl
  | succ n ih => rw [sn_s, sn_s, ih (fun k hk => h k (by omega)), h n (by omega)]
theorem sn_le {n b : Nat} {f : Nat → Nat} (h : ∀ k, k < n → f k ≤ b) : sn n f ≤ n * b := by
  induction n with
  | zero => simp [sn]
  | succ n ih =>
    have h1 := ih (fun k hk => h k (by omega))
    have h2 := h n (by omega)
    rw [sn_s, Nat.add_mul, Nat.one_mul]
    omega
/-! pieces -/
def lenSq (σ : Sg) (m : Nat) : Int32 :=
  ((gA σ 0 (ix ((2 * gA σ 5 m) + 0)) - gA σ 0 (ix ((2 * gA σ 4 m) + 0))) * (gA σ 0 (ix ((2 * gA σ 5 m) + 0)) - gA σ 0 (ix ((2 * gA σ 4 m) + 0)))) + ((gA σ 0 (ix ((2 * gA σ 5 m) + 1)) - gA σ 0 (ix ((2 * gA σ 4 m) + 1))) * (gA σ 0 (ix ((2 * gA σ 5 m) + 1)) - gA σ 0 (ix ((2 * gA σ 4 m) + 1))))
def plG (q : Int32) (n : Nat) : Nat → Nat
  | 0 => n
  | f + 1 => if q ≤ nI n * nI n then n else plG q (n + 1) f
def gc (σ : Sg) (m : Nat) : Nat → Nat
  | 0 => 0
  | j + 1 => gc σ m j + (if gA σ 13 j = nI m then 1 else 0)
def pieceN (J : Nat) (σ : Sg) (m : Nat) : Nat := plG (100 * lenSq σ m) 0 425 + 4 * gc σ m J
theorem plG_le (q : Int32) (n f : Nat) : plG q n f ≤ n + f := by
  induction f generalizing n with
  | zero => exact Nat.le_refl _
  | succ f ih =>
    unfold plG
    split
    · omega
    · have := ih (n + 1); omega
theorem gc_le (σ : Sg) (m n : Nat) : gc σ m n ≤ n := by
  induction n with
  | zero => exact Nat.le_refl _
  | succ n ih =>
    show gc σ m n + (if gA σ 13 n = nI m then 1 else 0) ≤ _
    split <;> omega
/-! raising: what a set of members needs and who can move in, whatever was gathered -/
def bcT (p0 : Int32) : Int32 :=
  let v1 := p0 - ((iUshr p0 1) &&& 1431655765)
  let v2 := (v1 &&& 858993459) + ((iUshr v1 2) &&& 858993459)
  let v3 := (v2 + (iUshr v2 4)) &&& 252645135
  let v4 := v3 + (iUshr v3 8)
  (v4 + (iUshr v4 16)) &&& 63
/-- what raising reads of the frame and its joints: kinds, both ends, going in, receiving, ways, and the limit -/
abbrev FJ : Type := (Nat → Int32) × (Nat → Int32) × (Nat → Int32) × (Nat → Int32) × (Nat → Int32) × (Nat → Int32) × Int32
def fj (σ : Sg) : FJ := (gA σ 3, gA σ 4, gA σ 5, gA σ 13, gA σ 14, gA σ 15, gI σ 9)
def onG (x : FJ) (m : Nat) : Bool := decide (¬ x.1 (ix (x.2.1 m)) = 45) || decide (¬ x.1 (ix (x.2.2.1 m)) = 45)
def hN (x : FJ) : Nat → Nat
  | 0 => 0
  | m + 1 => if onG x m = true then hN x m else hN x m ||| 2 ^ m
def ptT (x : FJ) (j m : Nat) : Int32 := if x.2.2.2.1 j = nI m then x.2.2.2.2.1 j else if x.2.2.2.2.1 j = nI m then x.2.2.2.1 j else -1
def wfT (x : FJ) (j m : Nat) : Int32 := if x.2.2.2.1 j = nI m then x.2.2.2.2.2.1 j else if x.2.2.2.2.2.1 j = 4 then x.2.2.2.2.2.1 j else x.2.2.2.2.2.1 j ^^^ 1
def jnT (x : FJ) (m : Nat) : Nat → Int32
  | 0 => 0
  | j + 1 => if ptT x j m < 0 then jnT x m j else jnT x m j ||| iShl 1 (ptT x j m)
def akT (x : FJ) (m w : Nat) : Nat → Int32
  | 0 => 0
  | j + 1 => if ptT x j m < 0 then akT x m w j else if wfT x j m = nI w then akT x m w j ||| iShl 1 (ptT x j m) else akT x m w j
def prK (J : Nat) (x : FJ) (M s : Nat) : Nat → Nat
  | 0 => 0
  | n + 1 => prK J x M s n + (if (nI s &&& nI (hN x M)) &&& (iShl 1 (nI n)) = 0 then 0 else if 2 ≤ bcT (jnT x n J &&& nI s) then 0 else 1)
def prF (J : Nat) (x : FJ) (M s : Nat) : Nat := prK J x M s 9
def mvK (J : Nat) (x : FJ) (m s : Nat) : Nat → Nat
  | 0 => 0
  | w + 1 => mvK J x m s w + (if akT x m w J &&& nI s = 0 then 0 else 1)
def mvF (J : Nat) (x : FJ) (m s : Nat) : Bool := decide (mvK J x m s 5 ≤ 1)
/-- one step of raising -/
def Ed (J : Nat) (x : FJ) (M s m : Nat) : Prop := m < M ∧ s < 2 ^ M ∧ s.testBit m = false ∧ nI (prF J x M (s + 2 ^ m)) ≤ x.2.2.2.2.2.2 ∧ mvF J x m s = true
def Pth (E : Nat → Nat → Prop) : Nat → Nat → Nat → Prop
  | 0, s, t => s = t
  | n + 1, s, t => ∃ m, E s m ∧ Pth E n (s + 2 ^ m) t
def canR (J : Nat) (x : FJ) (M : Nat) : Prop := ∃ n, Pth (Ed J x M) n 0 (2 ^ M - 1)
/-- the members that stand behind the first n of an order -/
def stn (o : Nat → Nat) : Nat → Nat
  | 0 => 0
  | n + 1 => stn o n ||| 2 ^ o n
def RaG (M J : Nat) (x : FJ) (σ : Sg) : Prop :=
  gI σ 11 = nI (2 ^ M - 1) ∧ gI σ 12 = nI (hN x M) ∧ (∀ m, m < M → gA σ 25 m = jnT x m J) ∧ ∀ m, m < M → ∀ w, w < 5 → gA σ 24 (m * 5 + w) = akT x m w J
def RaOK (M J : Nat) (σ : Sg) : Prop :=
  RaG M J (fj σ) σ ∧ ∃ c : Nat, c < 1000000000 ∧ gA σ 26 (2 ^ M - 1) = nI c ∧ (0 < c ↔ canR J (fj σ) M) ∧ (gA σ 27 0 = 0 ∨ gA σ 27 0 = 1) ∧ (gA σ 27 0 = 1 ↔ canR J (fj σ) M) ∧
    (canR J (fj σ) M → ∃ o : Nat → Nat, (∀ k, k < M → gA σ 28 k = nI (o k) ∧ o k < M) ∧ (∀ k, k < M → (stn o k).testBit (o k) = false) ∧ ∀ k, k < M → nI (prF J (fj σ) M (stn o (k + 1))) ≤ gI σ 9)
/-! cutting -/
def CuOK (M J S : Nat) (σ : Sg) : Prop :=
  (∀ s, s < 2 ^ M → gA σ 22 s = nI (sn M (fun m => if s.testBit m then pieceN J σ m + 1 else 0))) ∧
  ((gI σ 7 = 0 ∧ 0 < M) ∨ (gI σ 7 = 1 ∧ ∃ (a : Nat → Nat) (len : Nat → Nat), (∀ s, s < S → gA σ 19 s = nI (len s) ∧ len s ≤ 900) ∧ (∀ m, m < M → gA σ 18 m = nI (a m) ∧ a m < S) ∧
    (∀ s, s < S → sn M (fun m => if a m = s then pieceN J σ m + 1 else 0) ≤ len s) ∧ ∃ u : Nat → Bool, (∀ s, u s = true ↔ ∃ m, m < M ∧ a m = s) ∧ gI σ 8 = nI (sn S (fun s => if u s = true then len s else 0))))
/-! forces -/
def wayI (σ : Sg) (m p : Nat) : Int := (wayT σ m (p / 2) (p % 2)).toInt
def fW (σ : Sg) (i : Nat) : Int := (gB σ 0 i).toInt
def fR (σ : Sg) (i : Nat) : Int := (gB σ 1 i).toInt
def FoS (N M : Nat) (σ : Sg) : Prop :=
  M ≤ 7 ∧ ∃ d : Int, 0 < d ∧ d ≤ 30000000000000 ∧ (gL σ 0).toInt = d ∧
  (∀ i, i < M → 0 ≤ fR σ i ∧ fR σ i < d ∧ -1100000000000000 ≤ fW σ i ∧ fW σ i ≤ 1100000000000000) ∧
  (∀ p, p < 2 * N → 0 ≤ fR σ (9 + p) ∧ fR σ (9 + p) < d ∧ -400000000000000000 ≤ fW σ (9 + p) ∧ fW σ (9 + p) ≤ 400000000000000000) ∧
  (∀ p, p < 2 * N → ((gA σ 1 p).toInt + fW σ (9 + p)) * d + fR σ (9 + p) + sm M (fun m => wayI σ m p * (fW σ m * d + fR σ m)) = 0) ∧
  (∀ m, m < M → (0 ≤ fW σ m → 0 ≤ (gB σ 2 m).toInt) ∧ (fW σ m < 0 → (gB σ 2 m).toInt ≤ 0 ∧ -9223372036854775808 < (gB σ 2 m).toInt))
def FoOK (N M : Nat) (σ : Sg) : Prop :=
  (gI σ 3 = 108 ∨ gI σ 3 = 116 ∨ gI σ 3 = 99 ∨ gI σ 3 = 46) ∧ (gI σ 3 = 46 → FoS N M σ)
def Cu (S : Nat) (σ : Sg) : Prop :=
  gI σ 5 = nI S ∧ S ≤ 5 ∧ (∀ s, s < S → ∃ l : Nat, gA σ 19 s = nI l ∧ 1 ≤ l ∧ l ≤ 900) ∧ gA σ 22 0 = 0 ∧ gA σ 23 0 = 0
/-- the yard: N nodes, M members, J joints, S sticks, T rounds of the law -/
def Inv (N M J S T : Nat) (σ : Sg) : Prop :=
  Fr N M T σ ∧ Jo M J σ ∧ Cu S σ ∧ (∃ l : Nat, l ≤ 9 ∧ gI σ 9 = nI l) ∧ (¬ gI σ 2 = 0 → FoOK N M σ) ∧ (¬ gI σ 6 = 0 → CuOK M J S σ) ∧ (¬ gI σ 10 = 0 → RaOK M J σ)
theorem Cu.congr {S : Nat} {σ τ : Sg} (h : Cu S σ) (h0 : gI τ 5 = gI σ 5) (h1 : gA τ 19 = gA σ 19) (h2 : gA τ 22 0 = gA σ 22 0) (h3 : gA τ 23 0 = gA σ 23 0) : Cu S τ := by
  unfold Cu at *
  rw [h0, h1, h2, h3]
  exact h
theorem wayT_congr {σ τ : Sg} (h0 : gA τ 0 = gA σ 0) (h4 : gA τ 4 = gA σ 4) (h5 : gA τ 5 = gA σ 5) (m k ax : Nat) : wayT τ m k ax = wayT σ m k ax := by
  unfold wayT oEnd
  rw [h0, h4, h5]
theorem FoOK.congr {N M : Nat} {σ τ : Sg} (h : FoOK N M σ) (h3 : gI τ 3 = gI σ 3) (hL : gL τ 0 = gL σ 0) (h0 : gA τ 0 = gA σ 0) (h1 : gA τ 1 = gA σ 1) (h4 : gA τ 4 = gA σ 4) (h5 : gA τ 5 = gA σ 5) (b0 : gB τ 0 = gB σ 0) (b1 : gB τ 1 = gB σ 1) (b2 : gB τ 2 = gB σ 2) : FoOK N M τ := by
  have hw : ∀ m p, wayI τ m p = wayI σ m p := fun m p => by unfold wayI; rw [wayT_congr h0 h4 h5]
  have ew : wayI τ = wayI σ := funext fun m => funext fun p => hw m p
  have eW : fW τ = fW σ := by unfold fW; rw [b0]
  have eR : fR τ = fR σ := by unfold fR; rw [b1]
  unfold FoOK FoS at *
  rw [h3, hL, h1, b2, ew, eW, eR]
  exact h
theorem pieceN_congr {J : Nat} {σ τ : Sg} (h0 : gA τ 0 = gA σ 0) (h4 : gA τ 4 = gA σ 4) (h5 : gA τ 5 = gA σ 5) (h13 : gA τ 13 = gA σ 13) : pieceN J τ = pieceN J σ := by
  have e : ∀ m j, gc τ m j = gc σ m j := by
    intro m j
    induction j with
    | zero => rfl
    | succ j ih => show gc τ m j + (if gA τ 13 j = nI m then 1 else 0) = gc σ m j + (if gA σ 13 j = nI m then 1 else 0); rw [ih, h13]
  funext m
  unfold pieceN lenSq
  rw [e, h0, h4, h5]
theorem CuOK.congr {M J S : Nat} {σ τ : Sg} (h : CuOK M J S σ) (h0 : gA τ 0 = gA σ 0) (h4 : gA τ 4 = gA σ 4) (h5 : gA τ 5 = gA σ 5) (h13 : gA τ 13 = gA σ 13) (h22 : gA τ 22 = gA σ 22) (h7 : gI τ 7 = gI σ 7) (h8 : gI τ 8 = gI σ 8) (h18 : gA τ 18 = gA σ 18) (h19 : gA τ 19 = gA σ 19) : CuOK M J S τ := by
  unfold CuOK at *
  rw [h22, h7, h8, h18, h19, pieceN_congr h0 h4 h5 h13]
  exact h
theorem RaOK.congr {M J : Nat} {σ τ : Sg} (h : RaOK M J σ) (hx : fj τ = fj σ) (h11 : gI τ 11 = gI σ 11) (h12 : gI τ 12 = gI σ 12) (h24 : gA τ 24 = gA σ 24) (h25 : gA τ 25 = gA σ 25) (h26 : gA τ 26 = gA σ 26) (h27 : gA τ 27 = gA σ 27) (h28 : gA τ 28 = gA σ 28) : RaOK M J τ := by
  have h9 : gI τ 9 = gI σ 9 := congrArg (fun x : FJ => x.2.2.2.2.2.2) hx
  unfold RaOK RaG at *
  rw [hx, h9, h11, h12, h24, h25, h26, h27, h28]
  exact h
