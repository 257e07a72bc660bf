/-! the frame: what holds of it behind the law's calls -/
def Fr (N M T : Nat) (σ : Sg) : Prop :=
  gI σ 0 = nI N ∧ gI σ 1 = nI M ∧ N ≤ 5 ∧ M ≤ 9 ∧ T ≤ 34 ∧
  (∀ k, k < N → ∃ x y : Nat, gA σ 0 (2 * k) = nI x ∧ gA σ 0 (2 * k + 1) = nI y ∧ 5 * k ≤ x ∧ x < 5 * k + 5 ∧ y < 12) ∧
  ((0 < N → gA σ 3 0 = 112) ∧ (1 < N → gA σ 3 1 = 114)) ∧
  (∀ k, -(33 * (T : Int)) ≤ (gA σ 1 k).toInt ∧ (gA σ 1 k).toInt ≤ 33 * T) ∧
  (∀ k, 0 ≤ (gA σ 2 k).toInt ∧ (gA σ 2 k).toInt ≤ T) ∧
  (∀ m, m < M → ∃ a b : Nat, gA σ 4 m = nI a ∧ gA σ 5 m = nI b ∧ a < N ∧ b < N ∧ a ≠ b) ∧
  (∀ m, m < M → (10 ≤ (gA σ 8 m).toInt ∧ (gA σ 8 m).toInt ≤ 60) ∧ (10 ≤ (gA σ 9 m).toInt ∧ (gA σ 9 m).toInt ≤ 60))
theorem Fr.congr {N M T : Nat} {σ τ : Sg} (h : Fr N M T σ) (h0 : gI τ 0 = gI σ 0) (h1 : gI τ 1 = gI σ 1) (hA : ∀ k, k < 10 → gA τ k = gA σ k) : Fr N M T τ := by
  unfold Fr at *
  rw [h0, h1, hA 0 (by decide), hA 1 (by decide), hA 2 (by decide), hA 3 (by decide), hA 4 (by decide), hA 5 (by decide), hA 8 (by decide), hA 9 (by decide)]
  exact h
theorem Fr.later {N M T : Nat} {σ : Sg} (h : Fr N M T σ) (hT : T + 1 ≤ 34) : Fr N M (T + 1) σ := by
  obtain ⟨a1, a2, a3, a4, a5, a6, a7, a8, a9, a10, a11⟩ := h
  refine ⟨a1, a2, a3, a4, hT, a6, a7, fun k => ?_, fun k => ?_, a10, a11⟩
  · have := a8 k; omega
  · have := a9 k; omega
theorem ix20 {a : Nat} (h : a < 1000) : ix ((2 * nI a) + 0) = 2 * a := by
  show ix ((nI 2 * nI a) + nI 0) = _
  rw [pk_mul, nI_add, ixn (by omega), Nat.add_zero]
theorem ix21 {a : Nat} (h : a < 1000) : ix ((2 * nI a) + 1) = 2 * a + 1 := by
  show ix ((nI 2 * nI a) + nI 1) = _
  rw [pk_mul, nI_add, ixn (by omega)]
theorem ix2x {a x : Nat} (h : a < 1000) (hx : x < 1000) : ix ((2 * nI a) + nI x) = 2 * a + x := by
  show ix ((nI 2 * nI a) + nI x) = _
  rw [pk_mul, nI_add, ixn (by omega)]
theorem in20 {a n : Nat} (h : 2 * a < n) (hn : n < 1000) : vp_in ((2 * nI a) + 0) n := by
  show vp_in ((nI 2 * nI a) + nI 0) n
  rw [pk_mul, nI_add]; exact in_nI (by omega) (by omega)
theorem in21 {a n : Nat} (h : 2 * a + 1 < n) (hn : n < 1000) : vp_in ((2 * nI a) + 1) n := by
  show vp_in ((nI 2 * nI a) + nI 1) n
  rw [pk_mul, nI_add]; exact in_nI (by omega) (by omega)
theorem in2x {a x n : Nat} (h : 2 * a + x < n) (hn : n < 1000) : vp_in ((2 * nI a) + nI x) n := by
  show vp_in ((nI 2 * nI a) + nI x) n
  rw [pk_mul, nI_add]; exact in_nI (by omega) (by omega)
theorem s_within {p0 p1 p2 : Int32} {σ : Sg} {Q : Int32 → Prop} (h1 : p1.toInt ≤ p0.toInt → p0.toInt ≤ p2.toInt → Q 1) (h0 : p0.toInt < p1.toInt ∨ p2.toInt < p0.toInt → Q 0) : w_X6_isWithin p0 p1 p2 σ Q := by
  unfold w_X6_isWithin
  refine ⟨fun h => h0 (Or.inl (tlt.mp h)), fun h => ⟨fun h2 => h0 (Or.inr (tlt.mp h2)), fun h2 => h1 ?_ ?_⟩⟩
  · rw [tlt] at h; omega
  · rw [tlt] at h2; omega
theorem s_withinY {p0 p1 p2 : Int32} {σ : Sg} {Q : Int32 → Prop} (h : p1.toInt ≤ p0.toInt ∧ p0.toInt ≤ p2.toInt) (hQ : Q 1) : w_X6_isWithin p0 p1 p2 σ Q :=
  s_within (fun _ _ => hQ) (fun q => by omega)
theorem s_withinN {p0 p1 p2 : Int32} {σ : Sg} {Q : Int32 → Prop} (h : p0.toInt < p1.toInt ∨ p2.toInt < p0.toInt) (hQ : Q 0) : w_X6_isWithin p0 p1 p2 σ Q :=
  s_within (fun _ _ => by omega) (fun _ => hQ)
theorem s_sectionY {b g : Nat} {σ : Sg} {Q : Int32 → Prop} (h : 6 ≤ b ∧ b ≤ 40) (hg : g ≤ 3) (hQ : Q 1) : w_X6_isSection (nI b) (nI g) σ Q := by
  unfold w_X6_isSection
  refine s_withinY ?_ ⟨fun q => absurd q (by decide), fun _ => s_withinY ?_ ⟨fun q => absurd q (by decide), fun _ => hQ⟩⟩
  · rw [nI_ti (by omega)]
    exact ⟨show ((6 : Nat) : Int) ≤ b by omega, show (b : Int) ≤ ((40 : Nat) : Int) by omega⟩
  · rw [nI_ti (by omega)]
    exact ⟨show ((0 : Nat) : Int) ≤ g by omega, show (g : Int) ≤ ((3 : Nat) : Int) by omega⟩
theorem s_cN {a N : Nat} {σ : Sg} {Q : Prop} {X : String → Sg → Prop} (hn : gI σ 0 = nI N) (hN : N ≤ 9) (h : a < N) (hQ : Q) : w_X6_checkNode (nI a) σ Q X := by
  unfold w_X6_checkNode
  rw [hn]
  exact ⟨fun q => absurd q (nI_pos (by omega)), fun _ => ⟨fun _ => hQ, fun q => absurd (nI_lt h (by omega)) q⟩⟩
theorem s_cNx {a N : Nat} {σ : Sg} {Q : Prop} {X : String → Sg → Prop} (hn : gI σ 0 = nI N) (hN : N ≤ 9) (h : N ≤ a) (ha : a < 1000) (hX : X "java/lang/IndexOutOfBoundsException" σ) : w_X6_checkNode (nI a) σ Q X := by
  unfold w_X6_checkNode
  rw [hn]
  exact ⟨fun _ => hX, fun _ => ⟨fun q => absurd q (nI_nlt h (by omega)), fun _ => hX⟩⟩
theorem s_cM {a N : Nat} {σ : Sg} {Q : Prop} {X : String → Sg → Prop} (hn : gI σ 1 = nI N) (hN : N ≤ 9) (h : a < N) (hQ : Q) : w_X6_checkMember (nI a) σ Q X := by
  unfold w_X6_checkMember
  rw [hn]
  exact ⟨fun q => absurd q (nI_pos (by omega)), fun _ => ⟨fun _ => hQ, fun q => absurd (nI_lt h (by omega)) q⟩⟩
theorem s_cMx {a N : Nat} {σ : Sg} {Q : Prop} {X : String → Sg → Prop} (hn : gI σ 1 = nI N) (hN : N ≤ 9) (h : N ≤ a) (ha : a < 1000) (hX : X "java/lang/IndexOutOfBoundsException" σ) : w_X6_checkMember (nI a) σ Q X := by
  unfold w_X6_checkMember
  rw [hn]
  exact ⟨fun _ => hX, fun _ => ⟨fun q => absurd q (nI_nlt h (by omega)), fun _ => hX⟩⟩
theorem s_cJ {a N : Nat} {σ : Sg} {Q : Prop} {X : String → Sg → Prop} (hn : gI σ 4 = nI N) (hN : N ≤ 12) (h : a < N) (hQ : Q) : w_X6_checkJoint (nI a) σ Q X := by
  unfold w_X6_checkJoint
  rw [hn]
  exact ⟨fun q => absurd q (nI_pos (by omega)), fun _ => ⟨fun _ => hQ, fun q => absurd (nI_lt h (by omega)) q⟩⟩
theorem s_cJx {a N : Nat} {σ : Sg} {Q : Prop} {X : String → Sg → Prop} (hn : gI σ 4 = nI N) (hN : N ≤ 12) (h : N ≤ a) (ha : a < 1000) (hX : X "java/lang/IndexOutOfBoundsException" σ) : w_X6_checkJoint (nI a) σ Q X := by
  unfold w_X6_checkJoint
  rw [hn]
  exact ⟨fun _ => hX, fun _ => ⟨fun q => absurd q (nI_nlt h (by omega)), fun _ => hX⟩⟩
/-- one place: two nodes with the same x -/
theorem s_onePlace {N M T a b : Nat} {σ : Sg} {Q : Int32 → Prop} (hF : Fr N M T σ) (ha : a < N) (hb : b < N) (h1 : a = b → Q 1) (h0 : a ≠ b → Q 0) : w_X2_isOnePlace (nI a) (nI b) σ Q := by
  obtain ⟨-, -, hN, -, -, hp, -⟩ := hF
  unfold w_X2_isOnePlace
  rw [ix20 (by omega), ix20 (by omega), ix21 (by omega), ix21 (by omega)]
  obtain ⟨x, y, e1, e2, e3, e4, e5⟩ := hp a ha
  obtain ⟨x', y', f1, f2, f3, f4, f5⟩ := hp b hb
  refine ⟨in20 (by omega) (by omega), in20 (by omega) (by omega), fun q => h0 (fun e => q (by rw [e])), fun q => ⟨in21 (by omega) (by omega), in21 (by omega) (by omega), fun q2 => h0 (fun e => q2 (by rw [e])), fun _ => h1 ?_⟩⟩
  rw [e1, f1, nI_eq2 (by omega) (by omega)] at q
  omega
theorem s_borne {k ax : Nat} {σ : Sg} {Q : Int32 → Prop} (hk : k < 8) (hax : ax < 2) (h : Q (if gA σ 3 k = 112 ∨ gA σ 3 k = 114 ∧ ax = 1 then 1 else 0)) : w_X2_isBorne (nI k) (nI ax) σ Q := by
  unfold w_X2_isBorne
  rw [ixn (by omega)]
  refine ⟨in_nI hk (by decide), fun q => ?_, fun q => ⟨in_nI hk (by decide), fun q2 => ?_, fun q2 => ⟨fun q3 => ?_, fun q3 => ?_⟩⟩⟩
  · rwa [if_pos (Or.inl q)] at h
  · rwa [if_neg (by rintro (h | h); exact q h; exact q2 h.1)] at h
  · rwa [if_neg (by rintro (h | h); exact q h; exact q3 (by rw [h.2]; rfl))] at h
  · have e : ax = 1 := (nI_eq2 (a := ax) (b := 1) (by omega) (by omega)).mp q3
    rwa [if_pos (Or.inr ⟨q2, e⟩)] at h
/-- the other end of a member -/
def oEnd (σ : Sg) (m : Nat) (k : Int32) : Int32 := if gA σ 4 m = k then gA σ 5 m else if gA σ 5 m = k then gA σ 4 m else -1
theorem s_otherEnd {m : Nat} {k : Int32} {σ : Sg} {Q : Int32 → Prop} (hm : m < 9) (h : Q (oEnd σ m k)) : w_X2_otherEnd (nI m) k σ Q := by
  unfold w_X2_otherEnd
  rw [ixn (by omega)]
  unfold oEnd at h
  refine ⟨in_nI hm (by decide), fun q => ⟨in_nI hm (by decide), fun q2 => ?_, fun q2 => ⟨in_nI hm (by decide), ?_⟩⟩, fun q => ⟨in_nI hm (by decide), ?_⟩⟩
  · rwa [if_neg q, if_neg q2] at h
  · rwa [if_neg q, if_pos q2] at h
  · rwa [if_pos q] at h
/-- how far a member goes along an axis from a node (the node's number, 0 or 1) -/
def wayT (σ : Sg) (m k ax : Nat) : Int32 := if 0 ≤ oEnd σ m (nI k) then gA σ 0 (ix ((2 * oEnd σ m (nI k)) + nI ax)) - gA σ 0 (2 * k + ax) else 0
theorem oEnd_cases {N M T m k : Nat} {σ : Sg} (hF : Fr N M T σ) (hm : m < M) : oEnd σ m (nI k) = -1 ∨ ∃ b : Nat, b < N ∧ oEnd σ m (nI k) = nI b := by
  obtain ⟨-, -, hN, -, -, -, -, -, -, hp, -⟩ := hF
  obtain ⟨a, b, e1, e2, e3, e4, e5⟩ := hp m hm
  unfold oEnd
  by_cases h : gA σ 4 m = nI k
  · rw [if_pos h]; exact Or.inr ⟨b, e4, e2⟩
  · rw [if_neg h]
    by_cases h2 : gA σ 5 m = nI k
    · rw [if_pos h2]; exact Or.inr ⟨a, e3, e1⟩
    · rw [if_neg h2]; exact Or.inl rfl
theorem neg1 : ¬ (0 : Int32) ≤ -1 := by decide
theorem s_wayAlong {N M T m k ax : Nat} {σ : Sg} {Q : Int32 → Prop} (hF : Fr N M T σ) (hm : m < M) (hk : k < 8) (hax : ax < 2) (h : Q (wayT σ m k ax)) : w_X2_wayAlong (nI m) (nI k) (nI ax) σ Q := by
  have hM : M ≤ 9 := hF.2.2.2.1
  have hN : N ≤ 5 := hF.2.2.1
  unfold w_X2_wayAlong
  refine s_otherEnd (by omega) ⟨fun q => ?_, fun q => ?_⟩
  · rcases oEnd_cases (k := k) hF hm with e | ⟨b, hb, e⟩
    · rw [e] at q; exact absurd q neg1
    · unfold wayT at h
      rw [if_pos q] at h
      rw [ix2x (a := k) (by omega) (by omega)]
      rw [e] at h ⊢
      exact ⟨in2x (by omega) (by decide), in2x (by omega) (by decide), h⟩
  · unfold wayT at h
    rwa [if_neg q] at h
