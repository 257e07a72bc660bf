/-! the law -/
theorem ush_nI (x : Int32) : ∃ u : Nat, u < 2147483648 ∧ iUshr x 1 = nI u := by
  have hx := x.toBitVec.isLt
  refine ⟨x.toBitVec.toNat / 2, by omega, ?_⟩
  apply Int32.toBitVec_inj.mp
  apply BitVec.eq_of_toNat_eq
  unfold iUshr
  rw [pk_ushr x 1 1 (by decide +kernel), pk_tn (by omega)]
theorem s_pick {L k d : Nat} {xs : Nat → Int32} {σ : Sg} {Q : Int32 → Prop} (hL : L ≤ 260) (hk : k < 100000) (hd : 0 < d ∧ d < 1000) (h : ∀ r, r < d → Q (nI r)) : w_L_pick L xs (nI k) (nI d) σ Q := by
  have key : ∀ x : Int32, ¬ nI d = 0 ∧ Q (iRem (iUshr x 1) (nI d)) := fun x => by
    obtain ⟨u, hu, eu⟩ := ush_nI x
    rw [eu, rem_nI hu hd.1 (by omega)]
    exact ⟨nI_ne0 hd.1 (by omega), h _ (Nat.mod_lt _ hd.1)⟩
  unfold w_L_pick w_L_cell
  refine ⟨fun _ => key _, fun q => ⟨?_, key _⟩⟩
  have hlt : k < L := lt_of_nle (a := L) q (by omega) (by omega)
  exact in_nI hlt (by omega)
theorem and11 : (1 : Int32) &&& 1 = 1 := by decide +kernel
theorem s_law {L : Nat} {xs : Nat → Int32} {σ : Sg} (hL : L ≤ 260) (h0 : Start 0 σ) : w_L_law L xs σ := by
  have z0 : (0 : Int32).toInt = 0 := rfl
  unfold w_L_law
  refine s_pick (k := 1) (d := 3) hL (by decide) (by decide) (fun r hr => ?_)
  rintro _ rfl
  rw [show (3 : Int32) + nI r = nI (3 + r) from nI_add 3 r]
  obtain ⟨N, hN⟩ : ∃ N, N = 3 + r := ⟨_, rfl⟩
  rw [← hN]
  have hN3 : 3 ≤ N ∧ N ≤ 5 := by omega
  have hN2 : 2 ≤ N := by omega
  refine ⟨fun k is n s => ∃ m : Nat, m ≤ N ∧ n = nI m ∧ k = nI (1 + 3 * m) ∧ is = 1 ∧ Start m s, fun _ _ n _ => ((N : Int) - n.toInt).toNat, ?_, ⟨0, Nat.zero_le _, rfl, rfl, rfl, h0⟩, ?_⟩
  · show ((N : Int) - (0 : Int32).toInt).toNat ≤ 5
    omega
  rintro _ _ _ s ⟨m, hm, rfl, rfl, rfl, hS⟩
  refine ⟨fun q => ?_, fun q => ?_⟩
  · have hmN : m = N := le_end q hm (by omega)
    subst hmN
    refine ⟨fun k is M J S n s => ∃ n' M' J' S' : Nat, n' ≤ 34 ∧ n = nI n' ∧ k = nI (1 + 3 * m + 4 * n') ∧ is = 1 ∧ M = nI M' ∧ J = nI J' ∧ S = nI S' ∧ Inv m M' J' S' n' s, fun _ _ _ _ _ n _ => (((34 : Nat) : Int) - n.toInt).toNat, ?_, ⟨0, 0, 0, 0, by decide, rfl, rfl, rfl, rfl, rfl, rfl, hS.inv⟩, ?_⟩
    · show (((34 : Nat) : Int) - (0 : Int32).toInt).toNat ≤ 34
      omega
    rintro _ _ _ _ _ _ s ⟨n, M, J, S, hn, rfl, rfl, rfl, rfl, rfl, rfl, hI⟩
    refine ⟨fun _ => ⟨fun z => absurd z (by decide), fun _ => s_isThrown hN2 hI (fun τ => ⟨fun z => absurd z (by decide), fun _ => rfl⟩)⟩, fun q2 => ⟨fun z => absurd z (by decide), fun _ => ?_⟩⟩
    have hlt : n < 34 := lt_of_nle (a := 34) q2 (by decide) (by omega)
    have hmu := mu_n hlt (by decide)
    obtain ⟨K, hK⟩ : ∃ K, K = 1 + 3 * m + 4 * n := ⟨_, rfl⟩
    rw [← hK]
    have hM9 : M ≤ 9 := hI.1.2.2.2.1
    have hJ12 : J ≤ 12 := hI.2.1.2.1
    have hS5 : S ≤ 5 := hI.2.2.1.2.1
    have hIL := hI.later (show n + 1 ≤ 34 by omega)
    rw [show nI K + 1 = nI (K + 1) from nI_1 K, show nI K + 2 = nI (K + 2) from nI_add K 2, show nI K + 3 = nI (K + 3) from nI_add K 3, show nI K + 4 = nI (K + 4) from nI_add K 4]
    refine s_pick (d := 8) hL (by omega) (by decide) (fun a ha => s_pick (d := 8) hL (by omega) (by decide) (fun b hb => s_pick (d := 9) hL (by omega) (by decide) (fun c hc => ?_)))
    intro J19 hJ19
    -- behind a call: the checks
    have good : ∀ M' J' S' τ, Inv m M' J' S' (n + 1) τ → J19 1 (nI M') (nI J') (nI S') τ := by
      intro M' J' S' τ hI'
      refine hJ19 _ _ _ _ _ ?_
      intro J142 hJ
      refine ⟨fun z => absurd z (by decide), fun _ => s_isFrame hI'.1 hN2 hI'.2.2.2.2.1 (fun τ1 hK1 hf1 hO1 => ?_)⟩
      have hI1 := hI'.frame hK1 hO1
      refine ⟨fun z => absurd z (by decide), fun _ => s_areJoints hI1.1 hI1.2.1 ⟨fun z => absurd z (by decide), fun _ => s_isYard hI1.1 hI1.2.1 hI1.2.2.1 hI1.2.2.2.2.2.1 (fun τ2 hK2 hf2 hO2 hC2 => ?_)⟩⟩
      have hI2 := hI1.yard hK2 hO2 hC2
      refine ⟨fun z => absurd z (by decide), fun _ => s_isRaising hI2.1 hI2.2.1 hI2.2.2.2.1 hI2.2.2.2.2.2.2 (fun τ3 hK3 hf3 hO3 => ?_)⟩
      have hI3 := hI2.raise hK3 hO3
      refine ⟨fun z => absurd z (by decide), fun _ => s_isSound hN2 hI3 (fun τ4 hI4 => ⟨fun z => absurd z (by decide), fun _ => hJ 1 τ4 ⟨⟨n + 1, M', J', S', by omega, nI_1 n, ?_, rfl, rfl, rfl, rfl, hI4⟩, hmu⟩⟩)⟩
      rw [show K + 4 = 1 + 3 * m + 4 * (n + 1) by omega]
    have m0 : ¬ nI m = 0 := nI_ne0 (by omega) (by omega)
    have ram : iRem (nI a) (nI m) = nI (a % m) := rem_nI (by omega) (by omega) (by omega)
    have rbm : iRem (nI b) (nI m) = nI (b % m) := rem_nI (by omega) (by omega) (by omega)
    have am : a % m < m := Nat.mod_lt _ (by omega)
    have bm : b % m < m := Nat.mod_lt _ (by omega)
    have rb4 : iRem (nI b) 4 = nI (b % 4) := rem_nI (d := 4) (by omega) (by decide) (by decide)
    have ra4 : iRem (nI a) 4 = nI (a % 4) := rem_nI (d := 4) (by omega) (by decide) (by decide)
    have b4 : b % 4 < 4 := Nat.mod_lt _ (by decide)
    have a4 : a % 4 < 4 := Nat.mod_lt _ (by decide)
    refine ⟨fun _ => ⟨m0, m0, ?_⟩, fun _ => ⟨m0, ?_⟩, fun _ => ?_, fun _ => ?_, fun _ => ?_, fun _ => ?_⟩
    · -- a member
      have e6 : (6 : Int32) + (2 * nI a) = nI (6 + 2 * a) := by
        show nI 6 + nI 2 * nI a = _
        rw [pk_mul, nI_add]
      rw [ram, rbm, rb4, e6]
      refine c_member hI am bm (by omega) (by omega) (fun e => ?_) (fun _ hM => ?_) (fun _ hM τ hI' => ?_)
      · intro J64 hJ64
        have j1 : J64 1 := by
          refine hJ64 1 ?_
          rintro _ rfl
          intro J77 hJ77
          refine ⟨fun _ => hJ77 0 ?_, fun z => absurd (by decide) z⟩
          rintro _ rfl
          rw [and11, show nI M + 0 = nI M from nI_add M 0]
          exact good M J S s hIL
        refine ⟨fun _ => j1, fun _ => ⟨fun _ => ⟨fun z => absurd rfl z, fun _ => ⟨m0, m0, fun z => absurd (by rw [e]) z, fun _ => j1⟩⟩, fun z => absurd z (by decide)⟩⟩
      · intro J64 hJ64
        have j1 : J64 1 := by
          refine hJ64 1 ?_
          rintro _ rfl
          intro J77 hJ77
          refine ⟨fun _ => hJ77 0 ?_, fun z => absurd (by decide) z⟩
          rintro _ rfl
          rw [and11, show nI M + 0 = nI M from nI_add M 0]
          exact good M J S s hIL
        exact ⟨fun _ => j1, fun _ => ⟨fun z => absurd rfl z, fun _ => ⟨fun _ => j1, fun z => absurd (by rw [hM]; rfl) z⟩⟩⟩
      · intro J64 hJ64
        have j1 : J64 1 := by
          refine hJ64 1 ?_
          rintro _ rfl
          intro J77 hJ77
          refine ⟨fun z => absurd z (nI_pos (by omega)), fun _ => hJ77 1 ?_⟩
          rintro _ rfl
          rw [and11, nI_1]
          exact good (M + 1) J S τ (hI'.later (by omega))
        exact ⟨fun _ => j1, fun z => absurd rfl z⟩
    · -- a load
      rw [ram]
      have t9 : ((9 * nI b) - 30 : Int32).toInt = (9 * b : Nat) - (30 : Nat) := by
        show (nI 9 * nI b - nI 30).toInt = _
        rw [pk_mul, pk_sub_toInt (by omega) (by decide)]
      have t7 : ((7 * nI a) - 20 : Int32).toInt = (7 * a : Nat) - (20 : Nat) := by
        show (nI 7 * nI a - nI 20).toInt = _
        rw [pk_mul, pk_sub_toInt (by omega) (by decide)]
      refine c_load hI (by omega) am (by rw [t9]; omega) (by rw [t7]; omega) (fun v τ hv hI' => ?_)
      intro J83 hJ83
      refine ⟨fun z => absurd z hv, fun _ => hJ83 1 ?_⟩
      rintro _ rfl
      rw [and11]
      exact good M J S τ hI'
    · -- a joint
      intro J101 hJ101
      have neg : ∀ v : Int32, v < 0 → J101 v s := fun v hv => by
        refine hJ101 v s ?_
        intro J109 hJ109
        have j1 : J109 1 := by
          refine hJ109 1 ?_
          rintro _ rfl
          intro J113 hJ113
          refine ⟨fun _ => hJ113 0 ?_, fun z => absurd hv z⟩
          rintro _ rfl
          rw [and11, show nI J + 0 = nI J from nI_add J 0]
          exact good M J S s hIL
        exact ⟨fun _ => j1, fun z => absurd hv z⟩
      refine ⟨fun q3 => ?_, fun _ => neg _ (by decide)⟩
      have hM2 : 2 ≤ M := (nI_le2 (a := 2) (by decide) (by omega)).mp q3
      have M0 : ¬ nI M = 0 := nI_ne0 (by omega) (by omega)
      refine ⟨M0, M0, s_pick (d := 5) hL (by omega) (by decide) (fun w hw => s_charAt28 hw (fun ch hch => ?_))⟩
      have raM : iRem (nI a) (nI M) = nI (a % M) := rem_nI (by omega) (by omega) (by omega)
      have rbM : iRem (nI b) (nI M) = nI (b % M) := rem_nI (by omega) (by omega) (by omega)
      have e2 : (2 : Int32) + nI b = nI (2 + b) := nI_add 2 b
      have e31 : (1 : Int32) + (iRem (4 * nI a) 31) = nI (1 + (4 * a) % 31) := by
        have : iRem (nI (4 * a)) (nI 31) = nI ((4 * a) % 31) := rem_nI (by omega) (by decide) (by decide)
        show nI 1 + iRem (nI 4 * nI a) (nI 31) = _
        rw [pk_mul, this, nI_add]
      rw [raM, rbM, e2, e31]
      have l31 : (4 * a) % 31 < 31 := Nat.mod_lt _ (by decide)
      refine c_joint hI (Nat.mod_lt _ (by omega)) (Nat.mod_lt _ (by omega)) hch (by omega) (by omega) neg (fun τ hI' => hJ101 _ τ ?_)
      intro J109 hJ109
      have j1 : J109 1 := by
        refine hJ109 1 ?_
        rintro _ rfl
        intro J113 hJ113
        refine ⟨fun z => absurd z (nI_pos (by omega)), fun _ => hJ113 1 ?_⟩
        rintro _ rfl
        rw [and11, nI_1]
        exact good M (J + 1) S τ (hI'.later (by omega))
      exact ⟨fun _ => j1, fun _ => ⟨fun z => absurd rfl z, fun _ => j1⟩⟩
    · -- a stick
      have e1 : (100 : Int32) + (100 * nI a) = nI (100 + 100 * a) := by
        show nI 100 + nI 100 * nI a = _
        rw [pk_mul, nI_add]
      have e2 : (10 : Int32) + (4 * nI b) = nI (10 + 4 * b) := by
        show nI 10 + nI 4 * nI b = _
        rw [pk_mul, nI_add]
      rw [e1, e2, rb4]
      refine c_stick hI (by omega) (by omega) (by omega) (fun hS => ?_) (fun τ hI' => ?_)
      · intro J118 hJ118
        have j1 : J118 1 := by
          refine hJ118 1 ?_
          rintro _ rfl
          intro J123 hJ123
          refine ⟨fun _ => hJ123 0 ?_, fun z => absurd (by decide) z⟩
          rintro _ rfl
          rw [and11, show nI S + 0 = nI S from nI_add S 0]
          exact good M J S s hIL
        exact ⟨fun _ => j1, fun _ => ⟨fun z => absurd rfl z, fun _ => ⟨fun z => absurd (by rw [hS]; rfl) z, fun _ => j1⟩⟩⟩
      · intro J118 hJ118
        have j1 : J118 1 := by
          refine hJ118 1 ?_
          rintro _ rfl
          intro J123 hJ123
          refine ⟨fun z => absurd z (nI_pos (by omega)), fun _ => hJ123 1 ?_⟩
          rintro _ rfl
          rw [and11, nI_1]
          exact good M J (S + 1) τ (hI'.later (by omega))
        exact ⟨fun _ => j1, fun z => absurd rfl z⟩
    · -- props
      rw [ra4]
      refine c_setProps hI (by omega) (fun l τ l9 hI' => ?_)
      intro J128 hJ128
      refine ⟨fun z => absurd z (nI_pos (by omega)), fun _ => hJ128 1 ?_⟩
      rintro _ rfl
      rw [and11]
      exact good M J S τ (hI'.later (by omega))
    · -- moistures
      intro J131 hJ131
      have j1 : ∀ τ, Inv m M J S n τ → J131 1 τ := fun τ hI' => by
        refine hJ131 1 τ ?_
        rintro _ rfl
        rw [and11]
        exact good M J S τ (hI'.later (by omega))
      refine ⟨fun _ => j1 s hI, fun q3 => ⟨q3, ?_⟩⟩
      have hM0 : 0 < M := by
        apply Nat.pos_of_ne_zero
        rintro rfl
        exact q3 rfl
      have raM : iRem (nI a) (nI M) = nI (a % M) := rem_nI (by omega) (by omega) (by omega)
      have rbM : iRem (nI b) (nI M) = nI (b % M) := rem_nI (by omega) (by omega) (by omega)
      have e1 : (20 : Int32) + (5 * nI b) = nI (20 + 5 * b) := by
        show nI 20 + nI 5 * nI b = _
        rw [pk_mul, nI_add]
      have e2 : (10 : Int32) + (3 * nI a) = nI (10 + 3 * a) := by
        show nI 10 + nI 3 * nI a = _
        rw [pk_mul, nI_add]
      rw [raM, rbM, e1, e2]
      exact c_cutAt hI (Nat.mod_lt _ hM0) (by omega) (fun v τ hv hI' => ⟨fun z => absurd z hv, fun _ => ⟨q3, c_dry hI' (Nat.mod_lt _ hM0) (by omega) (fun v2 τ2 hv2 hI2 => ⟨fun z => absurd z hv2, fun _ => j1 τ2 hI2⟩)⟩⟩)
  · have hlt : m < N := lt_of_nle q (by omega) (by omega)
    have hmu := mu_n hlt (by omega)
    obtain ⟨K, hK⟩ : ∃ K, K = 1 + 3 * m := ⟨_, rfl⟩
    rw [← hK]
    rw [show nI K + 1 = nI (K + 1) from nI_1 K, show nI K + 2 = nI (K + 2) from nI_add K 2, show nI K + 3 = nI (K + 3) from nI_add K 3]
    refine s_pick (d := 5) hL (by omega) (by decide) (fun x hx => s_pick (d := 12) hL (by omega) (by decide) (fun y hy => ?_))
    intro J160 hJ160
    have e5 : (5 * nI m) + nI x = nI (5 * m + x) := by
      show nI 5 * nI m + nI x = _
      rw [pk_mul, nI_add]
    have put : ∀ ch : Int32, (ch = 45 ∨ ch = 112 ∨ ch = 114) → (m = 0 → ch = 112) → (m = 1 → ch = 114) → J160 ch := fun ch h1 h2 h3 => by
      refine hJ160 ch ?_
      rw [e5]
      refine s_L_node hS (by omega) (by omega) hy h1 h2 h3 (fun τ hS' => ?_)
      intro J167 hJ167
      refine ⟨fun z => absurd rfl z, fun _ => hJ167 1 ?_⟩
      rintro _ rfl
      rw [and11]
      exact ⟨⟨m + 1, by omega, nI_1 m, by rw [show K + 3 = 1 + 3 * (m + 1) by omega], rfl, hS'⟩, hmu⟩
    refine ⟨fun q2 => ⟨fun q3 => ?_, fun q3 => ?_⟩, fun q2 => ?_⟩
    · refine s_pick (d := 3) hL (by omega) (by decide) (fun w hw => s_charAt27 hw (fun ch hch => put ch (by rcases hch with e | e; exact Or.inl e; exact Or.inr (Or.inl e)) (fun e => ?_) (fun e => ?_)))
      · subst e; exact absurd rfl q2
      · subst e; exact absurd rfl q3
    · have e : m = 1 := (nI_eq2 (b := 1) (by omega) (by decide)).mp q3
      exact put 114 (Or.inr (Or.inr rfl)) (fun e2 => by omega) (fun _ => rfl)
    · have e : m = 0 := (nI_eq2 (b := 0) (by omega) (by decide)).mp q2
      exact put 112 (Or.inr (Or.inl rfl)) (fun _ => rfl) (fun e2 => by omega)
