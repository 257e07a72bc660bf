def w_L_cell (L : Nat) (xs : Nat → Int32) (p1 : Int32) (σ : Sg) (Q : Int32 → Prop) : Prop :=
  ((Int32.ofNat L) ≤ p1 → Q (40503 * p1)) ∧ (¬ (Int32.ofNat L) ≤ p1 → vp_in p1 L ∧ Q (xs (ix p1)))

def w_L_pick (L : Nat) (xs : Nat → Int32) (p1 : Int32) (p2 : Int32) (σ : Sg) (Q : Int32 → Prop) : Prop :=
  w_L_cell L xs p1 σ (fun r1 => ¬ p2 = 0 ∧ Q (iRem (iUshr r1 1) p2))

def w_X6_isWithin (p0 : Int32) (p1 : Int32) (p2 : Int32) (σ : Sg) (Q : Int32 → Prop) : Prop :=
  (p0 < p1 → Q 0) ∧ (¬ p0 < p1 → (p2 < p0 → Q 0) ∧ (¬ p2 < p0 → Q 1))

def w_J0_isLatin1_aae02_S0 (σ : Sg) (Q : Int32 → Prop) : Prop :=
  Q 1

def w_J0_coder_7d493_S0 (σ : Sg) (Q : Int32 → Prop) : Prop :=
  Q 0

def w_J0_length_8abf5_S0 (σ : Sg) (Q : Int32 → Prop) : Prop :=
  Q 3

def w_J1_canEncode_9a6ad (p0 : Int32) (σ : Sg) (Q : Int32 → Prop) : Prop :=
  (p0 < 0 → Q 0) ∧ (¬ p0 < 0 → (255 < p0 → Q 0) ∧ (¬ 255 < p0 → Q 1))

def w_J1_indexOfChar_4cfef_V0_0_3 (p1 : Int32) (σ : Sg) (Q : Int32 → Prop) : Prop :=
  ∀ v1 : Int32, v1 = p1.toInt8.toInt32 → (¬ (45 : Int32) = v1 → (¬ (112 : Int32) = v1 → (¬ (114 : Int32) = v1 → Q (-1)) ∧ ((114 : Int32) = v1 → Q 2)) ∧ ((112 : Int32) = v1 → Q 1)) ∧ ((45 : Int32) = v1 → Q 0)

def w_J1_indexOf_4cfef_V0_0_3 (p1 : Int32) (σ : Sg) (Q : Int32 → Prop) : Prop :=
  w_J1_canEncode_9a6ad p1 σ (fun r1 => (¬ r1 = 0 → w_J1_indexOfChar_4cfef_V0_0_3 p1 σ (fun r3 => Q r3)) ∧ (r1 = 0 → Q (-1)))

def w_J0_indexOf_7cf53_S0_0 (p1 : Int32) (σ : Sg) (Q : Int32 → Prop) : Prop :=
  w_J1_indexOf_4cfef_V0_0_3 p1 σ (fun r3 => Q r3)

def w_J0_indexOf_0f7a4_S0 (p1 : Int32) (σ : Sg) (Q : Int32 → Prop) : Prop :=
  w_J0_indexOf_7cf53_S0_0 p1 σ (fun r1 => Q r1)

def w_X2_addNode (p1 : Int32) (p2 : Int32) (p3 : Int32) (σ : Sg) (Q : Int32 → Sg → Prop) : Prop :=
  ∀ v1 : Int32, v1 = gI σ 0 → vp_in ((2 * v1) + 0) 16 ∧ ∀ σ3 : Sg, σ3 = sA σ 0 (ix ((2 * v1) + 0)) p1 → vp_in ((2 * v1) + 1) 16 ∧ ∀ σ5 : Sg, σ5 = sA σ3 0 (ix ((2 * v1) + 1)) p2 → vp_in v1 8 ∧ ∀ σ7 : Sg, σ7 = sA σ5 3 (ix v1) (vp_nar .char p3) → ∀ σ8 : Sg, σ8 = sI σ7 0 (v1 + 1) → Q v1 σ8

def w_X6_node (p1 : Int32) (p2 : Int32) (p3 : Int32) (σ : Sg) (Q : Int32 → Sg → Prop) (X : String → Sg → Prop) : Prop :=
  w_X6_isWithin p1 0 30 σ (fun r1 => (r1 = 0 → X "java/lang/IllegalArgumentException" σ) ∧ (¬ r1 = 0 → w_X6_isWithin p2 0 30 σ (fun r3 => (r3 = 0 → X "java/lang/IllegalArgumentException" σ) ∧ (¬ r3 = 0 → w_J0_indexOf_0f7a4_S0 p3 σ (fun r5 => (0 ≤ r5 → ((gI σ 0) < 8 → ∀ σ8 : Sg, σ8 = sI σ 2 0 → w_X2_addNode p1 p2 p3 σ8 (fun r9 σ10 => Q r9 σ10)) ∧ (¬ (gI σ 0) < 8 → X "java/lang/IllegalStateException" σ)) ∧ (¬ 0 ≤ r5 → X "java/lang/IllegalArgumentException" σ))))))

def w_L_node (p1 : Int32) (p2 : Int32) (p3 : Int32) (σ : Sg) (Q : Int32 → Sg → Prop) : Prop :=
  w_X6_node p1 p2 p3 σ (fun r1 σ2 => Q r1 σ2) (fun E9 σ3 => (E9 = "java/lang/IllegalArgumentException" ∧ Q (-78) σ3) ∨ (E9 = "java/lang/IllegalStateException" ∧ Q (-79) σ3))

def w_X6_checkNode (p1 : Int32) (σ : Sg) (Q : Prop) (X : String → Sg → Prop) : Prop :=
  (p1 < 0 → X "java/lang/IndexOutOfBoundsException" σ) ∧ (¬ p1 < 0 → (p1 < (gI σ 0) → Q) ∧ (¬ p1 < (gI σ 0) → X "java/lang/IndexOutOfBoundsException" σ))

def w_X2_isOnePlace (p1 : Int32) (p2 : Int32) (σ : Sg) (Q : Int32 → Prop) : Prop :=
  vp_in ((2 * p1) + 0) 16 ∧ vp_in ((2 * p2) + 0) 16 ∧ (¬ (gA σ 0 (ix ((2 * p1) + 0))) = (gA σ 0 (ix ((2 * p2) + 0))) → Q 0) ∧ ((gA σ 0 (ix ((2 * p1) + 0))) = (gA σ 0 (ix ((2 * p2) + 0))) → vp_in ((2 * p1) + 1) 16 ∧ vp_in ((2 * p2) + 1) 16 ∧ (¬ (gA σ 0 (ix ((2 * p1) + 1))) = (gA σ 0 (ix ((2 * p2) + 1))) → Q 0) ∧ ((gA σ 0 (ix ((2 * p1) + 1))) = (gA σ 0 (ix ((2 * p2) + 1))) → Q 1))

def w_X6_isSection (p0 : Int32) (p1 : Int32) (σ : Sg) (Q : Int32 → Prop) : Prop :=
  w_X6_isWithin p0 6 40 σ (fun r1 => (r1 = 0 → Q 0) ∧ (¬ r1 = 0 → w_X6_isWithin p1 0 3 σ (fun r3 => (r3 = 0 → Q 0) ∧ (¬ r3 = 0 → Q 1))))

def w_X2_addMember (p1 : Int32) (p2 : Int32) (p3 : Int32) (p4 : Int32) (σ : Sg) (Q : Int32 → Sg → Prop) : Prop :=
  ∀ v1 : Int32, v1 = gI σ 1 → vp_in v1 9 ∧ ∀ σ3 : Sg, σ3 = sA σ 4 (ix v1) p1 → vp_in v1 9 ∧ ∀ σ5 : Sg, σ5 = sA σ3 5 (ix v1) p2 → vp_in v1 9 ∧ ∀ σ7 : Sg, σ7 = sA σ5 6 (ix v1) p3 → vp_in v1 9 ∧ ∀ σ9 : Sg, σ9 = sA σ7 7 (ix v1) p4 → vp_in v1 9 ∧ ∀ σ11 : Sg, σ11 = sA σ9 8 (ix v1) 30 → vp_in v1 9 ∧ ∀ σ13 : Sg, σ13 = sA σ11 9 (ix v1) 30 → ∀ σ14 : Sg, σ14 = sI σ13 1 (v1 + 1) → Q v1 σ14

def w_X6_member (p1 : Int32) (p2 : Int32) (p3 : Int32) (p4 : Int32) (σ : Sg) (Q : Int32 → Sg → Prop) (X : String → Sg → Prop) : Prop :=
  w_X6_checkNode p1 σ (w_X6_checkNode p2 σ (w_X2_isOnePlace p1 p2 σ (fun r3 => (¬ r3 = 0 → X "java/lang/IllegalArgumentException" σ) ∧ (r3 = 0 → w_X6_isSection p3 p4 σ (fun r5 => (¬ r5 = 0 → ((gI σ 1) < 9 → ∀ σ8 : Sg, σ8 = sI σ 2 0 → ∀ σ9 : Sg, σ9 = sI σ8 6 0 → ∀ σ10 : Sg, σ10 = sI σ9 10 0 → w_X2_addMember p1 p2 p3 p4 σ10 (fun r11 σ12 => Q r11 σ12)) ∧ (¬ (gI σ 1) < 9 → X "java/lang/IllegalStateException" σ)) ∧ (r5 = 0 → X "java/lang/IllegalArgumentException" σ))))) X) X

def w_L_member (p1 : Int32) (p2 : Int32) (p3 : Int32) (p4 : Int32) (σ : Sg) (Q : Int32 → Sg → Prop) : Prop :=
  w_X6_member p1 p2 p3 p4 σ (fun r1 σ2 => Q r1 σ2) (fun E9 σ3 => (E9 = "java/lang/IndexOutOfBoundsException" ∧ Q (-77) σ3) ∨ (E9 = "java/lang/IllegalArgumentException" ∧ Q (-78) σ3) ∨ (E9 = "java/lang/IllegalStateException" ∧ Q (-79) σ3))

def w_X2_addLoad (p1 : Int32) (p2 : Int32) (p3 : Int32) (σ : Sg) (Q : Int32 → Sg → Prop) : Prop :=
  vp_in ((2 * p1) + 0) 16 ∧ vp_in ((2 * p1) + 0) 16 ∧ ∀ σ3 : Sg, σ3 = sA σ 1 (ix ((2 * p1) + 0)) ((gA σ 1 (ix ((2 * p1) + 0))) + p2) → vp_in ((2 * p1) + 1) 16 ∧ vp_in ((2 * p1) + 1) 16 ∧ ∀ σ6 : Sg, σ6 = sA σ3 1 (ix ((2 * p1) + 1)) ((gA σ3 1 (ix ((2 * p1) + 1))) + p3) → vp_in p1 8 ∧ vp_in p1 8 ∧ ∀ σ9 : Sg, σ9 = sA σ6 2 (ix p1) ((gA σ6 2 (ix p1)) + 1) → vp_in p1 8 ∧ Q (gA σ9 2 (ix p1)) σ9

def w_X6_load (p1 : Int32) (p2 : Int32) (p3 : Int32) (σ : Sg) (Q : Int32 → Sg → Prop) (X : String → Sg → Prop) : Prop :=
  w_X6_checkNode p1 σ (w_X6_isWithin p2 (-999) 999 σ (fun r2 => (r2 = 0 → X "java/lang/IllegalArgumentException" σ) ∧ (¬ r2 = 0 → w_X6_isWithin p3 (-999) 999 σ (fun r4 => (¬ r4 = 0 → ∀ σ6 : Sg, σ6 = sI σ 2 0 → w_X2_addLoad p1 p2 p3 σ6 (fun r7 σ8 => Q r7 σ8)) ∧ (r4 = 0 → X "java/lang/IllegalArgumentException" σ))))) X

def w_L_load (p1 : Int32) (p2 : Int32) (p3 : Int32) (σ : Sg) (Q : Int32 → Sg → Prop) : Prop :=
  w_X6_load p1 p2 p3 σ (fun r1 σ2 => Q r1 σ2) (fun E9 σ3 => (E9 = "java/lang/IndexOutOfBoundsException" ∧ Q (-77) σ3) ∨ (E9 = "java/lang/IllegalArgumentException" ∧ Q (-78) σ3))

def w_X6_checkMember (p1 : Int32) (σ : Sg) (Q : Prop) (X : String → Sg → Prop) : Prop :=
  (p1 < 0 → X "java/lang/IndexOutOfBoundsException" σ) ∧ (¬ p1 < 0 → (p1 < (gI σ 1) → Q) ∧ (¬ p1 < (gI σ 1) → X "java/lang/IndexOutOfBoundsException" σ))

def w_X2_isBorne (p1 : Int32) (p2 : Int32) (σ : Sg) (Q : Int32 → Prop) : Prop :=
  vp_in p1 8 ∧ ((gA σ 3 (ix p1)) = 112 → Q 1) ∧ (¬ (gA σ 3 (ix p1)) = 112 → vp_in p1 8 ∧ (¬ (gA σ 3 (ix p1)) = 114 → Q 0) ∧ ((gA σ 3 (ix p1)) = 114 → (¬ p2 = 1 → Q 0) ∧ (p2 = 1 → Q 1)))

def w_X2_otherEnd (p1 : Int32) (p2 : Int32) (σ : Sg) (Q : Int32 → Prop) : Prop :=
  vp_in p1 9 ∧ (¬ (gA σ 4 (ix p1)) = p2 → vp_in p1 9 ∧ (¬ (gA σ 5 (ix p1)) = p2 → Q (-1)) ∧ ((gA σ 5 (ix p1)) = p2 → vp_in p1 9 ∧ Q (gA σ 4 (ix p1)))) ∧ ((gA σ 4 (ix p1)) = p2 → vp_in p1 9 ∧ Q (gA σ 5 (ix p1)))

def w_X2_wayAlong (p1 : Int32) (p2 : Int32) (p3 : Int32) (σ : Sg) (Q : Int32 → Prop) : Prop :=
  w_X2_otherEnd p1 p2 σ (fun r1 => (0 ≤ r1 → vp_in ((2 * r1) + p3) 16 ∧ vp_in ((2 * p2) + p3) 16 ∧ Q ((gA σ 0 (ix ((2 * r1) + p3))) - (gA σ 0 (ix ((2 * p2) + p3))))) ∧ (¬ 0 ≤ r1 → Q 0))

def w_X1_fillRows (σ : Sg) (Q : Sg → Prop) : Prop :=
  ∃ (I1 : Int32 → Int32 → Sg → Prop) (μ1 : Int32 → Int32 → Sg → Nat), I1 0 0 σ ∧ ∀ (i2_1 : Int32) (i3_1 : Int32) (σ1 : Sg), I1 i2_1 i3_1 σ1 → ((2 * (gI σ1 0)) ≤ i3_1 → Q σ1) ∧ (¬ (2 * (gI σ1 0)) ≤ i3_1 → (9 ≤ i2_1 → Q σ1) ∧ (¬ 9 ≤ i2_1 → ∀ v4 : Int32, v4 = i3_1 / 2 → ∀ v5 : Int32, v5 = iRem i3_1 2 → w_X2_isBorne v4 v5 σ1 (fun r6 => (r6 = 0 → ∃ (I8 : Int32 → Sg → Prop) (μ8 : Int32 → Sg → Nat), I8 0 σ1 ∧ ∀ (i6_8 : Int32) (σ8 : Sg), I8 i6_8 σ8 → ((gI σ8 1) ≤ i6_8 → vp_in i3_1 16 ∧ vp_in i2_1 9 ∧ ∀ σ12 : Sg, σ12 = sA σ8 11 (ix i2_1) (iShr (-(gA σ8 1 (ix i3_1))) 8) → vp_in i3_1 16 ∧ vp_in i2_1 9 ∧ ∀ σ15 : Sg, σ15 = sA σ12 12 (ix i2_1) ((-(gA σ12 1 (ix i3_1))) &&& 255) → I1 (i2_1 + 1) (i3_1 + 1) σ15 ∧ μ1 (i2_1 + 1) (i3_1 + 1) σ15 < μ1 i2_1 i3_1 σ1) ∧ (¬ (gI σ8 1) ≤ i6_8 → w_X2_wayAlong i6_8 v4 v5 σ8 (fun r16 => vp_in ((i2_1 * 9) + i6_8) 81 ∧ ∀ σ18 : Sg, σ18 = sA σ8 10 (ix ((i2_1 * 9) + i6_8)) r16 → I8 (i6_8 + 1) σ18 ∧ μ8 (i6_8 + 1) σ18 < μ8 i6_8 σ8))) ∧ (¬ r6 = 0 → I1 i2_1 (i3_1 + 1) σ1 ∧ μ1 i2_1 (i3_1 + 1) σ1 < μ1 i2_1 i3_1 σ1))))

def w_J6_bitCount_0f7a4 (p0 : Int32) (σ : Sg) (Q : Int32 → Prop) : Prop :=
  ∀ v1 : Int32, v1 = p0 - ((iUshr p0 1) &&& 1431655765) → ∀ v2 : Int32, v2 = (v1 &&& 858993459) + ((iUshr v1 2) &&& 858993459) → ∀ v3 : Int32, v3 = (v2 + (iUshr v2 4)) &&& 252645135 → ∀ v4 : Int32, v4 = v3 + (iUshr v3 8) → ∀ v5 : Int32, v5 = v4 + (iUshr v4 16) → Q (v5 &&& 63)

def w_X1_expanded_19 (p2 : Int32) (p3 : Int32) (σ : Sg) (Q : Int64 → Prop) : Prop :=
  ∃ (I1 : Int64 → Int64 → Int32 → Prop) (μ1 : Int64 → Int64 → Int32 → Nat), I1 0 1 8 ∧ ∀ (i4_1 : Int64) (i6_1 : Int64) (i8_1 : Int32), I1 i4_1 i6_1 i8_1 → (i8_1 < 0 → Q i4_1) ∧ (¬ i8_1 < 0 → (((iShr p2 i8_1) &&& 1) = 0 → I1 i4_1 i6_1 (i8_1 + (-1)) ∧ μ1 i4_1 i6_1 (i8_1 + (-1)) < μ1 i4_1 i6_1 i8_1) ∧ (¬ ((iShr p2 i8_1) &&& 1) = 0 → vp_in ((p3 * 9) + i8_1) 81 ∧ vp_in (p2 ^^^ (iShl 1 i8_1)) 512 ∧ ∀ v6 : Int64, v6 = i4_1 + ((i6_1 * ((gA σ 10 (ix ((p3 * 9) + i8_1))).toInt64)) * (gB σ 3 (ix (p2 ^^^ (iShl 1 i8_1))))) → ∀ v7 : Int64, v7 = -i6_1 → I1 v6 v7 (i8_1 + (-1)) ∧ μ1 v6 v7 (i8_1 + (-1)) < μ1 i4_1 i6_1 i8_1))

def w_X1_expanded_20 (p2 : Int32) (p3 : Int32) (σ : Sg) (Q : Int64 → Prop) : Prop :=
  ∃ (I1 : Int64 → Int64 → Int32 → Prop) (μ1 : Int64 → Int64 → Int32 → Nat), I1 0 1 8 ∧ ∀ (i4_1 : Int64) (i6_1 : Int64) (i8_1 : Int32), I1 i4_1 i6_1 i8_1 → (i8_1 < 0 → Q i4_1) ∧ (¬ i8_1 < 0 → (((iShr p2 i8_1) &&& 1) = 0 → I1 i4_1 i6_1 (i8_1 + (-1)) ∧ μ1 i4_1 i6_1 (i8_1 + (-1)) < μ1 i4_1 i6_1 i8_1) ∧ (¬ ((iShr p2 i8_1) &&& 1) = 0 → vp_in ((p3 * 9) + i8_1) 81 ∧ vp_in (p2 ^^^ (iShl 1 i8_1)) 512 ∧ ∀ v6 : Int64, v6 = i4_1 + ((i6_1 * ((gA σ 10 (ix ((p3 * 9) + i8_1))).toInt64)) * (gB σ 4 (ix (p2 ^^^ (iShl 1 i8_1))))) → ∀ v7 : Int64, v7 = -i6_1 → I1 v6 v7 (i8_1 + (-1)) ∧ μ1 v6 v7 (i8_1 + (-1)) < μ1 i4_1 i6_1 i8_1))

def w_X1_expanded_21 (p2 : Int32) (p3 : Int32) (σ : Sg) (Q : Int64 → Prop) : Prop :=
  ∃ (I1 : Int64 → Int64 → Int32 → Prop) (μ1 : Int64 → Int64 → Int32 → Nat), I1 0 1 8 ∧ ∀ (i4_1 : Int64) (i6_1 : Int64) (i8_1 : Int32), I1 i4_1 i6_1 i8_1 → (i8_1 < 0 → Q i4_1) ∧ (¬ i8_1 < 0 → (((iShr p2 i8_1) &&& 1) = 0 → I1 i4_1 i6_1 (i8_1 + (-1)) ∧ μ1 i4_1 i6_1 (i8_1 + (-1)) < μ1 i4_1 i6_1 i8_1) ∧ (¬ ((iShr p2 i8_1) &&& 1) = 0 → vp_in ((p3 * 9) + i8_1) 81 ∧ vp_in (p2 ^^^ (iShl 1 i8_1)) 512 ∧ ∀ v6 : Int64, v6 = i4_1 + ((i6_1 * ((gA σ 10 (ix ((p3 * 9) + i8_1))).toInt64)) * (gB σ 5 (ix (p2 ^^^ (iShl 1 i8_1))))) → ∀ v7 : Int64, v7 = -i6_1 → I1 v6 v7 (i8_1 + (-1)) ∧ μ1 v6 v7 (i8_1 + (-1)) < μ1 i4_1 i6_1 i8_1))

def w_X1_findDeterminants (p1 : Int32) (σ : Sg) (Q : Sg → Prop) : Prop :=
  ∃ (I1 : Int32 → Sg → Prop) (μ1 : Int32 → Sg → Nat), I1 0 σ ∧ ∀ (i2_1 : Int32) (σ1 : Sg), I1 i2_1 σ1 → ((iShl 1 p1) ≤ i2_1 → Q σ1) ∧ (¬ (iShl 1 p1) ≤ i2_1 → w_J6_bitCount_0f7a4 i2_1 σ1 (fun r3 => (¬ i2_1 = 0 → w_X1_expanded_19 i2_1 (r3 - 1) σ1 (fun r5 => vp_in i2_1 512 ∧ ∀ σ7 : Sg, σ7 = sB σ1 3 (ix i2_1) r5 → (p1 ≤ r3 → I1 (i2_1 + 1) σ7 ∧ μ1 (i2_1 + 1) σ7 < μ1 i2_1 σ1) ∧ (¬ p1 ≤ r3 → vp_in r3 9 ∧ vp_in i2_1 512 ∧ w_X1_expanded_20 i2_1 r3 σ7 (fun r11 => vp_in i2_1 512 ∧ ∀ σ13 : Sg, σ13 = sB σ7 4 (ix i2_1) ((((gA σ7 11 (ix r3)).toInt64) * (gB σ7 3 (ix i2_1))) - r11) → vp_in r3 9 ∧ vp_in i2_1 512 ∧ w_X1_expanded_21 i2_1 r3 σ13 (fun r16 => vp_in i2_1 512 ∧ ∀ σ18 : Sg, σ18 = sB σ13 5 (ix i2_1) ((((gA σ13 12 (ix r3)).toInt64) * (gB σ13 3 (ix i2_1))) - r16) → I1 (i2_1 + 1) σ18 ∧ μ1 (i2_1 + 1) σ18 < μ1 i2_1 σ1))))) ∧ (i2_1 = 0 → vp_in i2_1 512 ∧ ∀ σ20 : Sg, σ20 = sB σ1 3 (ix i2_1) 1 → (p1 ≤ r3 → I1 (i2_1 + 1) σ20 ∧ μ1 (i2_1 + 1) σ20 < μ1 i2_1 σ1) ∧ (¬ p1 ≤ r3 → vp_in r3 9 ∧ vp_in i2_1 512 ∧ w_X1_expanded_20 i2_1 r3 σ20 (fun r24 => vp_in i2_1 512 ∧ ∀ σ26 : Sg, σ26 = sB σ20 4 (ix i2_1) ((((gA σ20 11 (ix r3)).toInt64) * (gB σ20 3 (ix i2_1))) - r24) → vp_in r3 9 ∧ vp_in i2_1 512 ∧ w_X1_expanded_21 i2_1 r3 σ26 (fun r29 => vp_in i2_1 512 ∧ ∀ σ31 : Sg, σ31 = sB σ26 5 (ix i2_1) ((((gA σ26 12 (ix r3)).toInt64) * (gB σ26 3 (ix i2_1))) - r29) → I1 (i2_1 + 1) σ31 ∧ μ1 (i2_1 + 1) σ31 < μ1 i2_1 σ1))))))

def w_J9_floorDiv_f86c9 (p0 : Int64) (p1 : Int64) (σ : Sg) (Q : Int64 → Prop) : Prop :=
  ¬ p1 = 0 ∧ ∀ v2 : Int64, v2 = p0 / p1 → (0 ≤ (p0 ^^^ p1) → Q v2) ∧ (¬ 0 ≤ (p0 ^^^ p1) → ((v2 * p1) = p0 → Q v2) ∧ (¬ (v2 * p1) = p0 → Q (v2 - 1)))

def w_J9_floorMod_f86c9 (p0 : Int64) (p1 : Int64) (σ : Sg) (Q : Int64 → Prop) : Prop :=
  ¬ p1 = 0 ∧ ∀ v2 : Int64, v2 = lRem p0 p1 → (0 ≤ (p0 ^^^ p1) → Q v2) ∧ (¬ 0 ≤ (p0 ^^^ p1) → (v2 = 0 → Q v2) ∧ (¬ v2 = 0 → Q (v2 + p1)))

def w_X1_carry (p1 : Int32) (σ : Sg) (Q : Sg → Prop) : Prop :=
  ((gL σ 0) ≤ 0 → Q σ) ∧ (¬ (gL σ 0) ≤ 0 → vp_in p1 25 ∧ vp_in p1 25 ∧ w_J9_floorDiv_f86c9 (gB σ 1 (ix p1)) (gL σ 0) σ (fun r4 => vp_in p1 25 ∧ ∀ σ6 : Sg, σ6 = sB σ 0 (ix p1) ((gB σ 0 (ix p1)) + r4) → vp_in p1 25 ∧ w_J9_floorMod_f86c9 (gB σ6 1 (ix p1)) (gL σ6 0) σ6 (fun r8 => vp_in p1 25 ∧ ∀ σ10 : Sg, σ10 = sB σ6 1 (ix p1) r8 → Q σ10)))

def w_X1_setPull (p1 : Int32) (p2 : Int32) (p3 : Int32) (σ : Sg) (Q : Sg → Prop) : Prop :=
  vp_in (p2 ^^^ (iShl 1 p1)) 512 ∧ ∀ v2 : Int64, v2 = p3.toInt64 * (gB σ 4 (ix (p2 ^^^ (iShl 1 p1)))) → vp_in (p2 ^^^ (iShl 1 p1)) 512 ∧ ∀ v4 : Int64, v4 = p3.toInt64 * (gB σ 5 (ix (p2 ^^^ (iShl 1 p1)))) → ((gL σ 0) ≤ 0 → Q σ) ∧ (¬ (gL σ 0) ≤ 0 → w_J9_floorDiv_f86c9 v2 (gL σ 0) σ (fun r6 => vp_in p1 25 ∧ ∀ σ8 : Sg, σ8 = sB σ 0 (ix p1) (256 * r6) → w_J9_floorMod_f86c9 v2 (gL σ8 0) σ8 (fun r9 => vp_in p1 25 ∧ ∀ σ11 : Sg, σ11 = sB σ8 1 (ix p1) ((256 * r9) + v4) → w_X1_carry p1 σ11 (fun σ13 => Q σ13))))

def w_X1_findPulls (σ : Sg) (Q : Int32 → Sg → Prop) : Prop :=
  ∃ (I1 : Int32 → Int32 → Prop) (μ1 : Int32 → Int32 → Nat), I1 0 0 ∧ ∀ (i2_1 : Int32) (i3_1 : Int32), I1 i2_1 i3_1 → ((gI σ 0) ≤ i3_1 → ((gI σ 1) = i2_1 → w_X1_fillRows σ (fun σ5 => w_X1_findDeterminants i2_1 σ5 (fun σ7 => vp_in ((iShl 1 i2_1) - 1) 512 ∧ ∀ v9 : Int64, v9 = gB σ7 3 (ix ((iShl 1 i2_1) - 1)) → (¬ v9 = 0 → ∀ σ11 : Sg, σ11 = sL σ7 0 (mabsl v9) → ∃ (I12 : Int32 → Sg → Prop) (μ12 : Int32 → Sg → Nat), I12 0 σ11 ∧ ∀ (i5_12 : Int32) (σ12 : Sg), I12 i5_12 σ12 → (i2_1 ≤ i5_12 → Q 46 σ12) ∧ (¬ i2_1 ≤ i5_12 → ((iRem ((i2_1 - 1) - i5_12) 2) = 0 → (v9 ≤ 0 → w_X1_setPull i5_12 ((iShl 1 i2_1) - 1) (-1) σ12 (fun σ17 => I12 (i5_12 + 1) σ17 ∧ μ12 (i5_12 + 1) σ17 < μ12 i5_12 σ12)) ∧ (¬ v9 ≤ 0 → w_X1_setPull i5_12 ((iShl 1 i2_1) - 1) 1 σ12 (fun σ19 => I12 (i5_12 + 1) σ19 ∧ μ12 (i5_12 + 1) σ19 < μ12 i5_12 σ12))) ∧ (¬ (iRem ((i2_1 - 1) - i5_12) 2) = 0 → (v9 ≤ 0 → w_X1_setPull i5_12 ((iShl 1 i2_1) - 1) 1 σ12 (fun σ22 => I12 (i5_12 + 1) σ22 ∧ μ12 (i5_12 + 1) σ22 < μ12 i5_12 σ12)) ∧ (¬ v9 ≤ 0 → w_X1_setPull i5_12 ((iShl 1 i2_1) - 1) (-1) σ12 (fun σ24 => I12 (i5_12 + 1) σ24 ∧ μ12 (i5_12 + 1) σ24 < μ12 i5_12 σ12))))) ∧ (v9 = 0 → Q 99 σ7)))) ∧ (¬ (gI σ 1) = i2_1 → (i2_1 ≤ (gI σ 1) → Q 116 σ) ∧ (¬ i2_1 ≤ (gI σ 1) → Q 108 σ))) ∧ (¬ (gI σ 0) ≤ i3_1 → w_X2_isBorne i3_1 0 σ (fun r26 => (r26 = 0 → ∀ v28 : Int32, v28 = i2_1 + 1 → w_X2_isBorne i3_1 1 σ (fun r29 => (r29 = 0 → ∀ v31 : Int32, v31 = v28 + 1 → I1 v31 (i3_1 + 1) ∧ μ1 v31 (i3_1 + 1) < μ1 i2_1 i3_1) ∧ (¬ r29 = 0 → ∀ v32 : Int32, v32 = v28 + 0 → I1 v32 (i3_1 + 1) ∧ μ1 v32 (i3_1 + 1) < μ1 i2_1 i3_1))) ∧ (¬ r26 = 0 → ∀ v33 : Int32, v33 = i2_1 + 0 → w_X2_isBorne i3_1 1 σ (fun r34 => (r34 = 0 → ∀ v36 : Int32, v36 = v33 + 1 → I1 v36 (i3_1 + 1) ∧ μ1 v36 (i3_1 + 1) < μ1 i2_1 i3_1) ∧ (¬ r34 = 0 → ∀ v37 : Int32, v37 = v33 + 0 → I1 v37 (i3_1 + 1) ∧ μ1 v37 (i3_1 + 1) < μ1 i2_1 i3_1)))))

def w_X1_findBearings (σ : Sg) (Q : Sg → Prop) : Prop :=
  ∃ (I1 : Int32 → Sg → Prop) (μ1 : Int32 → Sg → Nat), I1 0 σ ∧ ∀ (i2_1 : Int32) (σ1 : Sg), I1 i2_1 σ1 → ((2 * (gI σ1 0)) ≤ i2_1 → Q σ1) ∧ (¬ (2 * (gI σ1 0)) ≤ i2_1 → ∀ v3 : Int32, v3 = 9 + i2_1 → vp_in v3 25 ∧ ∀ σ5 : Sg, σ5 = sB σ1 0 (ix v3) 0 → vp_in v3 25 ∧ ∀ σ7 : Sg, σ7 = sB σ5 1 (ix v3) 0 → w_X2_isBorne (i2_1 / 2) (iRem i2_1 2) σ7 (fun r8 => (¬ r8 = 0 → vp_in i2_1 16 ∧ vp_in v3 25 ∧ ∀ σ12 : Sg, σ12 = sB σ7 0 (ix v3) ((-(gA σ7 1 (ix i2_1))).toInt64) → ∃ (I13 : Int32 → Sg → Prop) (μ13 : Int32 → Sg → Nat), I13 0 σ12 ∧ ∀ (i4_13 : Int32) (σ13 : Sg), I13 i4_13 σ13 → ((gI σ13 1) ≤ i4_13 → w_X1_carry v3 σ13 (fun σ16 => I1 (i2_1 + 1) σ16 ∧ μ1 (i2_1 + 1) σ16 < μ1 i2_1 σ1)) ∧ (¬ (gI σ13 1) ≤ i4_13 → w_X2_wayAlong i4_13 (i2_1 / 2) (iRem i2_1 2) σ13 (fun r17 => vp_in v3 25 ∧ vp_in i4_13 25 ∧ vp_in v3 25 ∧ ∀ σ21 : Sg, σ21 = sB σ13 0 (ix v3) ((gB σ13 0 (ix v3)) - (r17.toInt64 * (gB σ13 0 (ix i4_13)))) → vp_in v3 25 ∧ vp_in i4_13 25 ∧ vp_in v3 25 ∧ ∀ σ25 : Sg, σ25 = sB σ21 1 (ix v3) ((gB σ21 1 (ix v3)) - (r17.toInt64 * (gB σ21 1 (ix i4_13)))) → I13 (i4_13 + 1) σ25 ∧ μ13 (i4_13 + 1) σ25 < μ13 i4_13 σ13))) ∧ (r8 = 0 → I1 (i2_1 + 1) σ7 ∧ μ1 (i2_1 + 1) σ7 < μ1 i2_1 σ1)))

def w_X5_set_24 (p1 : Int64) (σ : Sg) (Q : Sg → Prop) : Prop :=
  ∃ (I1 : Int32 → Sg → Prop) (μ1 : Int32 → Sg → Nat), I1 2 σ ∧ ∀ (i3_1 : Int32) (σ1 : Sg), I1 i3_1 σ1 → (8 ≤ i3_1 → ∀ σ3 : Sg, σ3 = sB σ1 7 (ix 0) (p1 &&& 4294967295) → ∀ σ4 : Sg, σ4 = sB σ3 7 (ix 1) (lUshr p1 32) → Q σ4) ∧ (¬ 8 ≤ i3_1 → vp_in i3_1 8 ∧ ∀ σ6 : Sg, σ6 = sB σ1 7 (ix i3_1) 0 → I1 (i3_1 + 1) σ6 ∧ μ1 (i3_1 + 1) σ6 < μ1 i3_1 σ1)

def w_X2_lengthSquare (p1 : Int32) (σ : Sg) (Q : Int32 → Prop) : Prop :=
  vp_in p1 9 ∧ ∀ v2 : Int32, v2 = 2 * (gA σ 4 (ix p1)) → vp_in p1 9 ∧ ∀ v4 : Int32, v4 = 2 * (gA σ 5 (ix p1)) → vp_in (v4 + 0) 16 ∧ vp_in (v2 + 0) 16 ∧ ∀ v7 : Int32, v7 = (gA σ 0 (ix (v4 + 0))) - (gA σ 0 (ix (v2 + 0))) → vp_in (v4 + 1) 16 ∧ vp_in (v2 + 1) 16 ∧ ∀ v10 : Int32, v10 = (gA σ 0 (ix (v4 + 1))) - (gA σ 0 (ix (v2 + 1))) → Q ((v7 * v7) + (v10 * v10))

def w_X5_set_22 (p1 : Int64) (σ : Sg) (Q : Sg → Prop) : Prop :=
  ∃ (I1 : Int32 → Sg → Prop) (μ1 : Int32 → Sg → Nat), I1 2 σ ∧ ∀ (i3_1 : Int32) (σ1 : Sg), I1 i3_1 σ1 → (8 ≤ i3_1 → ∀ σ3 : Sg, σ3 = sB σ1 6 (ix 0) (p1 &&& 4294967295) → ∀ σ4 : Sg, σ4 = sB σ3 6 (ix 1) (lUshr p1 32) → Q σ4) ∧ (¬ 8 ≤ i3_1 → vp_in i3_1 8 ∧ ∀ σ6 : Sg, σ6 = sB σ1 6 (ix i3_1) 0 → I1 (i3_1 + 1) σ6 ∧ μ1 (i3_1 + 1) σ6 < μ1 i3_1 σ1)

def w_X5_setProduct_26_22_24 (σ : Sg) (Q : Sg → Prop) : Prop :=
  ∃ (I1 : Int32 → Sg → Prop) (μ1 : Int32 → Sg → Nat), I1 0 σ ∧ ∀ (i3_1 : Int32) (σ1 : Sg), I1 i3_1 σ1 → (8 ≤ i3_1 → ∃ (I3 : Int32 → Sg → Prop) (μ3 : Int32 → Sg → Nat), I3 0 σ1 ∧ ∀ (i3_3 : Int32) (σ3 : Sg), I3 i3_3 σ3 → (8 ≤ i3_3 → Q σ3) ∧ (¬ 8 ≤ i3_3 → ∃ (I5 : Int64 → Int32 → Sg → Prop) (μ5 : Int64 → Int32 → Sg → Nat), I5 0 i3_3 σ3 ∧ ∀ (i4_5 : Int64) (i6_5 : Int32) (σ5 : Sg), I5 i4_5 i6_5 σ5 → (8 ≤ i6_5 → I3 (i3_3 + 1) σ5 ∧ μ3 (i3_3 + 1) σ5 < μ3 i3_3 σ3) ∧ (¬ 8 ≤ i6_5 → vp_in i3_3 8 ∧ vp_in (i6_5 - i3_3) 8 ∧ vp_in i6_5 8 ∧ ∀ v10 : Int64, v10 = i4_5 + (((gB σ5 6 (ix i3_3)) * (gB σ5 7 (ix (i6_5 - i3_3)))) + (gB σ5 8 (ix i6_5))) → vp_in i6_5 8 ∧ ∀ σ12 : Sg, σ12 = sB σ5 8 (ix i6_5) (v10 &&& 4294967295) → ∀ v13 : Int64, v13 = lUshr v10 32 → I5 v13 (i6_5 + 1) σ12 ∧ μ5 v13 (i6_5 + 1) σ12 < μ5 i4_5 i6_5 σ5))) ∧ (¬ 8 ≤ i3_1 → vp_in i3_1 8 ∧ ∀ σ15 : Sg, σ15 = sB σ1 8 (ix i3_1) 0 → I1 (i3_1 + 1) σ15 ∧ μ1 (i3_1 + 1) σ15 < μ1 i3_1 σ1)

def w_X5_add_26 (p1 : Int64) (σ : Sg) (Q : Sg → Prop) : Prop :=
  ∃ (I1 : Int64 → Int32 → Sg → Prop) (μ1 : Int64 → Int32 → Sg → Nat), I1 p1 0 σ ∧ ∀ (i3_1 : Int64) (i5_1 : Int32) (σ1 : Sg), I1 i3_1 i5_1 σ1 → (8 ≤ i5_1 → Q σ1) ∧ (¬ 8 ≤ i5_1 → vp_in i5_1 8 ∧ ∀ v4 : Int64, v4 = (gB σ1 8 (ix i5_1)) + (i3_1 &&& 4294967295) → vp_in i5_1 8 ∧ ∀ σ6 : Sg, σ6 = sB σ1 8 (ix i5_1) (v4 &&& 4294967295) → ∀ v7 : Int64, v7 = (lUshr i3_1 32) + (lUshr v4 32) → I1 v7 (i5_1 + 1) σ6 ∧ μ1 v7 (i5_1 + 1) σ6 < μ1 i3_1 i5_1 σ1)

def w_X5_setProduct_28_26_26 (σ : Sg) (Q : Sg → Prop) : Prop :=
  ∃ (I1 : Int32 → Sg → Prop) (μ1 : Int32 → Sg → Nat), I1 0 σ ∧ ∀ (i3_1 : Int32) (σ1 : Sg), I1 i3_1 σ1 → (8 ≤ i3_1 → ∃ (I3 : Int32 → Sg → Prop) (μ3 : Int32 → Sg → Nat), I3 0 σ1 ∧ ∀ (i3_3 : Int32) (σ3 : Sg), I3 i3_3 σ3 → (8 ≤ i3_3 → Q σ3) ∧ (¬ 8 ≤ i3_3 → ∃ (I5 : Int64 → Int32 → Sg → Prop) (μ5 : Int64 → Int32 → Sg → Nat), I5 0 i3_3 σ3 ∧ ∀ (i4_5 : Int64) (i6_5 : Int32) (σ5 : Sg), I5 i4_5 i6_5 σ5 → (8 ≤ i6_5 → I3 (i3_3 + 1) σ5 ∧ μ3 (i3_3 + 1) σ5 < μ3 i3_3 σ3) ∧ (¬ 8 ≤ i6_5 → vp_in i3_3 8 ∧ vp_in (i6_5 - i3_3) 8 ∧ vp_in i6_5 8 ∧ ∀ v10 : Int64, v10 = i4_5 + (((gB σ5 8 (ix i3_3)) * (gB σ5 8 (ix (i6_5 - i3_3)))) + (gB σ5 9 (ix i6_5))) → vp_in i6_5 8 ∧ ∀ σ12 : Sg, σ12 = sB σ5 9 (ix i6_5) (v10 &&& 4294967295) → ∀ v13 : Int64, v13 = lUshr v10 32 → I5 v13 (i6_5 + 1) σ12 ∧ μ5 v13 (i6_5 + 1) σ12 < μ5 i4_5 i6_5 σ5))) ∧ (¬ 8 ≤ i3_1 → vp_in i3_1 8 ∧ ∀ σ15 : Sg, σ15 = sB σ1 9 (ix i3_1) 0 → I1 (i3_1 + 1) σ15 ∧ μ1 (i3_1 + 1) σ15 < μ1 i3_1 σ1)

def w_X5_setProduct_30_28_22 (σ : Sg) (Q : Sg → Prop) : Prop :=
  ∃ (I1 : Int32 → Sg → Prop) (μ1 : Int32 → Sg → Nat), I1 0 σ ∧ ∀ (i3_1 : Int32) (σ1 : Sg), I1 i3_1 σ1 → (8 ≤ i3_1 → ∃ (I3 : Int32 → Sg → Prop) (μ3 : Int32 → Sg → Nat), I3 0 σ1 ∧ ∀ (i3_3 : Int32) (σ3 : Sg), I3 i3_3 σ3 → (8 ≤ i3_3 → Q σ3) ∧ (¬ 8 ≤ i3_3 → ∃ (I5 : Int64 → Int32 → Sg → Prop) (μ5 : Int64 → Int32 → Sg → Nat), I5 0 i3_3 σ3 ∧ ∀ (i4_5 : Int64) (i6_5 : Int32) (σ5 : Sg), I5 i4_5 i6_5 σ5 → (8 ≤ i6_5 → I3 (i3_3 + 1) σ5 ∧ μ3 (i3_3 + 1) σ5 < μ3 i3_3 σ3) ∧ (¬ 8 ≤ i6_5 → vp_in i3_3 8 ∧ vp_in (i6_5 - i3_3) 8 ∧ vp_in i6_5 8 ∧ ∀ v10 : Int64, v10 = i4_5 + (((gB σ5 9 (ix i3_3)) * (gB σ5 6 (ix (i6_5 - i3_3)))) + (gB σ5 10 (ix i6_5))) → vp_in i6_5 8 ∧ ∀ σ12 : Sg, σ12 = sB σ5 10 (ix i6_5) (v10 &&& 4294967295) → ∀ v13 : Int64, v13 = lUshr v10 32 → I5 v13 (i6_5 + 1) σ12 ∧ μ5 v13 (i6_5 + 1) σ12 < μ5 i4_5 i6_5 σ5))) ∧ (¬ 8 ≤ i3_1 → vp_in i3_1 8 ∧ ∀ σ15 : Sg, σ15 = sB σ1 10 (ix i3_1) 0 → I1 (i3_1 + 1) σ15 ∧ μ1 (i3_1 + 1) σ15 < μ1 i3_1 σ1)

def w_X5_isAtMost_28_30 (σ : Sg) (Q : Int32 → Prop) : Prop :=
  ∃ (I1 : Int32 → Prop) (μ1 : Int32 → Nat), I1 7 ∧ ∀ (i2_1 : Int32), I1 i2_1 → (i2_1 < 0 → Q 1) ∧ (¬ i2_1 < 0 → vp_in i2_1 8 ∧ vp_in i2_1 8 ∧ ((gB σ 9 (ix i2_1)) = (gB σ 10 (ix i2_1)) → I1 (i2_1 + (-1)) ∧ μ1 (i2_1 + (-1)) < μ1 i2_1) ∧ (¬ (gB σ 9 (ix i2_1)) = (gB σ 10 (ix i2_1)) → vp_in i2_1 8 ∧ vp_in i2_1 8 ∧ ((gB σ 10 (ix i2_1)) ≤ (gB σ 9 (ix i2_1)) → Q 0) ∧ (¬ (gB σ 10 (ix i2_1)) ≤ (gB σ 9 (ix i2_1)) → Q 1)))

def w_X1_timesLength (p1 : Int64) (p2 : Int64) (p3 : Int32) (σ : Sg) (Q : Int64 → Sg → Prop) : Prop :=
  w_X5_set_22 p1 σ (fun σ2 => w_X5_setProduct_26_22_24 σ2 (fun σ4 => w_X5_add_26 p2 σ4 (fun σ6 => w_X5_setProduct_28_26_26 σ6 (fun σ8 => w_X5_set_22 p3.toInt64 σ8 (fun σ10 => w_X5_setProduct_30_28_22 σ10 (fun σ12 => (214497024112901762 ≤ p1 → ∃ (I14 : Int64 → Int64 → Int32 → Sg → Prop) (μ14 : Int64 → Int64 → Int32 → Sg → Nat), I14 p1 9223372036854775807 0 σ12 ∧ ∀ (i6_14 : Int64) (i8_14 : Int64) (i10_14 : Int32) (σ14 : Sg), I14 i6_14 i8_14 i10_14 σ14 → (64 ≤ i10_14 → Q i6_14 σ14) ∧ (¬ 64 ≤ i10_14 → (i8_14 ≤ i6_14 → Q i6_14 σ14) ∧ (¬ i8_14 ≤ i6_14 → ∀ v17 : Int64, v17 = i8_14 - ((i8_14 - i6_14) / 2) → w_X5_set_22 v17 σ14 (fun σ19 => w_X5_setProduct_26_22_24 σ19 (fun σ21 => w_X5_setProduct_28_26_26 σ21 (fun σ23 => w_X5_isAtMost_28_30 σ23 (fun r24 => (r24 = 0 → ∀ v26 : Int64, v26 = v17 - 1 → I14 i6_14 v26 (i10_14 + 1) σ23 ∧ μ14 i6_14 v26 (i10_14 + 1) σ23 < μ14 i6_14 i8_14 i10_14 σ14) ∧ (¬ r24 = 0 → I14 v17 i8_14 (i10_14 + 1) σ23 ∧ μ14 v17 i8_14 (i10_14 + 1) σ23 < μ14 i6_14 i8_14 i10_14 σ14)))))))) ∧ (¬ 214497024112901762 ≤ p1 → ∀ v27 : Int64, v27 = (p1 + 1) * 43 → ∃ (I28 : Int64 → Int64 → Int32 → Sg → Prop) (μ28 : Int64 → Int64 → Int32 → Sg → Nat), I28 p1 v27 0 σ12 ∧ ∀ (i6_28 : Int64) (i8_28 : Int64) (i10_28 : Int32) (σ28 : Sg), I28 i6_28 i8_28 i10_28 σ28 → (64 ≤ i10_28 → Q i6_28 σ28) ∧ (¬ 64 ≤ i10_28 → (i8_28 ≤ i6_28 → Q i6_28 σ28) ∧ (¬ i8_28 ≤ i6_28 → ∀ v31 : Int64, v31 = i8_28 - ((i8_28 - i6_28) / 2) → w_X5_set_22 v31 σ28 (fun σ33 => w_X5_setProduct_26_22_24 σ33 (fun σ35 => w_X5_setProduct_28_26_26 σ35 (fun σ37 => w_X5_isAtMost_28_30 σ37 (fun r38 => (r38 = 0 → ∀ v40 : Int64, v40 = v31 - 1 → I28 i6_28 v40 (i10_28 + 1) σ37 ∧ μ28 i6_28 v40 (i10_28 + 1) σ37 < μ28 i6_28 i8_28 i10_28 σ28) ∧ (¬ r38 = 0 → I28 v31 i8_28 (i10_28 + 1) σ37 ∧ μ28 v31 i8_28 (i10_28 + 1) σ37 < μ28 i6_28 i8_28 i10_28 σ28))))))))))))))

def w_X1_findAmounts (σ : Sg) (Q : Sg → Prop) : Prop :=
  w_X5_set_24 (gL σ 0) σ (fun σ2 => ∃ (I3 : Int32 → Sg → Prop) (μ3 : Int32 → Sg → Nat), I3 0 σ2 ∧ ∀ (i2_3 : Int32) (σ3 : Sg), I3 i2_3 σ3 → ((gI σ3 1) ≤ i2_3 → Q σ3) ∧ (¬ (gI σ3 1) ≤ i2_3 → vp_in i2_3 25 ∧ ∀ v6 : Int64, v6 = gB σ3 0 (ix i2_3) → vp_in i2_3 25 ∧ ∀ v8 : Int64, v8 = gB σ3 1 (ix i2_3) → w_X2_lengthSquare i2_3 σ3 (fun r9 => (0 ≤ v6 → w_X1_timesLength v6 v8 r9 σ3 (fun r11 σ12 => vp_in i2_3 9 ∧ ∀ σ14 : Sg, σ14 = sB σ12 2 (ix i2_3) r11 → I3 (i2_3 + 1) σ14 ∧ μ3 (i2_3 + 1) σ14 < μ3 i2_3 σ3)) ∧ (¬ 0 ≤ v6 → w_X1_timesLength ((-1) - v6) ((gL σ3 0) - v8) r9 σ3 (fun r15 σ16 => vp_in i2_3 9 ∧ ∀ σ18 : Sg, σ18 = sB σ16 2 (ix i2_3) (-r15) → I3 (i2_3 + 1) σ18 ∧ μ3 (i2_3 + 1) σ18 < μ3 i2_3 σ3)))))

def w_X1_find (σ : Sg) (Q : Sg → Prop) : Prop :=
  ((gI σ 2) = 0 → w_X1_findPulls σ (fun r2 σ3 => narrow .char (.int r2) = .int r2 ∧ ∀ σ5 : Sg, σ5 = sI σ3 3 r2 → (¬ (gI σ5 3) = 46 → ∀ σ7 : Sg, σ7 = sI σ5 2 1 → Q σ7) ∧ ((gI σ5 3) = 46 → w_X1_findBearings σ5 (fun σ9 => w_X1_findAmounts σ9 (fun σ11 => ∀ σ12 : Sg, σ12 = sI σ11 2 1 → Q σ12))))) ∧ (¬ (gI σ 2) = 0 → Q σ)

def w_X6_checkStanding (σ : Sg) (Q : Sg → Prop) (X : String → Sg → Prop) : Prop :=
  w_X1_find σ (fun σ2 => ((gI σ2 3) = 46 → Q σ2) ∧ (¬ (gI σ2 3) = 46 → X "java/lang/IllegalStateException" σ2))

def w_X6_force (p1 : Int32) (σ : Sg) (Q : Int64 → Sg → Prop) (X : String → Sg → Prop) : Prop :=
  w_X6_checkMember p1 σ (w_X6_checkStanding σ (fun σ3 => vp_in p1 9 ∧ Q (gB σ3 2 (ix p1)) σ3) X) X

def w_L_force (p1 : Int32) (σ : Sg) (Q : Int64 → Sg → Prop) : Prop :=
  w_X6_force p1 σ (fun r1 σ2 => Q r1 σ2) (fun E9 σ3 => (E9 = "java/lang/IndexOutOfBoundsException" ∧ Q (-77) σ3) ∨ (E9 = "java/lang/IllegalStateException" ∧ Q (-79) σ3))

def w_X1_restInThousandths (p1 : Int32) (σ : Sg) (Q : Int64 → Prop) : Prop :=
  vp_in p1 25 ∧ ∀ v2 : Int64, v2 = gB σ 1 (ix p1) → ∃ (I3 : Int64 → Int64 → Int32 → Prop) (μ3 : Int64 → Int64 → Int32 → Nat), I3 0 v2 0 ∧ ∀ (i2_3 : Int64) (i4_3 : Int64) (i6_3 : Int32), I3 i2_3 i4_3 i6_3 → (3 ≤ i6_3 → Q i2_3) ∧ (¬ 3 ≤ i6_3 → ((gL σ 0) ≤ 0 → Q i2_3) ∧ (¬ (gL σ 0) ≤ 0 → ¬ (gL σ 0) = 0 ∧ ∀ v7 : Int64, v7 = (10 * i2_3) + ((10 * i4_3) / (gL σ 0)) → ¬ (gL σ 0) = 0 ∧ ∀ v9 : Int64, v9 = lRem (10 * i4_3) (gL σ 0) → I3 v7 v9 (i6_3 + 1) ∧ μ3 v7 v9 (i6_3 + 1) < μ3 i2_3 i4_3 i6_3))

def w_X1_thousandths (p1 : Int32) (σ : Sg) (Q : Int64 → Prop) : Prop :=
  vp_in p1 25 ∧ w_X1_restInThousandths p1 σ (fun r2 => Q ((1000 * (gB σ 0 (ix p1))) + r2))

def w_X6_pull (p1 : Int32) (σ : Sg) (Q : Int64 → Sg → Prop) (X : String → Sg → Prop) : Prop :=
  w_X6_checkMember p1 σ (w_X6_checkStanding σ (fun σ3 => w_X1_thousandths p1 σ3 (fun r4 => Q r4 σ3)) X) X

def w_L_pull (p1 : Int32) (σ : Sg) (Q : Int64 → Sg → Prop) : Prop :=
  w_X6_pull p1 σ (fun r1 σ2 => Q r1 σ2) (fun E9 σ3 => (E9 = "java/lang/IndexOutOfBoundsException" ∧ Q (-77) σ3) ∨ (E9 = "java/lang/IllegalStateException" ∧ Q (-79) σ3))

def w_X1_bearingIndex (p1 : Int32) (p2 : Int32) (σ : Sg) (Q : Int32 → Prop) : Prop :=
  Q ((9 + (2 * p1)) + p2)

def w_X1_holdsAlong (p2 : Int32) (p3 : Int32) (σ : Sg) (Q : Int32 → Prop) : Prop :=
  ∃ (I1 : Int64 → Int64 → Int32 → Prop) (μ1 : Int64 → Int64 → Int32 → Nat), I1 0 0 0 ∧ ∀ (i4_1 : Int64) (i6_1 : Int64) (i8_1 : Int32), I1 i4_1 i6_1 i8_1 → ((gI σ 0) ≤ i8_1 → ((gL σ 0) ≤ 0 → Q 0) ∧ (¬ (gL σ 0) ≤ 0 → ¬ (gL σ 0) = 0 ∧ (¬ (lRem i6_1 (gL σ 0)) = 0 → Q 0) ∧ ((lRem i6_1 (gL σ 0)) = 0 → ¬ (gL σ 0) = 0 ∧ (¬ (i4_1 + (i6_1 / (gL σ 0))) = 0 → Q 0) ∧ ((i4_1 + (i6_1 / (gL σ 0))) = 0 → Q 1)))) ∧ (¬ (gI σ 0) ≤ i8_1 → vp_in ((2 * i8_1) + 0) 16 ∧ ((gA σ 0 (ix ((2 * i8_1) + 0))) ≤ p2 → vp_in ((2 * i8_1) + p3) 16 ∧ w_X1_bearingIndex i8_1 p3 σ (fun r11 => vp_in r11 25 ∧ ∀ v13 : Int64, v13 = i4_1 + (((gA σ 1 (ix ((2 * i8_1) + p3))).toInt64) + (gB σ 0 (ix r11))) → w_X1_bearingIndex i8_1 p3 σ (fun r14 => vp_in r14 25 ∧ ∀ v16 : Int64, v16 = i6_1 + (gB σ 1 (ix r14)) → ∃ (I17 : Int64 → Int64 → Int32 → Prop) (μ17 : Int64 → Int64 → Int32 → Nat), I17 v13 v16 0 ∧ ∀ (i4_17 : Int64) (i6_17 : Int64) (i9_17 : Int32), I17 i4_17 i6_17 i9_17 → ((gI σ 1) ≤ i9_17 → I1 i4_17 i6_17 (i8_1 + 1) ∧ μ1 i4_17 i6_17 (i8_1 + 1) < μ1 i4_1 i6_1 i8_1) ∧ (¬ (gI σ 1) ≤ i9_17 → w_X2_otherEnd i9_17 i8_1 σ (fun r19 => (r19 < 0 → I17 i4_17 i6_17 (i9_17 + 1) ∧ μ17 i4_17 i6_17 (i9_17 + 1) < μ17 i4_17 i6_17 i9_17) ∧ (¬ r19 < 0 → vp_in ((2 * r19) + 0) 16 ∧ ((gA σ 0 (ix ((2 * r19) + 0))) ≤ p2 → I17 i4_17 i6_17 (i9_17 + 1) ∧ μ17 i4_17 i6_17 (i9_17 + 1) < μ17 i4_17 i6_17 i9_17) ∧ (¬ (gA σ 0 (ix ((2 * r19) + 0))) ≤ p2 → w_X2_wayAlong i9_17 i8_1 p3 σ (fun r23 => vp_in i9_17 25 ∧ ∀ v25 : Int64, v25 = i4_17 + (r23.toInt64 * (gB σ 0 (ix i9_17))) → vp_in i9_17 25 ∧ ∀ v27 : Int64, v27 = i6_17 + (r23.toInt64 * (gB σ 1 (ix i9_17))) → I17 v25 v27 (i9_17 + 1) ∧ μ17 v25 v27 (i9_17 + 1) < μ17 i4_17 i6_17 i9_17)))))))) ∧ (¬ (gA σ 0 (ix ((2 * i8_1) + 0))) ≤ p2 → I1 i4_1 i6_1 (i8_1 + 1) ∧ μ1 i4_1 i6_1 (i8_1 + 1) < μ1 i4_1 i6_1 i8_1))

def w_X1_holdsAt (p2 : Int32) (σ : Sg) (Q : Int32 → Prop) : Prop :=
  w_X1_holdsAlong p2 0 σ (fun r1 => (r1 = 0 → Q 0) ∧ (¬ r1 = 0 → w_X1_holdsAlong p2 1 σ (fun r3 => (r3 = 0 → Q 0) ∧ (¬ r3 = 0 → Q 1))))

def w_X6_isBalanced (p1 : Int32) (σ : Sg) (Q : Int32 → Sg → Prop) (X : String → Sg → Prop) : Prop :=
  w_X6_isWithin p1 0 30 σ (fun r1 => (¬ r1 = 0 → w_X6_checkStanding σ (fun σ4 => w_X1_holdsAt p1 σ4 (fun r5 => narrow .boolean (.int r5) = .int r5 ∧ Q r5 σ4)) X) ∧ (r1 = 0 → X "java/lang/IllegalArgumentException" σ))

def w_L_isBalanced (p1 : Int32) (σ : Sg) (Q : Int32 → Sg → Prop) : Prop :=
  w_X6_isBalanced p1 σ (fun r1 σ2 => (r1 = 0 → Q 0 σ2) ∧ (¬ r1 = 0 → Q 1 σ2)) (fun E9 σ4 => (E9 = "java/lang/IllegalArgumentException" ∧ Q (-78) σ4) ∨ (E9 = "java/lang/IllegalStateException" ∧ Q (-79) σ4))

def w_X6_weakest (σ : Sg) (Q : Int32 → Sg → Prop) (X : String → Sg → Prop) : Prop :=
  w_X6_checkStanding σ (fun σ2 => (¬ (gI σ2 1) = 0 → ∃ (I4 : Int32 → Int32 → Prop) (μ4 : Int32 → Int32 → Nat), I4 0 1 ∧ ∀ (i1_4 : Int32) (i2_4 : Int32), I4 i1_4 i2_4 → ((gI σ2 1) ≤ i2_4 → Q i1_4 σ2) ∧ (¬ (gI σ2 1) ≤ i2_4 → vp_in i2_4 9 ∧ vp_in i1_4 9 ∧ ((mabsl (gB σ2 2 (ix i2_4))) ≤ (mabsl (gB σ2 2 (ix i1_4))) → I4 i1_4 (i2_4 + 1) ∧ μ4 i1_4 (i2_4 + 1) < μ4 i1_4 i2_4) ∧ (¬ (mabsl (gB σ2 2 (ix i2_4))) ≤ (mabsl (gB σ2 2 (ix i1_4))) → I4 i2_4 (i2_4 + 1) ∧ μ4 i2_4 (i2_4 + 1) < μ4 i1_4 i2_4))) ∧ ((gI σ2 1) = 0 → X "java/util/NoSuchElementException" σ2)) X

def w_L_weakest (σ : Sg) (Q : Int32 → Sg → Prop) : Prop :=
  w_X6_weakest σ (fun r1 σ2 => Q r1 σ2) (fun E9 σ3 => (E9 = "java/lang/IllegalStateException" ∧ Q (-79) σ3) ∨ (E9 = "java/util/NoSuchElementException" ∧ Q (-75) σ3))

def w_J0_isLatin1_aae02_S8 (σ : Sg) (Q : Int32 → Prop) : Prop :=
  Q 1

def w_J0_coder_7d493_S8 (σ : Sg) (Q : Int32 → Prop) : Prop :=
  Q 0

def w_J0_length_8abf5_S8 (σ : Sg) (Q : Int32 → Prop) : Prop :=
  Q 5

def w_J1_indexOfChar_4cfef_V8_0_5 (p1 : Int32) (σ : Sg) (Q : Int32 → Prop) : Prop :=
  ∀ v1 : Int32, v1 = p1.toInt8.toInt32 → (¬ (117 : Int32) = v1 → (¬ (100 : Int32) = v1 → (¬ (108 : Int32) = v1 → (¬ (114 : Int32) = v1 → (¬ (102 : Int32) = v1 → Q (-1)) ∧ ((102 : Int32) = v1 → Q 4)) ∧ ((114 : Int32) = v1 → Q 3)) ∧ ((108 : Int32) = v1 → Q 2)) ∧ ((100 : Int32) = v1 → Q 1)) ∧ ((117 : Int32) = v1 → Q 0)

def w_J1_indexOf_4cfef_V8_0_5 (p1 : Int32) (σ : Sg) (Q : Int32 → Prop) : Prop :=
  w_J1_canEncode_9a6ad p1 σ (fun r1 => (¬ r1 = 0 → w_J1_indexOfChar_4cfef_V8_0_5 p1 σ (fun r3 => Q r3)) ∧ (r1 = 0 → Q (-1)))

def w_J0_indexOf_7cf53_S8_0 (p1 : Int32) (σ : Sg) (Q : Int32 → Prop) : Prop :=
  w_J1_indexOf_4cfef_V8_0_5 p1 σ (fun r3 => Q r3)

def w_J0_indexOf_0f7a4_S8 (p1 : Int32) (σ : Sg) (Q : Int32 → Prop) : Prop :=
  w_J0_indexOf_7cf53_S8_0 p1 σ (fun r1 => Q r1)

def w_X3_wayIndex (p1 : Int32) (σ : Sg) (Q : Int32 → Prop) : Prop :=
  w_J0_indexOf_0f7a4_S8 p1 σ (fun r1 => Q r1)

def w_X2_haveCommonNode (p1 : Int32) (p2 : Int32) (σ : Sg) (Q : Int32 → Prop) : Prop :=
  vp_in p2 9 ∧ w_X2_otherEnd p1 (gA σ 4 (ix p2)) σ (fun r2 => (0 ≤ r2 → Q 1) ∧ (¬ 0 ≤ r2 → vp_in p2 9 ∧ w_X2_otherEnd p1 (gA σ 5 (ix p2)) σ (fun r5 => (r5 < 0 → Q 0) ∧ (¬ r5 < 0 → Q 1))))

def w_X3_partner (p1 : Int32) (p2 : Int32) (σ : Sg) (Q : Int32 → Prop) : Prop :=
  vp_in p1 12 ∧ (¬ (gA σ 13 (ix p1)) = p2 → vp_in p1 12 ∧ (¬ (gA σ 14 (ix p1)) = p2 → Q (-1)) ∧ ((gA σ 14 (ix p1)) = p2 → vp_in p1 12 ∧ Q (gA σ 13 (ix p1)))) ∧ ((gA σ 13 (ix p1)) = p2 → vp_in p1 12 ∧ Q (gA σ 14 (ix p1)))

def w_X3_areJoined (p1 : Int32) (p2 : Int32) (σ : Sg) (Q : Int32 → Prop) : Prop :=
  ∃ (I1 : Int32 → Prop) (μ1 : Int32 → Nat), I1 0 ∧ ∀ (i3_1 : Int32), I1 i3_1 → ((gI σ 4) ≤ i3_1 → Q 0) ∧ (¬ (gI σ 4) ≤ i3_1 → w_X3_partner i3_1 p1 σ (fun r3 => (¬ r3 = p2 → I1 (i3_1 + 1) ∧ μ1 (i3_1 + 1) < μ1 i3_1) ∧ (r3 = p2 → Q 1)))

def w_X3_add (p1 : Int32) (p2 : Int32) (p3 : Int32) (p4 : Int32) (p5 : Int32) (σ : Sg) (Q : Int32 → Sg → Prop) : Prop :=
  ∀ v1 : Int32, v1 = gI σ 4 → vp_in v1 12 ∧ ∀ σ3 : Sg, σ3 = sA σ 13 (ix v1) p1 → vp_in v1 12 ∧ ∀ σ5 : Sg, σ5 = sA σ3 14 (ix v1) p2 → vp_in v1 12 ∧ ∀ σ7 : Sg, σ7 = sA σ5 15 (ix v1) p3 → vp_in v1 12 ∧ ∀ σ9 : Sg, σ9 = sA σ7 16 (ix v1) p4 → vp_in v1 12 ∧ ∀ σ11 : Sg, σ11 = sA σ9 17 (ix v1) p5 → ∀ σ12 : Sg, σ12 = sI σ11 4 (v1 + 1) → Q v1 σ12

def w_X6_joint (p1 : Int32) (p2 : Int32) (p3 : Int32) (p4 : Int32) (p5 : Int32) (σ : Sg) (Q : Int32 → Sg → Prop) (X : String → Sg → Prop) : Prop :=
  w_X6_checkMember p1 σ (w_X6_checkMember p2 σ ((p1 = p2 → X "java/lang/IllegalArgumentException" σ) ∧ (¬ p1 = p2 → w_X3_wayIndex p3 σ (fun r4 => (r4 < 0 → X "java/lang/IllegalArgumentException" σ) ∧ (¬ r4 < 0 → w_X6_isWithin p4 2 20 σ (fun r6 => (r6 = 0 → X "java/lang/IllegalArgumentException" σ) ∧ (¬ r6 = 0 → w_X6_isWithin p5 1 31 σ (fun r8 => (¬ r8 = 0 → w_X2_haveCommonNode p1 p2 σ (fun r10 => (r10 = 0 → X "java/lang/UnsupportedOperationException" σ) ∧ (¬ r10 = 0 → w_X3_areJoined p1 p2 σ (fun r12 => (r12 = 0 → ((gI σ 4) < 12 → ∀ σ15 : Sg, σ15 = sI σ 6 0 → ∀ σ16 : Sg, σ16 = sI σ15 10 0 → w_X3_wayIndex p3 σ16 (fun r17 => w_X3_add p1 p2 r17 p4 p5 σ16 (fun r18 σ19 => Q r18 σ19))) ∧ (¬ (gI σ 4) < 12 → X "java/lang/IllegalStateException" σ)) ∧ (¬ r12 = 0 → X "java/lang/UnsupportedOperationException" σ))))) ∧ (r8 = 0 → X "java/lang/IllegalArgumentException" σ)))))))) X) X

def w_L_joint (p1 : Int32) (p2 : Int32) (p3 : Int32) (p4 : Int32) (p5 : Int32) (σ : Sg) (Q : Int32 → Sg → Prop) : Prop :=
  w_X6_joint p1 p2 p3 p4 p5 σ (fun r1 σ2 => Q r1 σ2) (fun E9 σ3 => (E9 = "java/lang/IndexOutOfBoundsException" ∧ Q (-77) σ3) ∨ (E9 = "java/lang/IllegalArgumentException" ∧ Q (-78) σ3) ∨ (E9 = "java/lang/UnsupportedOperationException" ∧ Q (-76) σ3) ∨ (E9 = "java/lang/IllegalStateException" ∧ Q (-79) σ3))

def w_X6_checkJoint (p1 : Int32) (σ : Sg) (Q : Prop) (X : String → Sg → Prop) : Prop :=
  (p1 < 0 → X "java/lang/IndexOutOfBoundsException" σ) ∧ (¬ p1 < 0 → (p1 < (gI σ 4) → Q) ∧ (¬ p1 < (gI σ 4) → X "java/lang/IndexOutOfBoundsException" σ))

def w_X3_isThinEnough (p1 : Int32) (σ : Sg) (Q : Int32 → Prop) : Prop :=
  vp_in p1 12 ∧ vp_in (gA σ 13 (ix p1)) 9 ∧ ∀ v3 : Int32, v3 = gA σ 6 (ix (gA σ 13 (ix p1))) → vp_in p1 12 ∧ vp_in (gA σ 14 (ix p1)) 9 ∧ ∀ v6 : Int32, v6 = gA σ 6 (ix (gA σ 14 (ix p1))) → vp_in p1 12 ∧ (((mmin v3 v6) / 3) < (gA σ 16 (ix p1)) → Q 0) ∧ (¬ ((mmin v3 v6) / 3) < (gA σ 16 (ix p1)) → Q 1)

def w_X6_isRight (p1 : Int32) (σ : Sg) (Q : Int32 → Prop) (X : String → Sg → Prop) : Prop :=
  w_X6_checkJoint p1 σ (w_X3_isThinEnough p1 σ (fun r2 => narrow .boolean (.int r2) = .int r2 ∧ Q r2)) X

def w_L_isRight (p1 : Int32) (σ : Sg) (Q : Int32 → Prop) : Prop :=
  w_X6_isRight p1 σ (fun r1 => (r1 = 0 → Q 0) ∧ (¬ r1 = 0 → Q 1)) (fun E9 σ3 => (E9 = "java/lang/IndexOutOfBoundsException" ∧ σ = σ3 ∧ Q (-77)))

def w_X3_misreadMark (p1 : Int32) (σ : Sg) (Q : Int32 → Prop) : Prop :=
  ∃ (I1 : Int32 → Int32 → Prop) (μ1 : Int32 → Int32 → Nat), I1 0 0 ∧ ∀ (i2_1 : Int32) (i3_1 : Int32), I1 i2_1 i3_1 → (5 ≤ i3_1 → Q i2_1) ∧ (¬ 5 ≤ i3_1 → vp_in p1 12 ∧ ∀ v4 : Int32, v4 = (iShl i2_1 1) ||| ((iShr (gA σ 17 (ix p1)) i3_1) &&& 1) → I1 v4 (i3_1 + 1) ∧ μ1 v4 (i3_1 + 1) < μ1 i2_1 i3_1)

def w_X6_misread (p1 : Int32) (σ : Sg) (Q : Int32 → Prop) (X : String → Sg → Prop) : Prop :=
  w_X6_checkJoint p1 σ (w_X3_misreadMark p1 σ (fun r2 => Q r2)) X

def w_L_misread (p1 : Int32) (σ : Sg) (Q : Int32 → Prop) : Prop :=
  w_X6_misread p1 σ (fun r1 => Q r1) (fun E9 σ2 => (E9 = "java/lang/IndexOutOfBoundsException" ∧ σ = σ2 ∧ Q (-77)))

def w_X6_checkMoisture (p1 : Int32) (σ : Sg) (Q : Prop) (X : String → Sg → Prop) : Prop :=
  w_X6_isWithin p1 10 60 σ (fun r1 => (¬ r1 = 0 → Q) ∧ (r1 = 0 → X "java/lang/IllegalArgumentException" σ))

def w_X6_cutAt (p1 : Int32) (p2 : Int32) (σ : Sg) (Q : Int32 → Sg → Prop) (X : String → Sg → Prop) : Prop :=
  w_X6_checkMember p1 σ (w_X6_checkMoisture p2 σ (vp_in p1 9 ∧ ∀ v4 : Int32, v4 = gA σ 8 (ix p1) → vp_in p1 9 ∧ ∀ σ6 : Sg, σ6 = sA σ 8 (ix p1) p2 → Q v4 σ6) X) X

def w_L_cutAt (p1 : Int32) (p2 : Int32) (σ : Sg) (Q : Int32 → Sg → Prop) : Prop :=
  w_X6_cutAt p1 p2 σ (fun r1 σ2 => Q r1 σ2) (fun E9 σ3 => (E9 = "java/lang/IndexOutOfBoundsException" ∧ Q (-77) σ3) ∨ (E9 = "java/lang/IllegalArgumentException" ∧ Q (-78) σ3))

def w_X6_dry (p1 : Int32) (p2 : Int32) (σ : Sg) (Q : Int32 → Sg → Prop) (X : String → Sg → Prop) : Prop :=
  w_X6_checkMember p1 σ (w_X6_checkMoisture p2 σ (vp_in p1 9 ∧ ∀ v4 : Int32, v4 = gA σ 9 (ix p1) → vp_in p1 9 ∧ ∀ σ6 : Sg, σ6 = sA σ 9 (ix p1) p2 → Q v4 σ6) X) X

def w_L_dry (p1 : Int32) (p2 : Int32) (σ : Sg) (Q : Int32 → Sg → Prop) : Prop :=
  w_X6_dry p1 p2 σ (fun r1 σ2 => Q r1 σ2) (fun E9 σ3 => (E9 = "java/lang/IndexOutOfBoundsException" ∧ Q (-77) σ3) ∨ (E9 = "java/lang/IllegalArgumentException" ∧ Q (-78) σ3))

def w_X3_opening (p1 : Int32) (σ : Sg) (Q : Int32 → Prop) : Prop :=
  vp_in p1 12 ∧ ∀ v2 : Int32, v2 = gA σ 13 (ix p1) → vp_in v2 9 ∧ vp_in v2 9 ∧ ∀ v5 : Int32, v5 = (gA σ 8 (ix v2)) - (gA σ 9 (ix v2)) → vp_in p1 12 ∧ ∀ v7 : Int32, v7 = gA σ 16 (ix p1) → (v5 ≤ 0 → Q 0) ∧ (¬ v5 ≤ 0 → Q (v7 - ((v7 * (1000 - (3 * v5))) / 1000)))

def w_X6_gap (p1 : Int32) (σ : Sg) (Q : Int32 → Prop) (X : String → Sg → Prop) : Prop :=
  w_X6_checkJoint p1 σ (w_X3_opening p1 σ (fun r2 => Q r2)) X

def w_L_gap (p1 : Int32) (σ : Sg) (Q : Int32 → Prop) : Prop :=
  w_X6_gap p1 σ (fun r1 => Q r1) (fun E9 σ2 => (E9 = "java/lang/IndexOutOfBoundsException" ∧ σ = σ2 ∧ Q (-77)))

def w_X6_widest (σ : Sg) (Q : Int32 → Prop) (X : String → Sg → Prop) : Prop :=
  (¬ (gI σ 4) = 0 → ∃ (I2 : Int32 → Int32 → Prop) (μ2 : Int32 → Int32 → Nat), I2 0 1 ∧ ∀ (i1_2 : Int32) (i2_2 : Int32), I2 i1_2 i2_2 → ((gI σ 4) ≤ i2_2 → Q i1_2) ∧ (¬ (gI σ 4) ≤ i2_2 → w_X3_opening i2_2 σ (fun r4 => w_X3_opening i1_2 σ (fun r5 => (r4 ≤ r5 → I2 i1_2 (i2_2 + 1) ∧ μ2 i1_2 (i2_2 + 1) < μ2 i1_2 i2_2) ∧ (¬ r4 ≤ r5 → I2 i2_2 (i2_2 + 1) ∧ μ2 i2_2 (i2_2 + 1) < μ2 i1_2 i2_2))))) ∧ ((gI σ 4) = 0 → X "java/util/NoSuchElementException" σ)

def w_L_widest (σ : Sg) (Q : Int32 → Prop) : Prop :=
  w_X6_widest σ (fun r1 => Q r1) (fun E9 σ2 => (E9 = "java/util/NoSuchElementException" ∧ σ = σ2 ∧ Q (-75)))

def w_X0_add (p1 : Int32) (p2 : Int32) (p3 : Int32) (σ : Sg) (Q : Int32 → Sg → Prop) : Prop :=
  ∀ v1 : Int32, v1 = gI σ 5 → vp_in v1 5 ∧ ∀ σ3 : Sg, σ3 = sA σ 19 (ix v1) p1 → vp_in v1 5 ∧ ∀ σ5 : Sg, σ5 = sA σ3 20 (ix v1) p2 → vp_in v1 5 ∧ ∀ σ7 : Sg, σ7 = sA σ5 21 (ix v1) p3 → ∀ σ8 : Sg, σ8 = sI σ7 5 (v1 + 1) → Q v1 σ8

def w_X6_stick (p1 : Int32) (p2 : Int32) (p3 : Int32) (σ : Sg) (Q : Int32 → Sg → Prop) (X : String → Sg → Prop) : Prop :=
  w_X6_isWithin p1 1 900 σ (fun r1 => (r1 = 0 → X "java/lang/IllegalArgumentException" σ) ∧ (¬ r1 = 0 → w_X6_isSection p2 p3 σ (fun r3 => (¬ r3 = 0 → ((gI σ 5) < 5 → ∀ σ6 : Sg, σ6 = sI σ 6 0 → w_X0_add p1 p2 p3 σ6 (fun r7 σ8 => Q r7 σ8)) ∧ (¬ (gI σ 5) < 5 → X "java/lang/IllegalStateException" σ)) ∧ (r3 = 0 → X "java/lang/IllegalArgumentException" σ))))

def w_L_stick (p1 : Int32) (p2 : Int32) (p3 : Int32) (σ : Sg) (Q : Int32 → Sg → Prop) : Prop :=
  w_X6_stick p1 p2 p3 σ (fun r1 σ2 => Q r1 σ2) (fun E9 σ3 => (E9 = "java/lang/IllegalArgumentException" ∧ Q (-78) σ3) ∨ (E9 = "java/lang/IllegalStateException" ∧ Q (-79) σ3))

def w_X3_joinsGoingIn (p1 : Int32) (σ : Sg) (Q : Int32 → Prop) : Prop :=
  ∃ (I1 : Int32 → Int32 → Prop) (μ1 : Int32 → Int32 → Nat), I1 0 0 ∧ ∀ (i2_1 : Int32) (i3_1 : Int32), I1 i2_1 i3_1 → ((gI σ 4) ≤ i3_1 → Q i2_1) ∧ (¬ (gI σ 4) ≤ i3_1 → vp_in i3_1 12 ∧ (¬ (gA σ 13 (ix i3_1)) = p1 → ∀ v5 : Int32, v5 = i2_1 + 0 → I1 v5 (i3_1 + 1) ∧ μ1 v5 (i3_1 + 1) < μ1 i2_1 i3_1) ∧ ((gA σ 13 (ix i3_1)) = p1 → ∀ v6 : Int32, v6 = i2_1 + 1 → I1 v6 (i3_1 + 1) ∧ μ1 v6 (i3_1 + 1) < μ1 i2_1 i3_1))

def w_X0_pieceLength (p1 : Int32) (σ : Sg) (Q : Int32 → Prop) : Prop :=
  w_X2_lengthSquare p1 σ (fun r1 => ∀ v2 : Int32, v2 = 100 * r1 → ∃ (I3 : Int32 → Prop) (μ3 : Int32 → Nat), I3 0 ∧ ∀ (i5_3 : Int32), I3 i5_3 → (425 ≤ i5_3 → w_X3_joinsGoingIn p1 σ (fun r5 => Q (i5_3 + (4 * r5)))) ∧ (¬ 425 ≤ i5_3 → (v2 ≤ (i5_3 * i5_3) → w_X3_joinsGoingIn p1 σ (fun r7 => Q (i5_3 + (4 * r7)))) ∧ (¬ v2 ≤ (i5_3 * i5_3) → I3 (i5_3 + 1) ∧ μ3 (i5_3 + 1) < μ3 i5_3)))

def w_X6_piece (p1 : Int32) (σ : Sg) (Q : Int32 → Prop) (X : String → Sg → Prop) : Prop :=
  w_X6_checkMember p1 σ (w_X0_pieceLength p1 σ (fun r2 => Q r2)) X

def w_L_piece (p1 : Int32) (σ : Sg) (Q : Int32 → Prop) : Prop :=
  w_X6_piece p1 σ (fun r1 => Q r1) (fun E9 σ2 => (E9 = "java/lang/IndexOutOfBoundsException" ∧ σ = σ2 ∧ Q (-77)))

def w_X0_measure (σ : Sg) (Q : Sg → Prop) : Prop :=
  ∃ (I1 : Int32 → Int32 → Sg → Prop) (μ1 : Int32 → Int32 → Sg → Nat), I1 390625 0 σ ∧ ∀ (i3_1 : Int32) (i4_1 : Int32) (σ1 : Sg), I1 i3_1 i4_1 σ1 → ((gI σ1 1) ≤ i4_1 → Q σ1) ∧ (¬ (gI σ1 1) ≤ i4_1 → w_X0_pieceLength i4_1 σ1 (fun r3 => ∀ v4 : Int32, v4 = r3 + 1 → ∀ v5 : Int32, v5 = iShl 1 i4_1 → ∃ (I6 : Int32 → Sg → Prop) (μ6 : Int32 → Sg → Nat), I6 v5 σ1 ∧ ∀ (i7_6 : Int32) (σ6 : Sg), I6 i7_6 σ6 → ((2 * v5) ≤ i7_6 → ∀ v8 : Int32, v8 = i3_1 / 5 → I1 v8 (i4_1 + 1) σ6 ∧ μ1 v8 (i4_1 + 1) σ6 < μ1 i3_1 i4_1 σ1) ∧ (¬ (2 * v5) ≤ i7_6 → vp_in (i7_6 - v5) 512 ∧ vp_in i7_6 512 ∧ ∀ σ11 : Sg, σ11 = sA σ6 22 (ix i7_6) ((gA σ6 22 (ix (i7_6 - v5))) + v4) → vp_in (i7_6 - v5) 512 ∧ vp_in i7_6 512 ∧ ∀ σ14 : Sg, σ14 = sA σ11 23 (ix i7_6) ((gA σ11 23 (ix (i7_6 - v5))) + i3_1) → I6 (i7_6 + 1) σ14 ∧ μ6 (i7_6 + 1) σ14 < μ6 i7_6 σ6)))

def w_X0_choose (p1 : Int64) (σ : Sg) (Q : Sg → Prop) : Prop :=
  (p1 = 4611686018427387904 → ∀ σ2 : Sg, σ2 = sI σ 7 0 → (¬ (gI σ2 7) = 0 → ∀ σ4 : Sg, σ4 = sI σ2 8 ((p1 / 1953125).toInt32) → ∀ v5 : Int32, v5 = (lRem p1 1953125).toInt32 → ∃ (I6 : Int32 → Int32 → Sg → Prop) (μ6 : Int32 → Int32 → Sg → Nat), I6 v5 8 σ4 ∧ ∀ (i3_6 : Int32) (i4_6 : Int32) (σ6 : Sg), I6 i3_6 i4_6 σ6 → (i4_6 < 0 → Q σ6) ∧ (¬ i4_6 < 0 → vp_in i4_6 9 ∧ ∀ σ9 : Sg, σ9 = sA σ6 18 (ix i4_6) (iRem i3_6 5) → ∀ v10 : Int32, v10 = i3_6 / 5 → I6 v10 (i4_6 + (-1)) σ9 ∧ μ6 v10 (i4_6 + (-1)) σ9 < μ6 i3_6 i4_6 σ6)) ∧ ((gI σ2 7) = 0 → Q σ2)) ∧ (¬ p1 = 4611686018427387904 → ∀ σ11 : Sg, σ11 = sI σ 7 1 → (¬ (gI σ11 7) = 0 → ∀ σ13 : Sg, σ13 = sI σ11 8 ((p1 / 1953125).toInt32) → ∀ v14 : Int32, v14 = (lRem p1 1953125).toInt32 → ∃ (I15 : Int32 → Int32 → Sg → Prop) (μ15 : Int32 → Int32 → Sg → Nat), I15 v14 8 σ13 ∧ ∀ (i3_15 : Int32) (i4_15 : Int32) (σ15 : Sg), I15 i3_15 i4_15 σ15 → (i4_15 < 0 → Q σ15) ∧ (¬ i4_15 < 0 → vp_in i4_15 9 ∧ ∀ σ18 : Sg, σ18 = sA σ15 18 (ix i4_15) (iRem i3_15 5) → ∀ v19 : Int32, v19 = i3_15 / 5 → I15 v19 (i4_15 + (-1)) σ18 ∧ μ15 v19 (i4_15 + (-1)) σ18 < μ15 i3_15 i4_15 σ15)) ∧ ((gI σ11 7) = 0 → Q σ11))

def w_X0_fitting (p1 : Int32) (σ : Sg) (Q : Int32 → Prop) : Prop :=
  ∃ (I1 : Int32 → Int32 → Prop) (μ1 : Int32 → Int32 → Nat), I1 0 0 ∧ ∀ (i3_1 : Int32) (i4_1 : Int32), I1 i3_1 i4_1 → ((gI σ 1) ≤ i4_1 → Q i3_1) ∧ (¬ (gI σ 1) ≤ i4_1 → vp_in i4_1 9 ∧ vp_in p1 5 ∧ ((gA σ 20 (ix p1)) < (gA σ 6 (ix i4_1)) → I1 i3_1 (i4_1 + 1) ∧ μ1 i3_1 (i4_1 + 1) < μ1 i3_1 i4_1) ∧ (¬ (gA σ 20 (ix p1)) < (gA σ 6 (ix i4_1)) → vp_in i4_1 9 ∧ vp_in p1 5 ∧ ((gA σ 21 (ix p1)) < (gA σ 7 (ix i4_1)) → I1 i3_1 (i4_1 + 1) ∧ μ1 i3_1 (i4_1 + 1) < μ1 i3_1 i4_1) ∧ (¬ (gA σ 21 (ix p1)) < (gA σ 7 (ix i4_1)) → ∀ v9 : Int32, v9 = i3_1 ||| (iShl 1 i4_1) → I1 v9 (i4_1 + 1) ∧ μ1 v9 (i4_1 + 1) < μ1 i3_1 i4_1)))

def w_X0_offer (p1 : Int32) (p2 : Int32) (p3 : Int32) (σ : Sg) (Q : Sg → Prop) : Prop :=
  ∀ v1 : Int32, v1 = p2 - 1 → ∃ (I2 : Int32 → Sg → Prop) (μ2 : Int32 → Sg → Nat), I2 v1 σ ∧ ∀ (i4_2 : Int32) (σ2 : Sg), I2 i4_2 σ2 → (i4_2 ≤ 0 → Q σ2) ∧ (¬ i4_2 ≤ 0 → ∀ v4 : Int32, v4 = i4_2 &&& p3 → ∃ (I5 : Int32 → Sg → Prop) (μ5 : Int32 → Sg → Nat), I5 v4 σ2 ∧ ∀ (i6_5 : Int32) (σ5 : Sg), I5 i6_5 σ5 → (i6_5 ≤ 0 → I2 (i4_2 + (-1)) σ5 ∧ μ2 (i4_2 + (-1)) σ5 < μ2 i4_2 σ2) ∧ (¬ i6_5 ≤ 0 → vp_in (i4_2 ^^^ i6_5) 512 ∧ ∀ v8 : Int64, v8 = gB σ5 11 (ix (i4_2 ^^^ i6_5)) → vp_in i6_5 512 ∧ vp_in p1 5 ∧ ((gA σ5 19 (ix p1)) < (gA σ5 22 (ix i6_5)) → ∀ v12 : Int32, v12 = (i6_5 - 1) &&& v4 → I5 v12 σ5 ∧ μ5 v12 σ5 < μ5 i6_5 σ5) ∧ (¬ (gA σ5 19 (ix p1)) < (gA σ5 22 (ix i6_5)) → (¬ v8 = 4611686018427387904 → vp_in p1 5 ∧ vp_in i6_5 512 ∧ ∀ v16 : Int64, v16 = (v8 + (((gA σ5 19 (ix p1)).toInt64) * 1953125)) + (p1.toInt64 * ((gA σ5 23 (ix i6_5)).toInt64)) → vp_in i4_2 512 ∧ vp_in i4_2 512 ∧ ∀ σ19 : Sg, σ19 = sB σ5 11 (ix i4_2) (mminl (gB σ5 11 (ix i4_2)) v16) → ∀ v20 : Int32, v20 = (i6_5 - 1) &&& v4 → I5 v20 σ19 ∧ μ5 v20 σ19 < μ5 i6_5 σ5) ∧ (v8 = 4611686018427387904 → ∀ v21 : Int32, v21 = (i6_5 - 1) &&& v4 → I5 v21 σ5 ∧ μ5 v21 σ5 < μ5 i6_5 σ5))))

def w_X0_find (σ : Sg) (Q : Sg → Prop) : Prop :=
  ((gI σ 6) = 0 → ∀ v2 : Int32, v2 = iShl 1 (gI σ 1) → w_X0_measure σ (fun σ4 => ∃ (I5 : Int32 → Sg → Prop) (μ5 : Int32 → Sg → Nat), I5 0 σ4 ∧ ∀ (i4_5 : Int32) (σ5 : Sg), I5 i4_5 σ5 → (v2 ≤ i4_5 → ∃ (I7 : Int32 → Sg → Prop) (μ7 : Int32 → Sg → Nat), I7 0 σ5 ∧ ∀ (i4_7 : Int32) (σ7 : Sg), I7 i4_7 σ7 → ((gI σ7 5) ≤ i4_7 → vp_in (v2 - 1) 512 ∧ w_X0_choose (gB σ7 11 (ix (v2 - 1))) σ7 (fun σ11 => ∀ σ12 : Sg, σ12 = sI σ11 6 1 → Q σ12)) ∧ (¬ (gI σ7 5) ≤ i4_7 → w_X0_fitting i4_7 σ7 (fun r13 => w_X0_offer i4_7 v2 r13 σ7 (fun σ15 => I7 (i4_7 + 1) σ15 ∧ μ7 (i4_7 + 1) σ15 < μ7 i4_7 σ7)))) ∧ (¬ v2 ≤ i4_5 → (¬ i4_5 = 0 → vp_in i4_5 512 ∧ ∀ σ18 : Sg, σ18 = sB σ5 11 (ix i4_5) 4611686018427387904 → I5 (i4_5 + 1) σ18 ∧ μ5 (i4_5 + 1) σ18 < μ5 i4_5 σ5) ∧ (i4_5 = 0 → vp_in i4_5 512 ∧ ∀ σ20 : Sg, σ20 = sB σ5 11 (ix i4_5) 0 → I5 (i4_5 + 1) σ20 ∧ μ5 (i4_5 + 1) σ20 < μ5 i4_5 σ5)))) ∧ (¬ (gI σ 6) = 0 → Q σ)

def w_X6_checkCut (σ : Sg) (Q : Sg → Prop) (X : String → Sg → Prop) : Prop :=
  w_X0_find σ (fun σ2 => (¬ (gI σ2 7) = 0 → Q σ2) ∧ ((gI σ2 7) = 0 → X "java/util/NoSuchElementException" σ2))

def w_X6_stickOf (p1 : Int32) (σ : Sg) (Q : Int32 → Sg → Prop) (X : String → Sg → Prop) : Prop :=
  w_X6_checkMember p1 σ (w_X6_checkCut σ (fun σ3 => vp_in p1 9 ∧ Q (gA σ3 18 (ix p1)) σ3) X) X

def w_L_stickOf (p1 : Int32) (σ : Sg) (Q : Int32 → Sg → Prop) : Prop :=
  w_X6_stickOf p1 σ (fun r1 σ2 => Q r1 σ2) (fun E9 σ3 => (E9 = "java/lang/IndexOutOfBoundsException" ∧ Q (-77) σ3) ∨ (E9 = "java/util/NoSuchElementException" ∧ Q (-75) σ3))

def w_X6_wood (σ : Sg) (Q : Int32 → Sg → Prop) (X : String → Sg → Prop) : Prop :=
  w_X6_checkCut σ (fun σ2 => Q (gI σ2 8) σ2) X

def w_L_wood (σ : Sg) (Q : Int32 → Sg → Prop) : Prop :=
  w_X6_wood σ (fun r1 σ2 => Q r1 σ2) (fun E9 σ3 => (E9 = "java/util/NoSuchElementException" ∧ Q (-75) σ3))

def w_X0_leftOf (p1 : Int32) (p2 : Int32) (σ : Sg) (Q : Int32 → Prop) : Prop :=
  ∃ (I1 : Int32 → Int32 → Prop) (μ1 : Int32 → Int32 → Nat), I1 0 0 ∧ ∀ (i3_1 : Int32) (i4_1 : Int32), I1 i3_1 i4_1 → (p2 ≤ i4_1 → vp_in p1 5 ∧ vp_in i3_1 512 ∧ Q ((gA σ 19 (ix p1)) - (gA σ 22 (ix i3_1)))) ∧ (¬ p2 ≤ i4_1 → vp_in i4_1 9 ∧ (¬ (gA σ 18 (ix i4_1)) = p1 → ∀ v7 : Int32, v7 = i3_1 ||| 0 → I1 v7 (i4_1 + 1) ∧ μ1 v7 (i4_1 + 1) < μ1 i3_1 i4_1) ∧ ((gA σ 18 (ix i4_1)) = p1 → ∀ v8 : Int32, v8 = i3_1 ||| (iShl 1 i4_1) → I1 v8 (i4_1 + 1) ∧ μ1 v8 (i4_1 + 1) < μ1 i3_1 i4_1))

def w_X6_waste (p1 : Int32) (σ : Sg) (Q : Int32 → Sg → Prop) (X : String → Sg → Prop) : Prop :=
  (p1 < 0 → X "java/lang/IndexOutOfBoundsException" σ) ∧ (¬ p1 < 0 → (p1 < (gI σ 5) → w_X6_checkCut σ (fun σ4 => w_X0_leftOf p1 (gI σ4 1) σ4 (fun r5 => Q r5 σ4)) X) ∧ (¬ p1 < (gI σ 5) → X "java/lang/IndexOutOfBoundsException" σ))

def w_L_waste (p1 : Int32) (σ : Sg) (Q : Int32 → Sg → Prop) : Prop :=
  w_X6_waste p1 σ (fun r1 σ2 => Q r1 σ2) (fun E9 σ3 => (E9 = "java/lang/IndexOutOfBoundsException" ∧ Q (-77) σ3) ∨ (E9 = "java/util/NoSuchElementException" ∧ Q (-75) σ3))

def w_X6_setProps (p1 : Int32) (σ : Sg) (Q : Int32 → Sg → Prop) (X : String → Sg → Prop) : Prop :=
  w_X6_isWithin p1 0 9 σ (fun r1 => (¬ r1 = 0 → ∀ v3 : Int32, v3 = gI σ 9 → ∀ σ4 : Sg, σ4 = sI σ 9 p1 → ∀ σ5 : Sg, σ5 = sI σ4 10 0 → Q v3 σ5) ∧ (r1 = 0 → X "java/lang/IllegalArgumentException" σ))

def w_L_setProps (p1 : Int32) (σ : Sg) (Q : Int32 → Sg → Prop) : Prop :=
  w_X6_setProps p1 σ (fun r1 σ2 => Q r1 σ2) (fun E9 σ3 => (E9 = "java/lang/IllegalArgumentException" ∧ Q (-78) σ3))

def w_X2_isOnGround (p1 : Int32) (σ : Sg) (Q : Int32 → Prop) : Prop :=
  vp_in p1 9 ∧ vp_in (gA σ 4 (ix p1)) 8 ∧ (¬ (gA σ 3 (ix (gA σ 4 (ix p1)))) = 45 → Q 1) ∧ ((gA σ 3 (ix (gA σ 4 (ix p1)))) = 45 → vp_in p1 9 ∧ vp_in (gA σ 5 (ix p1)) 8 ∧ ((gA σ 3 (ix (gA σ 5 (ix p1)))) = 45 → Q 0) ∧ (¬ (gA σ 3 (ix (gA σ 5 (ix p1)))) = 45 → Q 1))

def w_X3_wayFor (p1 : Int32) (p2 : Int32) (σ : Sg) (Q : Int32 → Prop) : Prop :=
  vp_in p1 12 ∧ ∀ v2 : Int32, v2 = gA σ 15 (ix p1) → vp_in p1 12 ∧ ((gA σ 13 (ix p1)) = p2 → Q v2) ∧ (¬ (gA σ 13 (ix p1)) = p2 → (¬ v2 = 4 → Q (v2 ^^^ 1)) ∧ (v2 = 4 → Q v2))

def w_X4_gather (σ : Sg) (Q : Sg → Prop) : Prop :=
  ∀ σ1 : Sg, σ1 = sI σ 12 0 → ∃ (I2 : Int32 → Sg → Prop) (μ2 : Int32 → Sg → Nat), I2 0 σ1 ∧ ∀ (i3_2 : Int32) (σ2 : Sg), I2 i3_2 σ2 → ((gI σ2 1) ≤ i3_2 → Q σ2) ∧ (¬ (gI σ2 1) ≤ i3_2 → w_X2_isOnGround i3_2 σ2 (fun r4 => (r4 = 0 → ∀ σ6 : Sg, σ6 = sI σ2 12 ((gI σ2 12) ||| (iShl 1 i3_2)) → vp_in i3_2 9 ∧ ∀ σ8 : Sg, σ8 = sA σ6 25 (ix i3_2) 0 → ∃ (I9 : Int32 → Sg → Prop) (μ9 : Int32 → Sg → Nat), I9 0 σ8 ∧ ∀ (i4_9 : Int32) (σ9 : Sg), I9 i4_9 σ9 → (5 ≤ i4_9 → ∃ (I11 : Int32 → Sg → Prop) (μ11 : Int32 → Sg → Nat), I11 0 σ9 ∧ ∀ (i4_11 : Int32) (σ11 : Sg), I11 i4_11 σ11 → ((gI σ11 4) ≤ i4_11 → I2 (i3_2 + 1) σ11 ∧ μ2 (i3_2 + 1) σ11 < μ2 i3_2 σ2) ∧ (¬ (gI σ11 4) ≤ i4_11 → w_X3_partner i4_11 i3_2 σ11 (fun r13 => (r13 < 0 → I11 (i4_11 + 1) σ11 ∧ μ11 (i4_11 + 1) σ11 < μ11 i4_11 σ11) ∧ (¬ r13 < 0 → vp_in i3_2 9 ∧ vp_in i3_2 9 ∧ ∀ σ17 : Sg, σ17 = sA σ11 25 (ix i3_2) ((gA σ11 25 (ix i3_2)) ||| (iShl 1 r13)) → w_X3_wayFor i4_11 i3_2 σ17 (fun r18 => vp_in ((i3_2 * 5) + r18) 45 ∧ vp_in ((i3_2 * 5) + r18) 45 ∧ ∀ σ21 : Sg, σ21 = sA σ17 24 (ix ((i3_2 * 5) + r18)) ((gA σ17 24 (ix ((i3_2 * 5) + r18))) ||| (iShl 1 r13)) → I11 (i4_11 + 1) σ21 ∧ μ11 (i4_11 + 1) σ21 < μ11 i4_11 σ11))))) ∧ (¬ 5 ≤ i4_9 → vp_in ((i3_2 * 5) + i4_9) 45 ∧ ∀ σ23 : Sg, σ23 = sA σ9 24 (ix ((i3_2 * 5) + i4_9)) 0 → I9 (i4_9 + 1) σ23 ∧ μ9 (i4_9 + 1) σ23 < μ9 i4_9 σ9)) ∧ (¬ r4 = 0 → ∀ σ24 : Sg, σ24 = sI σ2 12 ((gI σ2 12) ||| 0) → vp_in i3_2 9 ∧ ∀ σ26 : Sg, σ26 = sA σ24 25 (ix i3_2) 0 → ∃ (I27 : Int32 → Sg → Prop) (μ27 : Int32 → Sg → Nat), I27 0 σ26 ∧ ∀ (i4_27 : Int32) (σ27 : Sg), I27 i4_27 σ27 → (5 ≤ i4_27 → ∃ (I29 : Int32 → Sg → Prop) (μ29 : Int32 → Sg → Nat), I29 0 σ27 ∧ ∀ (i4_29 : Int32) (σ29 : Sg), I29 i4_29 σ29 → ((gI σ29 4) ≤ i4_29 → I2 (i3_2 + 1) σ29 ∧ μ2 (i3_2 + 1) σ29 < μ2 i3_2 σ2) ∧ (¬ (gI σ29 4) ≤ i4_29 → w_X3_partner i4_29 i3_2 σ29 (fun r31 => (r31 < 0 → I29 (i4_29 + 1) σ29 ∧ μ29 (i4_29 + 1) σ29 < μ29 i4_29 σ29) ∧ (¬ r31 < 0 → vp_in i3_2 9 ∧ vp_in i3_2 9 ∧ ∀ σ35 : Sg, σ35 = sA σ29 25 (ix i3_2) ((gA σ29 25 (ix i3_2)) ||| (iShl 1 r31)) → w_X3_wayFor i4_29 i3_2 σ35 (fun r36 => vp_in ((i3_2 * 5) + r36) 45 ∧ vp_in ((i3_2 * 5) + r36) 45 ∧ ∀ σ39 : Sg, σ39 = sA σ35 24 (ix ((i3_2 * 5) + r36)) ((gA σ35 24 (ix ((i3_2 * 5) + r36))) ||| (iShl 1 r31)) → I29 (i4_29 + 1) σ39 ∧ μ29 (i4_29 + 1) σ39 < μ29 i4_29 σ29))))) ∧ (¬ 5 ≤ i4_27 → vp_in ((i3_2 * 5) + i4_27) 45 ∧ ∀ σ41 : Sg, σ41 = sA σ27 24 (ix ((i3_2 * 5) + i4_27)) 0 → I27 (i4_27 + 1) σ41 ∧ μ27 (i4_27 + 1) σ41 < μ27 i4_27 σ27))))

def w_X4_propsFor (p1 : Int32) (σ : Sg) (Q : Int32 → Prop) : Prop :=
  ∃ (I1 : Int32 → Int32 → Prop) (μ1 : Int32 → Int32 → Nat), I1 0 0 ∧ ∀ (i2_1 : Int32) (i3_1 : Int32), I1 i2_1 i3_1 → (9 ≤ i3_1 → Q i2_1) ∧ (¬ 9 ≤ i3_1 → (((p1 &&& (gI σ 12)) &&& (iShl 1 i3_1)) = 0 → I1 i2_1 (i3_1 + 1) ∧ μ1 i2_1 (i3_1 + 1) < μ1 i2_1 i3_1) ∧ (¬ ((p1 &&& (gI σ 12)) &&& (iShl 1 i3_1)) = 0 → vp_in i3_1 9 ∧ w_J6_bitCount_0f7a4 ((gA σ 25 (ix i3_1)) &&& p1) σ (fun r5 => (2 ≤ r5 → I1 i2_1 (i3_1 + 1) ∧ μ1 i2_1 (i3_1 + 1) < μ1 i2_1 i3_1) ∧ (¬ 2 ≤ r5 → I1 (i2_1 + 1) (i3_1 + 1) ∧ μ1 (i2_1 + 1) (i3_1 + 1) < μ1 i2_1 i3_1))))

def w_X4_canMoveIn (p1 : Int32) (p2 : Int32) (σ : Sg) (Q : Int32 → Prop) : Prop :=
  ∃ (I1 : Int32 → Int32 → Prop) (μ1 : Int32 → Int32 → Nat), I1 0 0 ∧ ∀ (i3_1 : Int32) (i4_1 : Int32), I1 i3_1 i4_1 → (5 ≤ i4_1 → (1 < i3_1 → Q 0) ∧ (¬ 1 < i3_1 → Q 1)) ∧ (¬ 5 ≤ i4_1 → vp_in ((p1 * 5) + i4_1) 45 ∧ (((gA σ 24 (ix ((p1 * 5) + i4_1))) &&& p2) = 0 → ∀ v6 : Int32, v6 = i3_1 + 0 → I1 v6 (i4_1 + 1) ∧ μ1 v6 (i4_1 + 1) < μ1 i3_1 i4_1) ∧ (¬ ((gA σ 24 (ix ((p1 * 5) + i4_1))) &&& p2) = 0 → ∀ v7 : Int32, v7 = i3_1 + 1 → I1 v7 (i4_1 + 1) ∧ μ1 v7 (i4_1 + 1) < μ1 i3_1 i4_1))

def w_X4_goForward (p1 : Int32) (σ : Sg) (Q : Sg → Prop) : Prop :=
  ∀ σ1 : Sg, σ1 = sA σ 26 (ix 0) 1 → ∃ (I2 : Int32 → Sg → Prop) (μ2 : Int32 → Sg → Nat), I2 1 σ1 ∧ ∀ (i2_2 : Int32) (σ2 : Sg), I2 i2_2 σ2 → ((gI σ2 11) < i2_2 → Q σ2) ∧ (¬ (gI σ2 11) < i2_2 → vp_in i2_2 512 ∧ ∀ σ5 : Sg, σ5 = sA σ2 26 (ix i2_2) 0 → w_X4_propsFor i2_2 σ5 (fun r6 => ((gI σ5 9) < r6 → ∃ (I8 : Int32 → Sg → Prop) (μ8 : Int32 → Sg → Nat), I8 0 σ5 ∧ ∀ (i4_8 : Int32) (σ8 : Sg), I8 i4_8 σ8 → (p1 ≤ i4_8 → I2 (i2_2 + 1) σ8 ∧ μ2 (i2_2 + 1) σ8 < μ2 i2_2 σ2) ∧ (¬ p1 ≤ i4_8 → I2 (i2_2 + 1) σ8 ∧ μ2 (i2_2 + 1) σ8 < μ2 i2_2 σ2)) ∧ (¬ (gI σ5 9) < r6 → ∃ (I10 : Int32 → Sg → Prop) (μ10 : Int32 → Sg → Nat), I10 0 σ5 ∧ ∀ (i4_10 : Int32) (σ10 : Sg), I10 i4_10 σ10 → (p1 ≤ i4_10 → I2 (i2_2 + 1) σ10 ∧ μ2 (i2_2 + 1) σ10 < μ2 i2_2 σ2) ∧ (¬ p1 ≤ i4_10 → ∀ v12 : Int32, v12 = i2_2 &&& ((iShl 1 i4_10) ^^^ (-1)) → (v12 = i2_2 → I10 (i4_10 + 1) σ10 ∧ μ10 (i4_10 + 1) σ10 < μ10 i4_10 σ10) ∧ (¬ v12 = i2_2 → vp_in v12 512 ∧ ((gA σ10 26 (ix v12)) ≤ 0 → I10 (i4_10 + 1) σ10 ∧ μ10 (i4_10 + 1) σ10 < μ10 i4_10 σ10) ∧ (¬ (gA σ10 26 (ix v12)) ≤ 0 → w_X4_canMoveIn i4_10 v12 σ10 (fun r16 => (r16 = 0 → I10 (i4_10 + 1) σ10 ∧ μ10 (i4_10 + 1) σ10 < μ10 i4_10 σ10) ∧ (¬ r16 = 0 → vp_in i2_2 512 ∧ vp_in v12 512 ∧ vp_in i2_2 512 ∧ ∀ σ21 : Sg, σ21 = sA σ10 26 (ix i2_2) ((gA σ10 26 (ix i2_2)) + (gA σ10 26 (ix v12))) → I10 (i4_10 + 1) σ21 ∧ μ10 (i4_10 + 1) σ21 < μ10 i4_10 σ10))))))))

def w_X4_goBackward (p1 : Int32) (σ : Sg) (Q : Sg → Prop) : Prop :=
  ∃ (I1 : Int32 → Sg → Prop) (μ1 : Int32 → Sg → Nat), I1 0 σ ∧ ∀ (i2_1 : Int32) (σ1 : Sg), I1 i2_1 σ1 → ((gI σ1 11) < i2_1 → ∀ v3 : Int32, v3 = gI σ1 11 → ∃ (I4 : Int32 → Sg → Prop) (μ4 : Int32 → Sg → Nat), I4 v3 σ1 ∧ ∀ (i2_4 : Int32) (σ4 : Sg), I4 i2_4 σ4 → (i2_4 ≤ 0 → Q σ4) ∧ (¬ i2_4 ≤ 0 → vp_in i2_4 512 ∧ ((gA σ4 27 (ix i2_4)) = 0 → ∃ (I8 : Int32 → Sg → Prop) (μ8 : Int32 → Sg → Nat), I8 0 σ4 ∧ ∀ (i4_8 : Int32) (σ8 : Sg), I8 i4_8 σ8 → (p1 ≤ i4_8 → I4 (i2_4 + (-1)) σ8 ∧ μ4 (i2_4 + (-1)) σ8 < μ4 i2_4 σ4) ∧ (¬ p1 ≤ i4_8 → I4 (i2_4 + (-1)) σ8 ∧ μ4 (i2_4 + (-1)) σ8 < μ4 i2_4 σ4)) ∧ (¬ (gA σ4 27 (ix i2_4)) = 0 → w_X4_propsFor i2_4 σ4 (fun r10 => ((gI σ4 9) < r10 → ∃ (I12 : Int32 → Sg → Prop) (μ12 : Int32 → Sg → Nat), I12 0 σ4 ∧ ∀ (i4_12 : Int32) (σ12 : Sg), I12 i4_12 σ12 → (p1 ≤ i4_12 → I4 (i2_4 + (-1)) σ12 ∧ μ4 (i2_4 + (-1)) σ12 < μ4 i2_4 σ4) ∧ (¬ p1 ≤ i4_12 → I4 (i2_4 + (-1)) σ12 ∧ μ4 (i2_4 + (-1)) σ12 < μ4 i2_4 σ4)) ∧ (¬ (gI σ4 9) < r10 → ∃ (I14 : Int32 → Sg → Prop) (μ14 : Int32 → Sg → Nat), I14 0 σ4 ∧ ∀ (i4_14 : Int32) (σ14 : Sg), I14 i4_14 σ14 → (p1 ≤ i4_14 → I4 (i2_4 + (-1)) σ14 ∧ μ4 (i2_4 + (-1)) σ14 < μ4 i2_4 σ4) ∧ (¬ p1 ≤ i4_14 → ∀ v16 : Int32, v16 = i2_4 &&& ((iShl 1 i4_14) ^^^ (-1)) → (v16 = i2_4 → I14 (i4_14 + 1) σ14 ∧ μ14 (i4_14 + 1) σ14 < μ14 i4_14 σ14) ∧ (¬ v16 = i2_4 → w_X4_canMoveIn i4_14 v16 σ14 (fun r18 => (r18 = 0 → I14 (i4_14 + 1) σ14 ∧ μ14 (i4_14 + 1) σ14 < μ14 i4_14 σ14) ∧ (¬ r18 = 0 → vp_in v16 512 ∧ ∀ σ21 : Sg, σ21 = sA σ14 27 (ix v16) (vp_nar .boolean 1) → I14 (i4_14 + 1) σ21 ∧ μ14 (i4_14 + 1) σ21 < μ14 i4_14 σ14))))))))) ∧ (¬ (gI σ1 11) < i2_1 → (¬ i2_1 = (gI σ1 11) → vp_in i2_1 512 ∧ ∀ σ24 : Sg, σ24 = sA σ1 27 (ix i2_1) (vp_nar .boolean 0) → I1 (i2_1 + 1) σ24 ∧ μ1 (i2_1 + 1) σ24 < μ1 i2_1 σ1) ∧ (i2_1 = (gI σ1 11) → vp_in i2_1 512 ∧ ∀ σ26 : Sg, σ26 = sA σ1 27 (ix i2_1) (vp_nar .boolean 1) → I1 (i2_1 + 1) σ26 ∧ μ1 (i2_1 + 1) σ26 < μ1 i2_1 σ1))

def w_X4_firstThatLeads (p1 : Int32) (p2 : Int32) (σ : Sg) (Q : Int32 → Prop) : Prop :=
  ∃ (I1 : Int32 → Prop) (μ1 : Int32 → Nat), I1 0 ∧ ∀ (i3_1 : Int32), I1 i3_1 → (p2 ≤ i3_1 → Q (-1)) ∧ (¬ p2 ≤ i3_1 → ∀ v3 : Int32, v3 = p1 ||| (iShl 1 i3_1) → (v3 = p1 → I1 (i3_1 + 1) ∧ μ1 (i3_1 + 1) < μ1 i3_1) ∧ (¬ v3 = p1 → vp_in v3 512 ∧ ((gA σ 27 (ix v3)) = 0 → I1 (i3_1 + 1) ∧ μ1 (i3_1 + 1) < μ1 i3_1) ∧ (¬ (gA σ 27 (ix v3)) = 0 → w_X4_propsFor v3 σ (fun r7 => ((gI σ 9) < r7 → I1 (i3_1 + 1) ∧ μ1 (i3_1 + 1) < μ1 i3_1) ∧ (¬ (gI σ 9) < r7 → w_X4_canMoveIn i3_1 p1 σ (fun r9 => (r9 = 0 → I1 (i3_1 + 1) ∧ μ1 (i3_1 + 1) < μ1 i3_1) ∧ (¬ r9 = 0 → Q i3_1)))))))

def w_X4_findOrder (p1 : Int32) (σ : Sg) (Q : Sg → Prop) : Prop :=
  ∃ (I1 : Int32 → Int32 → Sg → Prop) (μ1 : Int32 → Int32 → Sg → Nat), I1 0 0 σ ∧ ∀ (i2_1 : Int32) (i3_1 : Int32) (σ1 : Sg), I1 i2_1 i3_1 σ1 → (p1 ≤ i3_1 → Q σ1) ∧ (¬ p1 ≤ i3_1 → w_X4_firstThatLeads i2_1 p1 σ1 (fun r3 => (0 ≤ r3 → vp_in i3_1 9 ∧ ∀ σ6 : Sg, σ6 = sA σ1 28 (ix i3_1) r3 → ∀ v7 : Int32, v7 = i2_1 ||| (iShl 1 r3) → I1 v7 (i3_1 + 1) σ6 ∧ μ1 v7 (i3_1 + 1) σ6 < μ1 i2_1 i3_1 σ1) ∧ (¬ 0 ≤ r3 → Q σ1)))

def w_X4_find (σ : Sg) (Q : Sg → Prop) : Prop :=
  ((gI σ 10) = 0 → ∀ σ2 : Sg, σ2 = sI σ 11 ((iShl 1 (gI σ 1)) - 1) → w_X4_gather σ2 (fun σ4 => w_X4_goForward (gI σ4 1) σ4 (fun σ6 => w_X4_goBackward (gI σ6 1) σ6 (fun σ8 => w_X4_findOrder (gI σ8 1) σ8 (fun σ10 => ∀ σ11 : Sg, σ11 = sI σ10 10 1 → Q σ11))))) ∧ (¬ (gI σ 10) = 0 → Q σ)

def w_X4_orderCount (σ : Sg) (Q : Int32 → Prop) : Prop :=
  vp_in (gI σ 11) 512 ∧ Q (gA σ 26 (ix (gI σ 11)))

def w_X6_checkPlaceInOrder (p1 : Int32) (σ : Sg) (Q : Sg → Prop) (X : String → Sg → Prop) : Prop :=
  w_X4_find σ (fun σ2 => w_X4_orderCount σ2 (fun r3 => (¬ r3 = 0 → (p1 < 0 → X "java/lang/IndexOutOfBoundsException" σ2) ∧ (¬ p1 < 0 → (p1 < (gI σ2 1) → Q σ2) ∧ (¬ p1 < (gI σ2 1) → X "java/lang/IndexOutOfBoundsException" σ2))) ∧ (r3 = 0 → X "java/util/NoSuchElementException" σ2)))

def w_X6_raised (p1 : Int32) (σ : Sg) (Q : Int32 → Sg → Prop) (X : String → Sg → Prop) : Prop :=
  w_X6_checkPlaceInOrder p1 σ (fun σ2 => vp_in p1 9 ∧ Q (gA σ2 28 (ix p1)) σ2) X

def w_L_raised (p1 : Int32) (σ : Sg) (Q : Int32 → Sg → Prop) : Prop :=
  w_X6_raised p1 σ (fun r1 σ2 => Q r1 σ2) (fun E9 σ3 => (E9 = "java/util/NoSuchElementException" ∧ Q (-75) σ3) ∨ (E9 = "java/lang/IndexOutOfBoundsException" ∧ Q (-77) σ3))

def w_X6_props (p1 : Int32) (σ : Sg) (Q : Int32 → Sg → Prop) (X : String → Sg → Prop) : Prop :=
  w_X6_checkPlaceInOrder p1 σ (fun σ2 => ∃ (I3 : Int32 → Int32 → Prop) (μ3 : Int32 → Int32 → Nat), I3 0 0 ∧ ∀ (i2_3 : Int32) (i3_3 : Int32), I3 i2_3 i3_3 → (p1 < i3_3 → w_X4_propsFor i2_3 σ2 (fun r5 => Q r5 σ2)) ∧ (¬ p1 < i3_3 → vp_in i3_3 9 ∧ ∀ v7 : Int32, v7 = i2_3 ||| (iShl 1 (gA σ2 28 (ix i3_3))) → I3 v7 (i3_3 + 1) ∧ μ3 v7 (i3_3 + 1) < μ3 i2_3 i3_3)) X

def w_L_props (p1 : Int32) (σ : Sg) (Q : Int32 → Sg → Prop) : Prop :=
  w_X6_props p1 σ (fun r1 σ2 => Q r1 σ2) (fun E9 σ3 => (E9 = "java/util/NoSuchElementException" ∧ Q (-75) σ3) ∨ (E9 = "java/lang/IndexOutOfBoundsException" ∧ Q (-77) σ3))

def w_X4_lowestStuck (σ : Sg) (Q : Int32 → Prop) : Prop :=
  ∃ (I1 : Int32 → Prop) (μ1 : Int32 → Nat), I1 0 ∧ ∀ (i1_1 : Int32), I1 i1_1 → (9 ≤ i1_1 → Q (-1)) ∧ (¬ 9 ≤ i1_1 → ∀ v3 : Int32, v3 = iShl 1 i1_1 → (((gI σ 11) &&& v3) = 0 → I1 (i1_1 + 1) ∧ μ1 (i1_1 + 1) < μ1 i1_1) ∧ (¬ ((gI σ 11) &&& v3) = 0 → w_X4_canMoveIn i1_1 ((gI σ 11) ^^^ v3) σ (fun r5 => (¬ r5 = 0 → I1 (i1_1 + 1) ∧ μ1 (i1_1 + 1) < μ1 i1_1) ∧ (r5 = 0 → Q i1_1))))

def w_X6_stuck (σ : Sg) (Q : Int32 → Sg → Prop) (X : String → Sg → Prop) : Prop :=
  w_X4_find σ (fun σ2 => w_X4_lowestStuck σ2 (fun r3 => (0 ≤ r3 → Q r3 σ2) ∧ (¬ 0 ≤ r3 → X "java/util/NoSuchElementException" σ2)))

def w_L_stuck (σ : Sg) (Q : Int32 → Sg → Prop) : Prop :=
  w_X6_stuck σ (fun r1 σ2 => Q r1 σ2) (fun E9 σ3 => (E9 = "java/util/NoSuchElementException" ∧ Q (-75) σ3))

def w_X6_allForce (σ : Sg) (Q : Int64 → Sg → Prop) (X : String → Sg → Prop) : Prop :=
  w_X6_checkStanding σ (fun σ2 => ∃ (I3 : Int64 → Int32 → Prop) (μ3 : Int64 → Int32 → Nat), I3 0 0 ∧ ∀ (i1_3 : Int64) (i3_3 : Int32), I3 i1_3 i3_3 → ((gI σ2 1) ≤ i3_3 → Q i1_3 σ2) ∧ (¬ (gI σ2 1) ≤ i3_3 → vp_in i3_3 9 ∧ ∀ v6 : Int64, v6 = i1_3 + (mabsl (gB σ2 2 (ix i3_3))) → I3 v6 (i3_3 + 1) ∧ μ3 v6 (i3_3 + 1) < μ3 i1_3 i3_3)) X

def w_L_allForce (σ : Sg) (Q : Int64 → Sg → Prop) : Prop :=
  w_X6_allForce σ (fun r1 σ2 => Q r1 σ2) (fun E9 σ3 => (E9 = "java/lang/IllegalStateException" ∧ Q (-79) σ3))

def w_X6_rightShare (σ : Sg) (Q : UInt32 → Prop) (X : String → Sg → Prop) : Prop :=
  (¬ (gI σ 4) = 0 → ∃ (I2 : Int32 → Int32 → Prop) (μ2 : Int32 → Int32 → Nat), I2 0 0 ∧ ∀ (i1_2 : Int32) (i2_2 : Int32), I2 i1_2 i2_2 → ((gI σ 4) ≤ i2_2 → vf_n32 (FP.fdiv (FP.i2f i1_2) (FP.i2f (gI σ 4))) ∧ Q (FP.fdiv (FP.i2f i1_2) (FP.i2f (gI σ 4)))) ∧ (¬ (gI σ 4) ≤ i2_2 → w_X3_isThinEnough i2_2 σ (fun r5 => (r5 = 0 → ∀ v7 : Int32, v7 = i1_2 + 0 → I2 v7 (i2_2 + 1) ∧ μ2 v7 (i2_2 + 1) < μ2 i1_2 i2_2) ∧ (¬ r5 = 0 → ∀ v8 : Int32, v8 = i1_2 + 1 → I2 v8 (i2_2 + 1) ∧ μ2 v8 (i2_2 + 1) < μ2 i1_2 i2_2)))) ∧ ((gI σ 4) = 0 → X "java/lang/ArithmeticException" σ)

def w_L_rightShare (σ : Sg) (Q : UInt32 → Prop) : Prop :=
  w_X6_rightShare σ (fun r1 => Q r1) (fun E9 σ2 => (E9 = "java/lang/ArithmeticException" ∧ σ = σ2 ∧ Q 3264479232))

def w_X1_sumOfThousandths (p1 : Int32) (σ : Sg) (Q : UInt64 → Prop) : Prop :=
  ∃ (I1 : Int64 → Int64 → Int32 → Prop) (μ1 : Int64 → Int64 → Int32 → Nat), I1 0 0 0 ∧ ∀ (i2_1 : Int64) (i4_1 : Int64) (i6_1 : Int32), I1 i2_1 i4_1 i6_1 → (p1 ≤ i6_1 → vf_n64 (FP.dmul (FP.l2d i2_1) 4751297606875873280) ∧ vf_n64 (FP.dadd (FP.dmul (FP.l2d i2_1) 4751297606875873280) (FP.l2d i4_1)) ∧ Q (FP.dadd (FP.dmul (FP.l2d i2_1) 4751297606875873280) (FP.l2d i4_1))) ∧ (¬ p1 ≤ i6_1 → vp_in i6_1 25 ∧ ∀ v6 : Int64, v6 = i2_1 + (1000 * (lShr (gB σ 0 (ix i6_1)) 32)) → vp_in i6_1 25 ∧ w_X1_restInThousandths i6_1 σ (fun r8 => ∀ v9 : Int64, v9 = i4_1 + ((1000 * ((gB σ 0 (ix i6_1)) &&& 4294967295)) + r8) → I1 v6 v9 (i6_1 + 1) ∧ μ1 v6 v9 (i6_1 + 1) < μ1 i2_1 i4_1 i6_1))

def w_X6_meanPull (σ : Sg) (Q : UInt64 → Sg → Prop) (X : String → Sg → Prop) : Prop :=
  w_X6_checkStanding σ (fun σ2 => (¬ (gI σ2 1) = 0 → w_X1_sumOfThousandths (gI σ2 1) σ2 (fun r4 => vf_n64 (FP.ddiv r4 (FP.i2d (gI σ2 1))) ∧ Q (FP.ddiv r4 (FP.i2d (gI σ2 1))) σ2)) ∧ ((gI σ2 1) = 0 → X "java/lang/ArithmeticException" σ2)) X

def w_L_meanPull (σ : Sg) (Q : UInt64 → Sg → Prop) : Prop :=
  w_X6_meanPull σ (fun r1 σ2 => Q r1 σ2) (fun E9 σ3 => (E9 = "java/lang/IllegalStateException" ∧ Q 13858631584581681152 σ3) ∨ (E9 = "java/lang/ArithmeticException" ∧ Q 13858279740860792832 σ3))

def w_X6_state (σ : Sg) (Q : Int32 → Sg → Prop) : Prop :=
  w_X1_find σ (fun σ2 => narrow .char (.int (gI σ2 3)) = .int (gI σ2 3) ∧ Q (gI σ2 3) σ2)

def w_X3_canBeConfused (p1 : Int32) (p2 : Int32) (σ : Sg) (Q : Int32 → Prop) : Prop :=
  vp_in p1 12 ∧ vp_in p2 12 ∧ ((gA σ 17 (ix p1)) = (gA σ 17 (ix p2)) → Q 1) ∧ (¬ (gA σ 17 (ix p1)) = (gA σ 17 (ix p2)) → w_X3_misreadMark p1 σ (fun r4 => vp_in p2 12 ∧ (¬ r4 = (gA σ 17 (ix p2)) → Q 0) ∧ (r4 = (gA σ 17 (ix p2)) → Q 1)))

def w_X6_clashes (σ : Sg) (Q : Int32 → Prop) : Prop :=
  ∃ (I1 : Int32 → Int32 → Prop) (μ1 : Int32 → Int32 → Nat), I1 0 0 ∧ ∀ (i1_1 : Int32) (i2_1 : Int32), I1 i1_1 i2_1 → ((gI σ 4) ≤ i2_1 → Q i1_1) ∧ (¬ (gI σ 4) ≤ i2_1 → ∃ (I3 : Int32 → Int32 → Prop) (μ3 : Int32 → Int32 → Nat), I3 i1_1 0 ∧ ∀ (i1_3 : Int32) (i3_3 : Int32), I3 i1_3 i3_3 → (i2_1 ≤ i3_3 → I1 i1_3 (i2_1 + 1) ∧ μ1 i1_3 (i2_1 + 1) < μ1 i1_1 i2_1) ∧ (¬ i2_1 ≤ i3_3 → w_X3_canBeConfused i2_1 i3_3 σ (fun r5 => (r5 = 0 → ∀ v7 : Int32, v7 = i1_3 + 0 → I3 v7 (i3_3 + 1) ∧ μ3 v7 (i3_3 + 1) < μ3 i1_3 i3_3) ∧ (¬ r5 = 0 → ∀ v8 : Int32, v8 = i1_3 + 1 → I3 v8 (i3_3 + 1) ∧ μ3 v8 (i3_3 + 1) < μ3 i1_3 i3_3))))

def w_X6_orders (σ : Sg) (Q : Int32 → Sg → Prop) : Prop :=
  w_X4_find σ (fun σ2 => w_X4_orderCount σ2 (fun r3 => Q r3 σ2))

def w_L_isThrown (σ : Sg) (Q : Int32 → Sg → Prop) : Prop :=
  w_X6_state σ (fun r1 σ2 => w_X6_clashes σ2 (fun r3 => w_X6_orders σ2 (fun r4 σ5 => w_L_node (-1) 0 112 σ5 (fun r6 σ7 => (¬ r6 = (-78) → Q 0 σ7) ∧ (r6 = (-78) → w_L_member 8 0 9 0 σ7 (fun r9 σ10 => (¬ r9 = (-77) → Q 0 σ10) ∧ (r9 = (-77) → w_L_load 8 0 0 σ10 (fun r12 σ13 => (¬ r12 = (-77) → Q 0 σ13) ∧ (r12 = (-77) → w_L_joint 9 0 117 2 1 σ13 (fun r15 σ16 => (¬ r15 = (-77) → Q 0 σ16) ∧ (r15 = (-77) → w_L_cutAt 9 30 σ16 (fun r18 σ19 => (¬ r18 = (-77) → Q 0 σ19) ∧ (r18 = (-77) → w_L_stick 0 9 0 σ19 (fun r21 σ22 => (¬ r21 = (-78) → Q 0 σ22) ∧ (r21 = (-78) → w_L_setProps (-1) σ22 (fun r24 σ25 => (¬ r24 = (-78) → Q 0 σ25) ∧ (r24 = (-78) → w_L_force 9 σ25 (fun r27 σ28 => (¬ r27 = (-77) → Q 0 σ28) ∧ (r27 = (-77) → w_L_isBalanced 31 σ28 (fun r30 σ31 => (¬ r30 = (-78) → Q 0 σ31) ∧ (r30 = (-78) → w_X6_state σ31 (fun r33 σ34 => (¬ r33 = r1 → Q 0 σ34) ∧ (r33 = r1 → w_X6_clashes σ34 (fun r36 => (¬ r36 = r3 → Q 0 σ34) ∧ (r36 = r3 → w_X6_orders σ34 (fun r38 σ39 => (¬ r38 = r4 → Q 0 σ39) ∧ (r38 = r4 → Q 1 σ39)))))))))))))))))))))))))))

def w_J0_isLatin1_aae02_S28 (σ : Sg) (Q : Int32 → Prop) : Prop :=
  Q 1

def w_J3_checkIndex_8e157 (p0 : Int32) (p1 : Int32) (σ : Sg) (Q : Int32 → Prop) : Prop :=
  (p0 < 0 → False) ∧ (¬ p0 < 0 → (p0 < p1 → Q p0) ∧ (¬ p0 < p1 → False))

def w_J0_checkIndex_df160_5 (p0 : Int32) (σ : Sg) (Q : Prop) : Prop :=
  w_J3_checkIndex_8e157 p0 5 σ (fun r1 => Q)

def w_J1_charAt_3b067_V28 (p1 : Int32) (σ : Sg) (Q : Int32 → Prop) : Prop :=
  w_J0_checkIndex_df160_5 p1 σ (vp_in p1 5 ∧ narrow .char (.int ((((sby [117, 100, 108, 114, 102] p1) &&& 255).toUInt32 % 65536).toInt32)) = .int ((((sby [117, 100, 108, 114, 102] p1) &&& 255).toUInt32 % 65536).toInt32) ∧ Q ((((sby [117, 100, 108, 114, 102] p1) &&& 255).toUInt32 % 65536).toInt32))

def w_J0_charAt_5068e_S28 (p1 : Int32) (σ : Sg) (Q : Int32 → Prop) : Prop :=
  w_J1_charAt_3b067_V28 p1 σ (fun r2 => narrow .char (.int r2) = .int r2 ∧ Q r2)

def w_J0_isLatin1_aae02_S16 (σ : Sg) (Q : Int32 → Prop) : Prop :=
  Q 1

def w_J0_coder_7d493_S16 (σ : Sg) (Q : Int32 → Prop) : Prop :=
  Q 0

def w_J0_length_8abf5_S16 (σ : Sg) (Q : Int32 → Prop) : Prop :=
  Q 4

def w_J1_indexOfChar_4cfef_V16_0_4 (p1 : Int32) (σ : Sg) (Q : Int32 → Prop) : Prop :=
  ∀ v1 : Int32, v1 = p1.toInt8.toInt32 → (¬ (108 : Int32) = v1 → (¬ (116 : Int32) = v1 → (¬ (99 : Int32) = v1 → (¬ (46 : Int32) = v1 → Q (-1)) ∧ ((46 : Int32) = v1 → Q 3)) ∧ ((99 : Int32) = v1 → Q 2)) ∧ ((116 : Int32) = v1 → Q 1)) ∧ ((108 : Int32) = v1 → Q 0)

def w_J1_indexOf_4cfef_V16_0_4 (p1 : Int32) (σ : Sg) (Q : Int32 → Prop) : Prop :=
  w_J1_canEncode_9a6ad p1 σ (fun r1 => (¬ r1 = 0 → w_J1_indexOfChar_4cfef_V16_0_4 p1 σ (fun r3 => Q r3)) ∧ (r1 = 0 → Q (-1)))

def w_J0_indexOf_7cf53_S16_0 (p1 : Int32) (σ : Sg) (Q : Int32 → Prop) : Prop :=
  w_J1_indexOf_4cfef_V16_0_4 p1 σ (fun r3 => Q r3)

def w_J0_indexOf_0f7a4_S16 (p1 : Int32) (σ : Sg) (Q : Int32 → Prop) : Prop :=
  w_J0_indexOf_7cf53_S16_0 p1 σ (fun r1 => Q r1)

def w_J9_max_f86c9 (p0 : Int64) (p1 : Int64) (σ : Sg) (Q : Int64 → Prop) : Prop :=
  (p0 < p1 → Q p1) ∧ (¬ p0 < p1 → Q p0)

def w_L_isFrame (p1 : Int32) (p2 : Int32) (σ : Sg) (Q : Int32 → Sg → Prop) : Prop :=
  w_X6_state σ (fun r1 σ2 => w_J0_indexOf_0f7a4_S16 r1 σ2 (fun r3 => ∀ (J4 : Int32 → Prop), (∀ (s0_4 : Int32), ((r1 = 46 → ∃ (I7 : Int32 → Int64 → Int64 → Int64 → Int32 → Sg → Prop) (μ7 : Int32 → Int64 → Int64 → Int64 → Int32 → Sg → Nat), μ7 s0_4 0 0 0 0 σ2 ≤ 9 ∧ I7 s0_4 0 0 0 0 σ2 ∧ ∀ (i4_7 : Int32) (i5_7 : Int64) (i7_7 : Int64) (i9_7 : Int64) (i11_7 : Int32) (σ7 : Sg), I7 i4_7 i5_7 i7_7 i9_7 i11_7 σ7 → (p2 ≤ i11_7 → ∃ (I9 : Int32 → Int32 → Sg → Prop) (μ9 : Int32 → Int32 → Sg → Nat), μ9 i4_7 0 σ7 ≤ 7 ∧ I9 i4_7 0 σ7 ∧ ∀ (i4_9 : Int32) (i11_9 : Int32) (σ9 : Sg), I9 i4_9 i11_9 σ9 → (30 < i11_9 → w_L_weakest σ9 (fun r11 σ12 => (i4_9 = 0 → Q 0 σ12) ∧ (¬ i4_9 = 0 → w_L_allForce σ12 (fun r14 σ15 => (¬ r14 = i5_7 → Q 0 σ15) ∧ (r14 = i5_7 → (¬ p2 = 0 → w_L_force r11 σ15 (fun r18 σ19 => (¬ (mabsl r18) = i9_7 → Q 0 σ19) ∧ ((mabsl r18) = i9_7 → w_L_meanPull σ19 (fun r21 σ22 => vf_n64 (FP.ddiv (FP.l2d i7_7) (FP.i2d p2)) ∧ (¬ (Op.cmpValue (FP.dcmp r21 (FP.ddiv (FP.l2d i7_7) (FP.i2d p2))) .l) = 0 → Q 0 σ22) ∧ ((Op.cmpValue (FP.dcmp r21 (FP.ddiv (FP.l2d i7_7) (FP.i2d p2))) .l) = 0 → Q 1 σ22))))) ∧ (p2 = 0 → (¬ r11 = (-75) → Q 0 σ15) ∧ (r11 = (-75) → Q 1 σ15))))))) ∧ (¬ 30 < i11_9 → w_L_isBalanced i11_9 σ9 (fun r26 σ27 => ∀ (J28 : Int32 → Prop), (∀ (s0_28 : Int32), (∀ v30 : Int32, v30 = i4_9 &&& s0_28 → I9 v30 (i11_9 + 5) σ27 ∧ μ9 v30 (i11_9 + 5) σ27 < μ9 i4_9 i11_9 σ9) → J28 s0_28) → (¬ r26 = 1 → J28 0) ∧ (r26 = 1 → J28 1)))) ∧ (¬ p2 ≤ i11_7 → w_L_force i11_7 σ7 (fun r31 σ32 => w_L_pull i11_7 σ32 (fun r33 σ34 => ∀ v35 : Int64, v35 = i5_7 + (mabsl r31) → ∀ v36 : Int64, v36 = i7_7 + r33 → w_J9_max_f86c9 i9_7 (mabsl r31) σ34 (fun r37 => ∀ (J38 : Int32 → Prop), (∀ (s0_38 : Int32), (∀ v43 : Int32, v43 = i4_7 &&& s0_38 → I7 v43 v35 v36 r37 (i11_7 + 1) σ34 ∧ μ7 v43 v35 v36 r37 (i11_7 + 1) σ34 < μ7 i4_7 i5_7 i7_7 i9_7 i11_7 σ7) → J38 s0_38) → (r31 = 0 → J38 1) ∧ (¬ r31 = 0 → (r31 ≤ 0 → (r33 < 0 → J38 1) ∧ (¬ r33 < 0 → J38 0)) ∧ (¬ r31 ≤ 0 → (r33 < 0 → J38 0) ∧ (¬ r33 < 0 → J38 1)))))))) ∧ (¬ r1 = 46 → (s0_4 = 0 → Q 0 σ2) ∧ (¬ s0_4 = 0 → w_L_allForce σ2 (fun r45 σ46 => (¬ r45 = (-79) → Q 0 σ46) ∧ (r45 = (-79) → w_L_weakest σ46 (fun r48 σ49 => (¬ r48 = (-79) → Q 0 σ49) ∧ (r48 = (-79) → w_L_isBalanced 3 σ49 (fun r51 σ52 => (¬ r51 = (-79) → Q 0 σ52) ∧ (r51 = (-79) → w_L_meanPull σ52 (fun r54 σ55 => (¬ (Op.cmpValue (FP.dcmp r54 13858631584581681152) .l) = 0 → Q 0 σ55) ∧ ((Op.cmpValue (FP.dcmp r54 13858631584581681152) .l) = 0 → Q 1 σ55))))))))))) → J4 s0_4) → (r3 < 0 → J4 0) ∧ (¬ r3 < 0 → J4 1)))

def w_L_areJoints (p1 : Int32) (σ : Sg) (Q : Int32 → Prop) : Prop :=
  w_L_isRight p1 σ (fun r1 => ∀ (J2 : Int32 → Prop), (∀ (s0_2 : Int32), (∃ (I4 : Int32 → Int32 → Int32 → Int32 → Prop) (μ4 : Int32 → Int32 → Int32 → Int32 → Nat), μ4 s0_2 0 0 0 ≤ 12 ∧ I4 s0_2 0 0 0 ∧ ∀ (i2_4 : Int32) (i3_4 : Int32) (i4_4 : Int32) (i5_4 : Int32), I4 i2_4 i3_4 i4_4 i5_4 → (p1 ≤ i5_4 → w_L_widest σ (fun r6 => w_L_rightShare σ (fun r7 => (i2_4 = 0 → Q 0) ∧ (¬ i2_4 = 0 → w_X6_clashes σ (fun r9 => (r9 < 0 → Q 0) ∧ (¬ r9 < 0 → w_X6_clashes σ (fun r11 => ((p1 * p1) < r11 → Q 0) ∧ (¬ (p1 * p1) < r11 → (¬ p1 = 0 → w_L_gap r6 σ (fun r14 => (¬ r14 = i4_4 → Q 0) ∧ (r14 = i4_4 → vf_n32 (FP.fdiv (FP.i2f i3_4) (FP.i2f p1)) ∧ (¬ (Op.cmpValue (FP.fcmp r7 (FP.fdiv (FP.i2f i3_4) (FP.i2f p1))) .l) = 0 → Q 0) ∧ ((Op.cmpValue (FP.fcmp r7 (FP.fdiv (FP.i2f i3_4) (FP.i2f p1))) .l) = 0 → Q 1)))) ∧ (p1 = 0 → (¬ r6 = (-75) → Q 0) ∧ (r6 = (-75) → (¬ (Op.cmpValue (FP.fcmp r7 3264479232) .l) = 0 → Q 0) ∧ ((Op.cmpValue (FP.fcmp r7 3264479232) .l) = 0 → Q 1))))))))))) ∧ (¬ p1 ≤ i5_4 → w_L_misread i5_4 σ (fun r20 => ∀ v21 : Int32, v21 = (((((r20 &&& 1) * 16) + ((r20 &&& 2) * 4)) + (r20 &&& 4)) + ((r20 &&& 8) / 4)) + ((r20 &&& 16) / 16) → ∀ (J22 : Int32 → Prop), (∀ (s0_22 : Int32), (∀ v30 : Int32, v30 = i2_4 &&& s0_22 → w_L_isRight i5_4 σ (fun r31 => ∀ v32 : Int32, v32 = i3_4 + r31 → w_L_gap i5_4 σ (fun r33 => ∀ v34 : Int32, v34 = mmax i4_4 r33 → I4 v30 v32 v34 (i5_4 + 1) ∧ μ4 v30 v32 v34 (i5_4 + 1) < μ4 i2_4 i3_4 i4_4 i5_4))) → J22 s0_22) → (r20 ≤ 0 → J22 0) ∧ (¬ r20 ≤ 0 → (32 ≤ r20 → J22 0) ∧ (¬ 32 ≤ r20 → (v21 ≤ 0 → J22 0) ∧ (¬ v21 ≤ 0 → w_L_gap i5_4 σ (fun r26 => (r26 < 0 → J22 0) ∧ (¬ r26 < 0 → w_L_gap i5_4 σ (fun r28 => (20 < r28 → J22 0) ∧ (¬ 20 < r28 → J22 1)))))))))) → J2 s0_2) → (¬ r1 = (-77) → J2 0) ∧ (r1 = (-77) → J2 1))

def w_L_isYard (p1 : Int32) (p2 : Int32) (σ : Sg) (Q : Int32 → Sg → Prop) : Prop :=
  w_L_wood σ (fun r1 σ2 => ∀ (J3 : Int32 → Prop), (∀ (s0_3 : Int32), (∀ f8 : (Nat → Int32), f8 = (fun _ => 0) → ∀ f10 : (Nat → Int32), f10 = (fun _ => 0) → ∃ (I11 : Int32 → Int32 → Sg → (Nat → Int32) → (Nat → Int32) → Prop) (μ11 : Int32 → Int32 → Sg → (Nat → Int32) → (Nat → Int32) → Nat), μ11 s0_3 0 σ2 f8 f10 ≤ 9 ∧ I11 s0_3 0 σ2 f8 f10 ∧ ∀ (i4_11 : Int32) (i7_11 : Int32) (σ11 : Sg) (f0_11 : (Nat → Int32)) (f1_11 : (Nat → Int32)), I11 i4_11 i7_11 σ11 f0_11 f1_11 → (p1 ≤ i7_11 → ∃ (I13 : Int32 → Int32 → Int32 → Int32 → Sg → Prop) (μ13 : Int32 → Int32 → Int32 → Int32 → Sg → Nat), μ13 i4_11 0 0 0 σ11 ≤ 5 ∧ I13 i4_11 0 0 0 σ11 ∧ ∀ (i4_13 : Int32) (i7_13 : Int32) (i8_13 : Int32) (i9_13 : Int32) (σ13 : Sg), I13 i4_13 i7_13 i8_13 i9_13 σ13 → (p2 ≤ i9_13 → (i4_13 = 0 → Q 0 σ13) ∧ (¬ i4_13 = 0 → (r1 < 0 → w_L_waste p2 σ13 (fun r17 σ18 => (¬ r17 = (-77) → Q 0 σ18) ∧ (r17 = (-77) → Q 1 σ18))) ∧ (¬ r1 < 0 → (¬ i8_13 = r1 → Q 0 σ13) ∧ (i8_13 = r1 → (i7_13 < 0 → Q 0 σ13) ∧ (¬ i7_13 < 0 → w_L_waste p2 σ13 (fun r22 σ23 => (¬ r22 = (-77) → Q 0 σ23) ∧ (r22 = (-77) → Q 1 σ23))))))) ∧ (¬ p2 ≤ i9_13 → (r1 < 0 → (i4_13 = 0 → Q 0 σ13) ∧ (¬ i4_13 = 0 → (r1 < 0 → w_L_waste p2 σ13 (fun r28 σ29 => (¬ r28 = (-77) → Q 0 σ29) ∧ (r28 = (-77) → Q 1 σ29))) ∧ (¬ r1 < 0 → (¬ i8_13 = r1 → Q 0 σ13) ∧ (i8_13 = r1 → (i7_13 < 0 → Q 0 σ13) ∧ (¬ i7_13 < 0 → w_L_waste p2 σ13 (fun r33 σ34 => (¬ r33 = (-77) → Q 0 σ34) ∧ (r33 = (-77) → Q 1 σ34))))))) ∧ (¬ r1 < 0 → w_L_waste i9_13 σ13 (fun r36 σ37 => ∀ (J38 : Int32 → Prop), (∀ (s0_38 : Int32), (∀ v40 : Int32, v40 = i4_13 &&& s0_38 → ∀ (J41 : Int32 → Sg → Prop), (∀ (s0_41 : Int32) (σ41 : Sg), (∀ v47 : Int32, v47 = i8_13 + s0_41 → w_L_waste i9_13 σ41 (fun r48 σ49 => ∀ v50 : Int32, v50 = i7_13 + r48 → I13 v40 v50 v47 (i9_13 + 1) σ49 ∧ μ13 v40 v50 v47 (i9_13 + 1) σ49 < μ13 i4_13 i7_13 i8_13 i9_13 σ13)) → J41 s0_41 σ41) → vp_in i9_13 5 ∧ ((f1_11 (ix i9_13)) ≤ 0 → J41 0 σ37) ∧ (¬ (f1_11 (ix i9_13)) ≤ 0 → w_L_waste i9_13 σ37 (fun r44 σ45 => vp_in i9_13 5 ∧ J41 (r44 + (f0_11 (ix i9_13))) σ45))) → J38 s0_38) → (r36 < 0 → J38 0) ∧ (¬ r36 < 0 → J38 1))))) ∧ (¬ p1 ≤ i7_11 → w_L_stickOf i7_11 σ11 (fun r51 σ52 => ∀ (J53 : Int32 → Prop), (∀ (s0_53 : Int32), (∀ v60 : Int32, v60 = i4_11 &&& s0_53 → ∀ (J61 : (Nat → Int32) → (Nat → Int32) → Prop), (∀ (f0_61 : (Nat → Int32)) (f1_61 : (Nat → Int32)), (I11 v60 (i7_11 + 1) σ52 f0_61 f1_61 ∧ μ11 v60 (i7_11 + 1) σ52 f0_61 f1_61 < μ11 i4_11 i7_11 σ11 f0_11 f1_11) → J61 f0_61 f1_61) → (r51 < 0 → J61 f0_11 f1_11) ∧ (¬ r51 < 0 → vp_in r51 5 ∧ w_L_piece i7_11 σ52 (fun r64 => vp_in r51 5 ∧ ∀ f66 : (Nat → Int32), f66 = upd f0_11 (ix r51) ((f0_11 (ix r51)) + (r64 + 1)) → vp_in r51 5 ∧ vp_in r51 5 ∧ ∀ f69 : (Nat → Int32), f69 = upd f1_11 (ix r51) ((f1_11 (ix r51)) + 1) → J61 f66 f69))) → J53 s0_53) → w_L_piece i7_11 σ52 (fun r54 => (r54 ≤ 0 → J53 0) ∧ (¬ r54 ≤ 0 → (0 ≤ r1 → (r51 < 0 → J53 0) ∧ (¬ r51 < 0 → (p2 ≤ r51 → J53 0) ∧ (¬ p2 ≤ r51 → J53 1))) ∧ (¬ 0 ≤ r1 → (¬ r51 = (-75) → J53 0) ∧ (r51 = (-75) → J53 1))))))) → J3 s0_3) → (0 ≤ r1 → J3 1) ∧ (¬ 0 ≤ r1 → (¬ r1 = (-75) → J3 0) ∧ (r1 = (-75) → (p1 ≤ 0 → J3 0) ∧ (¬ p1 ≤ 0 → J3 1))))

def w_X6_canRaise (σ : Sg) (Q : Int32 → Sg → Prop) : Prop :=
  w_X4_find σ (fun σ2 => w_X4_orderCount σ2 (fun r3 => (r3 ≤ 0 → Q 0 σ2) ∧ (¬ r3 ≤ 0 → Q 1 σ2)))

def w_X6_canTakeAway (σ : Sg) (Q : Int32 → Sg → Prop) : Prop :=
  w_X4_find σ (fun σ2 => narrow .boolean (.int (gA σ2 27 (ix 0))) = .int (gA σ2 27 (ix 0)) ∧ Q (gA σ2 27 (ix 0)) σ2)

def w_L_isRaising (p1 : Int32) (σ : Sg) (Q : Int32 → Sg → Prop) : Prop :=
  w_X6_canRaise σ (fun r1 σ2 => ∀ (J3 : Int32 → Sg → Prop), (∀ (s0_3 : Int32) (σ3 : Sg), (w_L_setProps 0 σ3 (fun r12 σ13 => w_L_setProps r12 σ13 (fun r14 σ15 => ∀ (J16 : Int32 → Prop), (∀ (s0_16 : Int32), (∀ v18 : Int32, v18 = s0_3 &&& s0_16 → ∃ (I19 : Int32 → Int32 → Int32 → Sg → Prop) (μ19 : Int32 → Int32 → Int32 → Sg → Nat), μ19 v18 0 0 σ15 ≤ 9 ∧ I19 v18 0 0 σ15 ∧ ∀ (i3_19 : Int32) (i4_19 : Int32) (i6_19 : Int32) (σ19 : Sg), I19 i3_19 i4_19 i6_19 σ19 → (p1 ≤ i6_19 → w_L_stuck σ19 (fun r21 σ22 => (i3_19 = 0 → Q 0 σ22) ∧ (¬ i3_19 = 0 → w_L_raised p1 σ22 (fun r24 σ25 => (r1 = 0 → (¬ r24 = (-75) → Q 0 σ25) ∧ (r24 = (-75) → (r21 = (-75) → w_X6_canRaise σ25 (fun r29 σ30 => (¬ r29 = r1 → Q 0 σ30) ∧ (r29 = r1 → Q 1 σ30))) ∧ (¬ r21 = (-75) → (p1 ≤ r21 → Q 0 σ25) ∧ (¬ p1 ≤ r21 → w_X6_canRaise σ25 (fun r33 σ34 => (¬ r33 = r1 → Q 0 σ34) ∧ (r33 = r1 → Q 1 σ34)))))) ∧ (¬ r1 = 0 → (¬ r24 = (-77) → Q 0 σ25) ∧ (r24 = (-77) → (r21 = (-75) → w_X6_canRaise σ25 (fun r38 σ39 => (¬ r38 = r1 → Q 0 σ39) ∧ (r38 = r1 → Q 1 σ39))) ∧ (¬ r21 = (-75) → (p1 ≤ r21 → Q 0 σ25) ∧ (¬ p1 ≤ r21 → w_X6_canRaise σ25 (fun r42 σ43 => (¬ r42 = r1 → Q 0 σ43) ∧ (r42 = r1 → Q 1 σ43)))))))))) ∧ (¬ p1 ≤ i6_19 → w_L_raised i6_19 σ19 (fun r45 σ46 => ∀ (J47 : Int32 → Sg → Prop), (∀ (s0_47 : Int32) (σ47 : Sg), (∀ v62 : Int32, v62 = i3_19 &&& s0_47 → ∀ (J63 : Int32 → Prop), (∀ (s0_63 : Int32), (∀ v65 : Int32, v65 = i4_19 ||| s0_63 → I19 v62 v65 (i6_19 + 1) σ47 ∧ μ19 v62 v65 (i6_19 + 1) σ47 < μ19 i3_19 i4_19 i6_19 σ19) → J63 s0_63) → (r1 = 0 → J63 0) ∧ (¬ r1 = 0 → J63 (iShl 1 r45))) → J47 s0_47 σ47) → (r1 = 0 → (¬ r45 = (-75) → J47 0 σ46) ∧ (r45 = (-75) → w_L_props i6_19 σ46 (fun r50 σ51 => (¬ r50 = (-75) → J47 0 σ51) ∧ (r50 = (-75) → J47 1 σ51)))) ∧ (¬ r1 = 0 → (r45 < 0 → J47 0 σ46) ∧ (¬ r45 < 0 → (p1 ≤ r45 → J47 0 σ46) ∧ (¬ p1 ≤ r45 → (¬ ((iShr i4_19 r45) &&& 1) = 0 → J47 0 σ46) ∧ (((iShr i4_19 r45) &&& 1) = 0 → w_L_props i6_19 σ46 (fun r56 σ57 => (r56 < 0 → J47 0 σ57) ∧ (¬ r56 < 0 → w_L_props i6_19 σ57 (fun r59 σ60 => (r12 < r59 → J47 0 σ60) ∧ (¬ r12 < r59 → J47 1 σ60))))))))))) → J16 s0_16) → (¬ r14 = 0 → J16 0) ∧ (r14 = 0 → J16 1)))) → J3 s0_3 σ3) → w_X6_canTakeAway σ2 (fun r4 σ5 => (¬ r4 = r1 → J3 0 σ5) ∧ (r4 = r1 → w_X6_orders σ5 (fun r7 σ8 => (r7 ≤ 0 → (¬ (0 : Int32) = r1 → J3 0 σ8) ∧ ((0 : Int32) = r1 → J3 1 σ8)) ∧ (¬ r7 ≤ 0 → (¬ (1 : Int32) = r1 → J3 0 σ8) ∧ ((1 : Int32) = r1 → J3 1 σ8))))))

def w_X6_isSound (σ : Sg) (Q : Int32 → Sg → Prop) : Prop :=
  w_X1_find σ (fun σ2 => (¬ (gI σ2 3) = 46 → w_X6_canRaise σ2 (fun r4 σ5 => w_X6_canTakeAway σ5 (fun r6 σ7 => (¬ r4 = r6 → Q 0 σ7) ∧ (r4 = r6 → Q 1 σ7)))) ∧ ((gI σ2 3) = 46 → ∃ (I9 : Int32 → Prop) (μ9 : Int32 → Nat), I9 0 ∧ ∀ (i1_9 : Int32), I9 i1_9 → (30 < i1_9 → w_X6_canRaise σ2 (fun r11 σ12 => w_X6_canTakeAway σ12 (fun r13 σ14 => (¬ r11 = r13 → Q 0 σ14) ∧ (r11 = r13 → Q 1 σ14)))) ∧ (¬ 30 < i1_9 → w_X1_holdsAt i1_9 σ2 (fun r16 => (¬ r16 = 0 → I9 (i1_9 + 1) ∧ μ9 (i1_9 + 1) < μ9 i1_9) ∧ (r16 = 0 → Q 0 σ2)))))

def w_J0_isLatin1_aae02_S27 (σ : Sg) (Q : Int32 → Prop) : Prop :=
  Q 1

def w_J0_checkIndex_df160_3 (p0 : Int32) (σ : Sg) (Q : Prop) : Prop :=
  w_J3_checkIndex_8e157 p0 3 σ (fun r1 => Q)

def w_J1_charAt_3b067_V27 (p1 : Int32) (σ : Sg) (Q : Int32 → Prop) : Prop :=
  w_J0_checkIndex_df160_3 p1 σ (vp_in p1 3 ∧ narrow .char (.int ((((sby [45, 45, 112] p1) &&& 255).toUInt32 % 65536).toInt32)) = .int ((((sby [45, 45, 112] p1) &&& 255).toUInt32 % 65536).toInt32) ∧ Q ((((sby [45, 45, 112] p1) &&& 255).toUInt32 % 65536).toInt32))

def w_J0_charAt_5068e_S27 (p1 : Int32) (σ : Sg) (Q : Int32 → Prop) : Prop :=
  w_J1_charAt_3b067_V27 p1 σ (fun r2 => narrow .char (.int r2) = .int r2 ∧ Q r2)

def w_L_law (L : Nat) (xs : Nat → Int32) (σ : Sg) : Prop :=
  w_L_pick L xs 1 3 σ (fun r1 => ∀ v2 : Int32, v2 = 3 + r1 → ∃ (I3 : Int32 → Int32 → Int32 → Sg → Prop) (μ3 : Int32 → Int32 → Int32 → Sg → Nat), μ3 1 1 0 σ ≤ 5 ∧ I3 1 1 0 σ ∧ ∀ (i2_3 : Int32) (i4_3 : Int32) (i5_3 : Int32) (σ3 : Sg), I3 i2_3 i4_3 i5_3 σ3 → (v2 ≤ i5_3 → ∃ (I5 : Int32 → Int32 → Int32 → Int32 → Int32 → Int32 → Sg → Prop) (μ5 : Int32 → Int32 → Int32 → Int32 → Int32 → Int32 → Sg → Nat), μ5 i2_3 i4_3 0 0 0 0 σ3 ≤ 34 ∧ I5 i2_3 i4_3 0 0 0 0 σ3 ∧ ∀ (i2_5 : Int32) (i4_5 : Int32) (i5_5 : Int32) (i6_5 : Int32) (i7_5 : Int32) (i8_5 : Int32) (σ5 : Sg), I5 i2_5 i4_5 i5_5 i6_5 i7_5 i8_5 σ5 → (34 ≤ i8_5 → (i4_5 = 0 → 0 = (1 : Int32)) ∧ (¬ i4_5 = 0 → w_L_isThrown σ5 (fun r8 σ9 => (r8 = 0 → 0 = (1 : Int32)) ∧ (¬ r8 = 0 → 1 = (1 : Int32))))) ∧ (¬ 34 ≤ i8_5 → (i4_5 = 0 → (i4_5 = 0 → 0 = (1 : Int32)) ∧ (¬ i4_5 = 0 → w_L_isThrown σ5 (fun r13 σ14 => (r13 = 0 → 0 = (1 : Int32)) ∧ (¬ r13 = 0 → 1 = (1 : Int32))))) ∧ (¬ i4_5 = 0 → w_L_pick L xs (i2_5 + 1) 8 σ5 (fun r16 => w_L_pick L xs (i2_5 + 2) 8 σ5 (fun r17 => w_L_pick L xs i2_5 9 σ5 (fun r18 => ∀ (J19 : Int32 → Int32 → Int32 → Int32 → Sg → Prop), (∀ (j4_19 : Int32) (j5_19 : Int32) (j6_19 : Int32) (j7_19 : Int32) (σ19 : Sg), (∀ (J142 : Int32 → Sg → Prop), (∀ (s0_142 : Int32) (σ142 : Sg), (I5 (i2_5 + 4) s0_142 j5_19 j6_19 j7_19 (i8_5 + 1) σ142 ∧ μ5 (i2_5 + 4) s0_142 j5_19 j6_19 j7_19 (i8_5 + 1) σ142 < μ5 i2_5 i4_5 i5_5 i6_5 i7_5 i8_5 σ5) → J142 s0_142 σ142) → (j4_19 = 0 → J142 0 σ19) ∧ (¬ j4_19 = 0 → w_L_isFrame v2 j5_19 σ19 (fun r144 σ145 => (r144 = 0 → J142 0 σ145) ∧ (¬ r144 = 0 → w_L_areJoints j6_19 σ145 (fun r147 => (r147 = 0 → J142 0 σ145) ∧ (¬ r147 = 0 → w_L_isYard j5_19 j7_19 σ145 (fun r149 σ150 => (r149 = 0 → J142 0 σ150) ∧ (¬ r149 = 0 → w_L_isRaising j5_19 σ150 (fun r152 σ153 => (r152 = 0 → J142 0 σ153) ∧ (¬ r152 = 0 → w_X6_isSound σ153 (fun r155 σ156 => (r155 = 0 → J142 0 σ156) ∧ (¬ r155 = 0 → J142 1 σ156)))))))))))) → J19 j4_19 j5_19 j6_19 j7_19 σ19) → ((r18 = 0 ∨ r18 = 1 ∨ r18 = 2) → ¬ v2 = 0 ∧ ¬ v2 = 0 ∧ w_L_member (iRem r16 v2) (iRem r17 v2) (6 + (2 * r16)) (iRem r17 4) σ5 (fun r62 σ63 => ∀ (J64 : Int32 → Prop), (∀ (s0_64 : Int32), (∀ v76 : Int32, v76 = i4_5 &&& s0_64 → ∀ (J77 : Int32 → Prop), (∀ (s0_77 : Int32), (∀ v79 : Int32, v79 = i5_5 + s0_77 → J19 v76 v79 i6_5 i7_5 σ63) → J77 s0_77) → (r62 < 0 → J77 0) ∧ (¬ r62 < 0 → J77 1)) → J64 s0_64) → (r62 = i5_5 → J64 1) ∧ (¬ r62 = i5_5 → (¬ r62 = (-79) → (¬ r62 = (-78) → J64 0) ∧ (r62 = (-78) → ¬ v2 = 0 ∧ ¬ v2 = 0 ∧ (¬ (iRem r16 v2) = (iRem r17 v2) → J64 0) ∧ ((iRem r16 v2) = (iRem r17 v2) → J64 1))) ∧ (r62 = (-79) → (i5_5 = 9 → J64 1) ∧ (¬ i5_5 = 9 → (¬ r62 = (-78) → J64 0) ∧ (r62 = (-78) → ¬ v2 = 0 ∧ ¬ v2 = 0 ∧ (¬ (iRem r16 v2) = (iRem r17 v2) → J64 0) ∧ ((iRem r16 v2) = (iRem r17 v2) → J64 1))))))) ∧ ((r18 = 3) → ¬ v2 = 0 ∧ w_L_load (iRem r16 v2) ((9 * r17) - 30) ((7 * r16) - 20) σ5 (fun r81 σ82 => ∀ (J83 : Int32 → Prop), (∀ (s0_83 : Int32), (∀ v85 : Int32, v85 = i4_5 &&& s0_83 → J19 v85 i5_5 i6_5 i7_5 σ82) → J83 s0_83) → (r81 ≤ 0 → J83 0) ∧ (¬ r81 ≤ 0 → J83 1))) ∧ ((r18 = 4 ∨ r18 = 5) → ∀ (J101 : Int32 → Sg → Prop), (∀ (s0_101 : Int32) (σ101 : Sg), (∀ (J109 : Int32 → Prop), (∀ (s0_109 : Int32), (∀ v112 : Int32, v112 = i4_5 &&& s0_109 → ∀ (J113 : Int32 → Prop), (∀ (s0_113 : Int32), (∀ v115 : Int32, v115 = i6_5 + s0_113 → J19 v112 i5_5 v115 i7_5 σ101) → J113 s0_113) → (s0_101 < 0 → J113 0) ∧ (¬ s0_101 < 0 → J113 1)) → J109 s0_109) → (s0_101 < 0 → J109 1) ∧ (¬ s0_101 < 0 → (¬ s0_101 = i6_5 → J109 0) ∧ (s0_101 = i6_5 → J109 1))) → J101 s0_101 σ101) → (2 ≤ i5_5 → ¬ i5_5 = 0 ∧ ¬ i5_5 = 0 ∧ w_L_pick L xs (i2_5 + 3) 5 σ5 (fun r105 => w_J0_charAt_5068e_S28 r105 σ5 (fun r106 => w_L_joint (iRem r16 i5_5) (iRem r17 i5_5) r106 (2 + r17) (1 + (iRem (4 * r16) 31)) σ5 (fun r107 σ108 => J101 r107 σ108)))) ∧ (¬ 2 ≤ i5_5 → J101 (-76) σ5)) ∧ ((r18 = 6) → w_L_stick (100 + (100 * r16)) (10 + (4 * r17)) (iRem r17 4) σ5 (fun r116 σ117 => ∀ (J118 : Int32 → Prop), (∀ (s0_118 : Int32), (∀ v122 : Int32, v122 = i4_5 &&& s0_118 → ∀ (J123 : Int32 → Prop), (∀ (s0_123 : Int32), (∀ v125 : Int32, v125 = i7_5 + s0_123 → J19 v122 i5_5 i6_5 v125 σ117) → J123 s0_123) → (r116 < 0 → J123 0) ∧ (¬ r116 < 0 → J123 1)) → J118 s0_118) → (r116 = i7_5 → J118 1) ∧ (¬ r116 = i7_5 → (¬ r116 = (-79) → J118 0) ∧ (r116 = (-79) → (¬ i7_5 = 5 → J118 0) ∧ (i7_5 = 5 → J118 1))))) ∧ ((r18 = 7) → w_L_setProps (iRem r16 4) σ5 (fun r126 σ127 => ∀ (J128 : Int32 → Prop), (∀ (s0_128 : Int32), (∀ v130 : Int32, v130 = i4_5 &&& s0_128 → J19 v130 i5_5 i6_5 i7_5 σ127) → J128 s0_128) → (r126 < 0 → J128 0) ∧ (¬ r126 < 0 → J128 1))) ∧ (((r18).toInt < 0 ∨ 7 < (r18).toInt) → ∀ (J131 : Int32 → Sg → Prop), (∀ (s0_131 : Int32) (σ131 : Sg), (∀ v141 : Int32, v141 = i4_5 &&& s0_131 → J19 v141 i5_5 i6_5 i7_5 σ131) → J131 s0_131 σ131) → (i5_5 = 0 → J131 1 σ5) ∧ (¬ i5_5 = 0 → ¬ i5_5 = 0 ∧ w_L_cutAt (iRem r16 i5_5) (20 + (5 * r17)) σ5 (fun r134 σ135 => (r134 ≤ 0 → J131 0 σ135) ∧ (¬ r134 ≤ 0 → ¬ i5_5 = 0 ∧ w_L_dry (iRem r17 i5_5) (10 + (3 * r16)) σ135 (fun r138 σ139 => (r138 ≤ 0 → J131 0 σ139) ∧ (¬ r138 ≤ 0 → J131 1 σ139)))))))))))) ∧ (¬ v2 ≤ i5_3 → w_L_pick L xs (i2_3 + 1) 5 σ3 (fun r158 => w_L_pick L xs (i2_3 + 2) 12 σ3 (fun r159 => ∀ (J160 : Int32 → Prop), (∀ (s0_160 : Int32), (w_L_node ((5 * i5_3) + r158) r159 s0_160 σ3 (fun r165 σ166 => ∀ (J167 : Int32 → Prop), (∀ (s0_167 : Int32), (∀ v169 : Int32, v169 = i4_3 &&& s0_167 → I3 (i2_3 + 3) v169 (i5_3 + 1) σ166 ∧ μ3 (i2_3 + 3) v169 (i5_3 + 1) σ166 < μ3 i2_3 i4_3 i5_3 σ3) → J167 s0_167) → (¬ r165 = i5_3 → J167 0) ∧ (r165 = i5_3 → J167 1))) → J160 s0_160) → (¬ i5_3 = 0 → (¬ i5_3 = 1 → w_L_pick L xs i2_3 3 σ3 (fun r163 => w_J0_charAt_5068e_S27 r163 σ3 (fun r164 => J160 r164))) ∧ (i5_3 = 1 → J160 114)) ∧ (i5_3 = 0 → J160 112)))))

