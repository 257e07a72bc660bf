abbrev STR : List (String × Nat × String) := [("Tenonyard", 48, "-pr"), ("Tenonyard", 58, "no such place or kind"), ("Tenonyard", 69, "no more nodes"), ("Tenonyard", 280, "no such node"), ("Tenonyard", 91, "one place, or no such breadth or grade"), ("Tenonyard", 96, "no more members"), ("Tenonyard", 104, "no such load"), ("Tenonyard", 282, "no such member"), ("Tenonyard$Joinery", 27, "udlrf"), ("Tenonyard", 157, "one member, or no such way, thickness or mark"), ("Tenonyard", 167, "no node in common, or joined already"), ("Tenonyard", 173, "no more joints"), ("Tenonyard", 286, "no such moisture"), ("Tenonyard", 208, "no such length, breadth or grade"), ("Tenonyard", 211, "no more sticks"), ("Tenonyard", 236, "no such number of props"), ("TenonyardLaw", 190, "ltc."), ("Tenonyard", 288, "the frame does not stand"), ("Tenonyard", 144, "no members"), ("Tenonyard", 136, "no such section"), ("Tenonyard", 284, "no such joint"), ("Tenonyard", 206, "no joints"), ("Tenonyard", 294, "no way to cut all members"), ("Tenonyard", 230, "no such stick"), ("Tenonyard", 296, "no order"), ("Tenonyard", 298, "no such index"), ("Tenonyard", 264, "each can be the last one"), ("TenonyardLaw", 132, "--p"), ("TenonyardLaw", 149, "udlrf")]
abbrev NCL : List (String × String) := [("java/lang/IllegalStateException", "java/lang/IllegalArgumentException"), ("java/lang/IndexOutOfBoundsException", "java/lang/IllegalArgumentException"), ("java/lang/UnsupportedOperationException", "java/lang/IllegalArgumentException"), ("java/util/NoSuchElementException", "java/lang/IllegalArgumentException"), ("java/lang/ArithmeticException", "java/lang/IllegalArgumentException"), ("java/lang/IllegalArgumentException", "java/lang/IllegalStateException"), ("java/lang/IndexOutOfBoundsException", "java/lang/IllegalStateException"), ("java/lang/UnsupportedOperationException", "java/lang/IllegalStateException"), ("java/util/NoSuchElementException", "java/lang/IllegalStateException"), ("java/lang/ArithmeticException", "java/lang/IllegalStateException"), ("java/lang/IllegalArgumentException", "java/lang/IndexOutOfBoundsException"), ("java/lang/IllegalStateException", "java/lang/IndexOutOfBoundsException"), ("java/lang/UnsupportedOperationException", "java/lang/IndexOutOfBoundsException"), ("java/util/NoSuchElementException", "java/lang/IndexOutOfBoundsException"), ("java/lang/ArithmeticException", "java/lang/IndexOutOfBoundsException"), ("java/lang/IllegalArgumentException", "java/lang/UnsupportedOperationException"), ("java/lang/IllegalStateException", "java/lang/UnsupportedOperationException"), ("java/lang/IndexOutOfBoundsException", "java/lang/UnsupportedOperationException"), ("java/util/NoSuchElementException", "java/lang/UnsupportedOperationException"), ("java/lang/ArithmeticException", "java/lang/UnsupportedOperationException"), ("java/lang/IllegalArgumentException", "java/util/NoSuchElementException"), ("java/lang/IllegalStateException", "java/util/NoSuchElementException"), ("java/lang/IndexOutOfBoundsException", "java/util/NoSuchElementException"), ("java/lang/UnsupportedOperationException", "java/util/NoSuchElementException"), ("java/lang/ArithmeticException", "java/util/NoSuchElementException"), ("java/lang/IllegalArgumentException", "java/lang/ArithmeticException"), ("java/lang/IllegalStateException", "java/lang/ArithmeticException"), ("java/lang/IndexOutOfBoundsException", "java/lang/ArithmeticException"), ("java/lang/UnsupportedOperationException", "java/lang/ArithmeticException"), ("java/util/NoSuchElementException", "java/lang/ArithmeticException")]
def SC : List (Nat × Nat × List Int32) := [(0, 3, [45, 112, 114]), (8, 5, [117, 100, 108, 114, 102]), (16, 4, [108, 116, 99, 46]), (27, 3, [45, 45, 112]), (28, 5, [117, 100, 108, 114, 102])]
/-! the state of the yard: fields of ints, of longs, arrays of ints (chars, booleans), of longs -/
abbrev Sg : Type := (Nat → Int32) × (Nat → Int64) × (Nat → Nat → Int32) × (Nat → Nat → Int64)
def gI (σ : Sg) (k : Nat) : Int32 := σ.1 k
def gL (σ : Sg) (k : Nat) : Int64 := σ.2.1 k
def gA (σ : Sg) (k : Nat) : Nat → Int32 := σ.2.2.1 k
def gB (σ : Sg) (k : Nat) : Nat → Int64 := σ.2.2.2 k
def sI (σ : Sg) (k : Nat) (v : Int32) : Sg := (fun q => if q = k then v else σ.1 q, σ.2)
def sL (σ : Sg) (k : Nat) (v : Int64) : Sg := (σ.1, fun q => if q = k then v else σ.2.1 q, σ.2.2)
def sA (σ : Sg) (k j : Nat) (v : Int32) : Sg := (σ.1, σ.2.1, fun q => if q = k then upd (σ.2.2.1 k) j v else σ.2.2.1 q, σ.2.2.2)
def sB (σ : Sg) (k j : Nat) (v : Int64) : Sg := (σ.1, σ.2.1, σ.2.2.1, fun q => if q = k then vp_updL (σ.2.2.2 k) j v else σ.2.2.2 q)
abbrev ix (i : Int32) : Nat := i.toNatClampNeg
def sby (l : List Int32) (i : Int32) : Int32 := l.getD (ix i) 0
def WL (ad : Nat → Nat) (cA : Nat → ClassId) (σ : Sg) : va_W := [
  (ad 0, .inr (8, [.ref (ad 1), .ref (ad 12), .ref (ad 32), .ref (ad 38), .ref (ad 46)])),
  (ad 1, .inr (4, [.int (gI σ 0), .int (gI σ 1), .ref (ad 2), .ref (ad 3), .ref (ad 4), .ref (ad 5), .ref (ad 6), .ref (ad 7), .ref (ad 8), .ref (ad 9), .ref (ad 10), .ref (ad 11)])),
  (ad 2, .inl (cA 0, 16, .inl (gA σ 0))),
  (ad 3, .inl (cA 0, 16, .inl (gA σ 1))),
  (ad 4, .inl (cA 0, 8, .inl (gA σ 2))),
  (ad 5, .inl (cA 2, 8, .inl (gA σ 3))),
  (ad 6, .inl (cA 0, 9, .inl (gA σ 4))),
  (ad 7, .inl (cA 0, 9, .inl (gA σ 5))),
  (ad 8, .inl (cA 0, 9, .inl (gA σ 6))),
  (ad 9, .inl (cA 0, 9, .inl (gA σ 7))),
  (ad 10, .inl (cA 0, 9, .inl (gA σ 8))),
  (ad 11, .inl (cA 0, 9, .inl (gA σ 9))),
  (ad 12, .inr (3, [.int (gI σ 2), .int (gI σ 3), .long (gL σ 0), .ref (ad 13), .ref (ad 14), .ref (ad 15), .ref (ad 16), .ref (ad 17), .ref (ad 18), .ref (ad 19), .ref (ad 20), .ref (ad 21), .ref (ad 22), .ref (ad 24), .ref (ad 26), .ref (ad 28), .ref (ad 30)])),
  (ad 13, .inl (cA 1, 25, .inr (.inl (gB σ 0)))),
  (ad 14, .inl (cA 1, 25, .inr (.inl (gB σ 1)))),
  (ad 15, .inl (cA 1, 9, .inr (.inl (gB σ 2)))),
  (ad 16, .inl (cA 0, 81, .inl (gA σ 10))),
  (ad 17, .inl (cA 0, 9, .inl (gA σ 11))),
  (ad 18, .inl (cA 0, 9, .inl (gA σ 12))),
  (ad 19, .inl (cA 1, 512, .inr (.inl (gB σ 3)))),
  (ad 20, .inl (cA 1, 512, .inr (.inl (gB σ 4)))),
  (ad 21, .inl (cA 1, 512, .inr (.inl (gB σ 5)))),
  (ad 22, .inr (7, [.ref (ad 23)])),
  (ad 23, .inl (cA 1, 8, .inr (.inl (gB σ 6)))),
  (ad 24, .inr (7, [.ref (ad 25)])),
  (ad 25, .inl (cA 1, 8, .inr (.inl (gB σ 7)))),
  (ad 26, .inr (7, [.ref (ad 27)])),
  (ad 27, .inl (cA 1, 8, .inr (.inl (gB σ 8)))),
  (ad 28, .inr (7, [.ref (ad 29)])),
  (ad 29, .inl (cA 1, 8, .inr (.inl (gB σ 9)))),
  (ad 30, .inr (7, [.ref (ad 31)])),
  (ad 31, .inl (cA 1, 8, .inr (.inl (gB σ 10)))),
  (ad 32, .inr (5, [.int (gI σ 4), .ref (ad 33), .ref (ad 34), .ref (ad 35), .ref (ad 36), .ref (ad 37)])),
  (ad 33, .inl (cA 0, 12, .inl (gA σ 13))),
  (ad 34, .inl (cA 0, 12, .inl (gA σ 14))),
  (ad 35, .inl (cA 0, 12, .inl (gA σ 15))),
  (ad 36, .inl (cA 0, 12, .inl (gA σ 16))),
  (ad 37, .inl (cA 0, 12, .inl (gA σ 17))),
  (ad 38, .inr (2, [.int (gI σ 5), .int (gI σ 6), .int (gI σ 7), .int (gI σ 8), .ref (ad 39), .ref (ad 40), .ref (ad 41), .ref (ad 42), .ref (ad 43), .ref (ad 44), .ref (ad 45)])),
  (ad 39, .inl (cA 0, 9, .inl (gA σ 18))),
  (ad 40, .inl (cA 0, 5, .inl (gA σ 19))),
  (ad 41, .inl (cA 0, 5, .inl (gA σ 20))),
  (ad 42, .inl (cA 0, 5, .inl (gA σ 21))),
  (ad 43, .inl (cA 0, 512, .inl (gA σ 22))),
  (ad 44, .inl (cA 0, 512, .inl (gA σ 23))),
  (ad 45, .inl (cA 1, 512, .inr (.inl (gB σ 11)))),
  (ad 46, .inr (6, [.int (gI σ 9), .int (gI σ 10), .int (gI σ 11), .int (gI σ 12), .ref (ad 47), .ref (ad 48), .ref (ad 49), .ref (ad 50), .ref (ad 51)])),
  (ad 47, .inl (cA 0, 45, .inl (gA σ 24))),
  (ad 48, .inl (cA 0, 9, .inl (gA σ 25))),
  (ad 49, .inl (cA 0, 512, .inl (gA σ 26))),
  (ad 50, .inl (cA 3, 512, .inl (gA σ 27))),
  (ad 51, .inl (cA 0, 9, .inl (gA σ 28)))]
theorem wl_0 {ad : Nat → Nat} {cA : Nat → ClassId} {σ : Sg} : (WL ad cA σ)[0]? = some (ad 0, .inr (8, [.ref (ad 1), .ref (ad 12), .ref (ad 32), .ref (ad 38), .ref (ad 46)])) := rfl
theorem wl_1 {ad : Nat → Nat} {cA : Nat → ClassId} {σ : Sg} : (WL ad cA σ)[1]? = some (ad 1, .inr (4, [.int (gI σ 0), .int (gI σ 1), .ref (ad 2), .ref (ad 3), .ref (ad 4), .ref (ad 5), .ref (ad 6), .ref (ad 7), .ref (ad 8), .ref (ad 9), .ref (ad 10), .ref (ad 11)])) := rfl
theorem wl_2 {ad : Nat → Nat} {cA : Nat → ClassId} {σ : Sg} : (WL ad cA σ)[2]? = some (ad 2, .inl (cA 0, 16, .inl (gA σ 0))) := rfl
theorem wl_3 {ad : Nat → Nat} {cA : Nat → ClassId} {σ : Sg} : (WL ad cA σ)[3]? = some (ad 3, .inl (cA 0, 16, .inl (gA σ 1))) := rfl
theorem wl_4 {ad : Nat → Nat} {cA : Nat → ClassId} {σ : Sg} : (WL ad cA σ)[4]? = some (ad 4, .inl (cA 0, 8, .inl (gA σ 2))) := rfl
theorem wl_5 {ad : Nat → Nat} {cA : Nat → ClassId} {σ : Sg} : (WL ad cA σ)[5]? = some (ad 5, .inl (cA 2, 8, .inl (gA σ 3))) := rfl
theorem wl_6 {ad : Nat → Nat} {cA : Nat → ClassId} {σ : Sg} : (WL ad cA σ)[6]? = some (ad 6, .inl (cA 0, 9, .inl (gA σ 4))) := rfl
theorem wl_7 {ad : Nat → Nat} {cA : Nat → ClassId} {σ : Sg} : (WL ad cA σ)[7]? = some (ad 7, .inl (cA 0, 9, .inl (gA σ 5))) := rfl
theorem wl_8 {ad : Nat → Nat} {cA : Nat → ClassId} {σ : Sg} : (WL ad cA σ)[8]? = some (ad 8, .inl (cA 0, 9, .inl (gA σ 6))) := rfl
theorem wl_9 {ad : Nat → Nat} {cA : Nat → ClassId} {σ : Sg} : (WL ad cA σ)[9]? = some (ad 9, .inl (cA 0, 9, .inl (gA σ 7))) := rfl
theorem wl_10 {ad : Nat → Nat} {cA : Nat → ClassId} {σ : Sg} : (WL ad cA σ)[10]? = some (ad 10, .inl (cA 0, 9, .inl (gA σ 8))) := rfl
theorem wl_11 {ad : Nat → Nat} {cA : Nat → ClassId} {σ : Sg} : (WL ad cA σ)[11]? = some (ad 11, .inl (cA 0, 9, .inl (gA σ 9))) := rfl
theorem wl_12 {ad : Nat → Nat} {cA : Nat → ClassId} {σ : Sg} : (WL ad cA σ)[12]? = some (ad 12, .inr (3, [.int (gI σ 2), .int (gI σ 3), .long (gL σ 0), .ref (ad 13), .ref (ad 14), .ref (ad 15), .ref (ad 16), .ref (ad 17), .ref (ad 18), .ref (ad 19), .ref (ad 20), .ref (ad 21), .ref (ad 22), .ref (ad 24), .ref (ad 26), .ref (ad 28), .ref (ad 30)])) := rfl
theorem wl_13 {ad : Nat → Nat} {cA : Nat → ClassId} {σ : Sg} : (WL ad cA σ)[13]? = some (ad 13, .inl (cA 1, 25, .inr (.inl (gB σ 0)))) := rfl
theorem wl_14 {ad : Nat → Nat} {cA : Nat → ClassId} {σ : Sg} : (WL ad cA σ)[14]? = some (ad 14, .inl (cA 1, 25, .inr (.inl (gB σ 1)))) := rfl
theorem wl_15 {ad : Nat → Nat} {cA : Nat → ClassId} {σ : Sg} : (WL ad cA σ)[15]? = some (ad 15, .inl (cA 1, 9, .inr (.inl (gB σ 2)))) := rfl
theorem wl_16 {ad : Nat → Nat} {cA : Nat → ClassId} {σ : Sg} : (WL ad cA σ)[16]? = some (ad 16, .inl (cA 0, 81, .inl (gA σ 10))) := rfl
theorem wl_17 {ad : Nat → Nat} {cA : Nat → ClassId} {σ : Sg} : (WL ad cA σ)[17]? = some (ad 17, .inl (cA 0, 9, .inl (gA σ 11))) := rfl
theorem wl_18 {ad : Nat → Nat} {cA : Nat → ClassId} {σ : Sg} : (WL ad cA σ)[18]? = some (ad 18, .inl (cA 0, 9, .inl (gA σ 12))) := rfl
theorem wl_19 {ad : Nat → Nat} {cA : Nat → ClassId} {σ : Sg} : (WL ad cA σ)[19]? = some (ad 19, .inl (cA 1, 512, .inr (.inl (gB σ 3)))) := rfl
theorem wl_20 {ad : Nat → Nat} {cA : Nat → ClassId} {σ : Sg} : (WL ad cA σ)[20]? = some (ad 20, .inl (cA 1, 512, .inr (.inl (gB σ 4)))) := rfl
theorem wl_21 {ad : Nat → Nat} {cA : Nat → ClassId} {σ : Sg} : (WL ad cA σ)[21]? = some (ad 21, .inl (cA 1, 512, .inr (.inl (gB σ 5)))) := rfl
theorem wl_22 {ad : Nat → Nat} {cA : Nat → ClassId} {σ : Sg} : (WL ad cA σ)[22]? = some (ad 22, .inr (7, [.ref (ad 23)])) := rfl
theorem wl_23 {ad : Nat → Nat} {cA : Nat → ClassId} {σ : Sg} : (WL ad cA σ)[23]? = some (ad 23, .inl (cA 1, 8, .inr (.inl (gB σ 6)))) := rfl
theorem wl_24 {ad : Nat → Nat} {cA : Nat → ClassId} {σ : Sg} : (WL ad cA σ)[24]? = some (ad 24, .inr (7, [.ref (ad 25)])) := rfl
theorem wl_25 {ad : Nat → Nat} {cA : Nat → ClassId} {σ : Sg} : (WL ad cA σ)[25]? = some (ad 25, .inl (cA 1, 8, .inr (.inl (gB σ 7)))) := rfl
theorem wl_26 {ad : Nat → Nat} {cA : Nat → ClassId} {σ : Sg} : (WL ad cA σ)[26]? = some (ad 26, .inr (7, [.ref (ad 27)])) := rfl
theorem wl_27 {ad : Nat → Nat} {cA : Nat → ClassId} {σ : Sg} : (WL ad cA σ)[27]? = some (ad 27, .inl (cA 1, 8, .inr (.inl (gB σ 8)))) := rfl
theorem wl_28 {ad : Nat → Nat} {cA : Nat → ClassId} {σ : Sg} : (WL ad cA σ)[28]? = some (ad 28, .inr (7, [.ref (ad 29)])) := rfl
theorem wl_29 {ad : Nat → Nat} {cA : Nat → ClassId} {σ : Sg} : (WL ad cA σ)[29]? = some (ad 29, .inl (cA 1, 8, .inr (.inl (gB σ 9)))) := rfl
theorem wl_30 {ad : Nat → Nat} {cA : Nat → ClassId} {σ : Sg} : (WL ad cA σ)[30]? = some (ad 30, .inr (7, [.ref (ad 31)])) := rfl
theorem wl_31 {ad : Nat → Nat} {cA : Nat → ClassId} {σ : Sg} : (WL ad cA σ)[31]? = some (ad 31, .inl (cA 1, 8, .inr (.inl (gB σ 10)))) := rfl
theorem wl_32 {ad : Nat → Nat} {cA : Nat → ClassId} {σ : Sg} : (WL ad cA σ)[32]? = some (ad 32, .inr (5, [.int (gI σ 4), .ref (ad 33), .ref (ad 34), .ref (ad 35), .ref (ad 36), .ref (ad 37)])) := rfl
theorem wl_33 {ad : Nat → Nat} {cA : Nat → ClassId} {σ : Sg} : (WL ad cA σ)[33]? = some (ad 33, .inl (cA 0, 12, .inl (gA σ 13))) := rfl
theorem wl_34 {ad : Nat → Nat} {cA : Nat → ClassId} {σ : Sg} : (WL ad cA σ)[34]? = some (ad 34, .inl (cA 0, 12, .inl (gA σ 14))) := rfl
theorem wl_35 {ad : Nat → Nat} {cA : Nat → ClassId} {σ : Sg} : (WL ad cA σ)[35]? = some (ad 35, .inl (cA 0, 12, .inl (gA σ 15))) := rfl
theorem wl_36 {ad : Nat → Nat} {cA : Nat → ClassId} {σ : Sg} : (WL ad cA σ)[36]? = some (ad 36, .inl (cA 0, 12, .inl (gA σ 16))) := rfl
theorem wl_37 {ad : Nat → Nat} {cA : Nat → ClassId} {σ : Sg} : (WL ad cA σ)[37]? = some (ad 37, .inl (cA 0, 12, .inl (gA σ 17))) := rfl
theorem wl_38 {ad : Nat → Nat} {cA : Nat → ClassId} {σ : Sg} : (WL ad cA σ)[38]? = some (ad 38, .inr (2, [.int (gI σ 5), .int (gI σ 6), .int (gI σ 7), .int (gI σ 8), .ref (ad 39), .ref (ad 40), .ref (ad 41), .ref (ad 42), .ref (ad 43), .ref (ad 44), .ref (ad 45)])) := rfl
theorem wl_39 {ad : Nat → Nat} {cA : Nat → ClassId} {σ : Sg} : (WL ad cA σ)[39]? = some (ad 39, .inl (cA 0, 9, .inl (gA σ 18))) := rfl
theorem wl_40 {ad : Nat → Nat} {cA : Nat → ClassId} {σ : Sg} : (WL ad cA σ)[40]? = some (ad 40, .inl (cA 0, 5, .inl (gA σ 19))) := rfl
theorem wl_41 {ad : Nat → Nat} {cA : Nat → ClassId} {σ : Sg} : (WL ad cA σ)[41]? = some (ad 41, .inl (cA 0, 5, .inl (gA σ 20))) := rfl
theorem wl_42 {ad : Nat → Nat} {cA : Nat → ClassId} {σ : Sg} : (WL ad cA σ)[42]? = some (ad 42, .inl (cA 0, 5, .inl (gA σ 21))) := rfl
theorem wl_43 {ad : Nat → Nat} {cA : Nat → ClassId} {σ : Sg} : (WL ad cA σ)[43]? = some (ad 43, .inl (cA 0, 512, .inl (gA σ 22))) := rfl
theorem wl_44 {ad : Nat → Nat} {cA : Nat → ClassId} {σ : Sg} : (WL ad cA σ)[44]? = some (ad 44, .inl (cA 0, 512, .inl (gA σ 23))) := rfl
theorem wl_45 {ad : Nat → Nat} {cA : Nat → ClassId} {σ : Sg} : (WL ad cA σ)[45]? = some (ad 45, .inl (cA 1, 512, .inr (.inl (gB σ 11)))) := rfl
theorem wl_46 {ad : Nat → Nat} {cA : Nat → ClassId} {σ : Sg} : (WL ad cA σ)[46]? = some (ad 46, .inr (6, [.int (gI σ 9), .int (gI σ 10), .int (gI σ 11), .int (gI σ 12), .ref (ad 47), .ref (ad 48), .ref (ad 49), .ref (ad 50), .ref (ad 51)])) := rfl
theorem wl_47 {ad : Nat → Nat} {cA : Nat → ClassId} {σ : Sg} : (WL ad cA σ)[47]? = some (ad 47, .inl (cA 0, 45, .inl (gA σ 24))) := rfl
theorem wl_48 {ad : Nat → Nat} {cA : Nat → ClassId} {σ : Sg} : (WL ad cA σ)[48]? = some (ad 48, .inl (cA 0, 9, .inl (gA σ 25))) := rfl
theorem wl_49 {ad : Nat → Nat} {cA : Nat → ClassId} {σ : Sg} : (WL ad cA σ)[49]? = some (ad 49, .inl (cA 0, 512, .inl (gA σ 26))) := rfl
theorem wl_50 {ad : Nat → Nat} {cA : Nat → ClassId} {σ : Sg} : (WL ad cA σ)[50]? = some (ad 50, .inl (cA 3, 512, .inl (gA σ 27))) := rfl
theorem wl_51 {ad : Nat → Nat} {cA : Nat → ClassId} {σ : Sg} : (WL ad cA σ)[51]? = some (ad 51, .inl (cA 0, 9, .inl (gA σ 28))) := rfl
theorem ws_1_0 {ad : Nat → Nat} {cA : Nat → ClassId} {σ τ : Sg} {v : Int32} (e : τ = sI σ 0 v) : (WL ad cA σ).set 1 (ad 1, .inr (4, ([.int (gI σ 0), .int (gI σ 1), .ref (ad 2), .ref (ad 3), .ref (ad 4), .ref (ad 5), .ref (ad 6), .ref (ad 7), .ref (ad 8), .ref (ad 9), .ref (ad 10), .ref (ad 11)] : List Value).set 0 (.int v))) = WL ad cA τ := by subst e; rfl
theorem ws_1_1 {ad : Nat → Nat} {cA : Nat → ClassId} {σ τ : Sg} {v : Int32} (e : τ = sI σ 1 v) : (WL ad cA σ).set 1 (ad 1, .inr (4, ([.int (gI σ 0), .int (gI σ 1), .ref (ad 2), .ref (ad 3), .ref (ad 4), .ref (ad 5), .ref (ad 6), .ref (ad 7), .ref (ad 8), .ref (ad 9), .ref (ad 10), .ref (ad 11)] : List Value).set 1 (.int v))) = WL ad cA τ := by subst e; rfl
theorem ws_2 {ad : Nat → Nat} {cA : Nat → ClassId} {σ τ : Sg} {i : Int32} {v : Int32} (e : τ = sA σ 0 (ix i) v) : (WL ad cA σ).set 2 (ad 2, .inl (cA 0, 16, .inl (upd (gA σ 0) i.toNatClampNeg v))) = WL ad cA τ := by subst e; rfl
theorem ws_3 {ad : Nat → Nat} {cA : Nat → ClassId} {σ τ : Sg} {i : Int32} {v : Int32} (e : τ = sA σ 1 (ix i) v) : (WL ad cA σ).set 3 (ad 3, .inl (cA 0, 16, .inl (upd (gA σ 1) i.toNatClampNeg v))) = WL ad cA τ := by subst e; rfl
theorem ws_4 {ad : Nat → Nat} {cA : Nat → ClassId} {σ τ : Sg} {i : Int32} {v : Int32} (e : τ = sA σ 2 (ix i) v) : (WL ad cA σ).set 4 (ad 4, .inl (cA 0, 8, .inl (upd (gA σ 2) i.toNatClampNeg v))) = WL ad cA τ := by subst e; rfl
theorem ws_5 {ad : Nat → Nat} {cA : Nat → ClassId} {σ τ : Sg} {i : Int32} {v : Int32} (e : τ = sA σ 3 (ix i) v) : (WL ad cA σ).set 5 (ad 5, .inl (cA 2, 8, .inl (upd (gA σ 3) i.toNatClampNeg v))) = WL ad cA τ := by subst e; rfl
theorem ws_6 {ad : Nat → Nat} {cA : Nat → ClassId} {σ τ : Sg} {i : Int32} {v : Int32} (e : τ = sA σ 4 (ix i) v) : (WL ad cA σ).set 6 (ad 6, .inl (cA 0, 9, .inl (upd (gA σ 4) i.toNatClampNeg v))) = WL ad cA τ := by subst e; rfl
theorem ws_7 {ad : Nat → Nat} {cA : Nat → ClassId} {σ τ : Sg} {i : Int32} {v : Int32} (e : τ = sA σ 5 (ix i) v) : (WL ad cA σ).set 7 (ad 7, .inl (cA 0, 9, .inl (upd (gA σ 5) i.toNatClampNeg v))) = WL ad cA τ := by subst e; rfl
theorem ws_8 {ad : Nat → Nat} {cA : Nat → ClassId} {σ τ : Sg} {i : Int32} {v : Int32} (e : τ = sA σ 6 (ix i) v) : (WL ad cA σ).set 8 (ad 8, .inl (cA 0, 9, .inl (upd (gA σ 6) i.toNatClampNeg v))) = WL ad cA τ := by subst e; rfl
theorem ws_9 {ad : Nat → Nat} {cA : Nat → ClassId} {σ τ : Sg} {i : Int32} {v : Int32} (e : τ = sA σ 7 (ix i) v) : (WL ad cA σ).set 9 (ad 9, .inl (cA 0, 9, .inl (upd (gA σ 7) i.toNatClampNeg v))) = WL ad cA τ := by subst e; rfl
theorem ws_10 {ad : Nat → Nat} {cA : Nat → ClassId} {σ τ : Sg} {i : Int32} {v : Int32} (e : τ = sA σ 8 (ix i) v) : (WL ad cA σ).set 10 (ad 10, .inl (cA 0, 9, .inl (upd (gA σ 8) i.toNatClampNeg v))) = WL ad cA τ := by subst e; rfl
theorem ws_11 {ad : Nat → Nat} {cA : Nat → ClassId} {σ τ : Sg} {i : Int32} {v : Int32} (e : τ = sA σ 9 (ix i) v) : (WL ad cA σ).set 11 (ad 11, .inl (cA 0, 9, .inl (upd (gA σ 9) i.toNatClampNeg v))) = WL ad cA τ := by subst e; rfl
theorem ws_12_0 {ad : Nat → Nat} {cA : Nat → ClassId} {σ τ : Sg} {v : Int32} (e : τ = sI σ 2 v) : (WL ad cA σ).set 12 (ad 12, .inr (3, ([.int (gI σ 2), .int (gI σ 3), .long (gL σ 0), .ref (ad 13), .ref (ad 14), .ref (ad 15), .ref (ad 16), .ref (ad 17), .ref (ad 18), .ref (ad 19), .ref (ad 20), .ref (ad 21), .ref (ad 22), .ref (ad 24), .ref (ad 26), .ref (ad 28), .ref (ad 30)] : List Value).set 0 (.int v))) = WL ad cA τ := by subst e; rfl
theorem ws_12_1 {ad : Nat → Nat} {cA : Nat → ClassId} {σ τ : Sg} {v : Int32} (e : τ = sI σ 3 v) : (WL ad cA σ).set 12 (ad 12, .inr (3, ([.int (gI σ 2), .int (gI σ 3), .long (gL σ 0), .ref (ad 13), .ref (ad 14), .ref (ad 15), .ref (ad 16), .ref (ad 17), .ref (ad 18), .ref (ad 19), .ref (ad 20), .ref (ad 21), .ref (ad 22), .ref (ad 24), .ref (ad 26), .ref (ad 28), .ref (ad 30)] : List Value).set 1 (.int v))) = WL ad cA τ := by subst e; rfl
theorem ws_12_2 {ad : Nat → Nat} {cA : Nat → ClassId} {σ τ : Sg} {v : Int64} (e : τ = sL σ 0 v) : (WL ad cA σ).set 12 (ad 12, .inr (3, ([.int (gI σ 2), .int (gI σ 3), .long (gL σ 0), .ref (ad 13), .ref (ad 14), .ref (ad 15), .ref (ad 16), .ref (ad 17), .ref (ad 18), .ref (ad 19), .ref (ad 20), .ref (ad 21), .ref (ad 22), .ref (ad 24), .ref (ad 26), .ref (ad 28), .ref (ad 30)] : List Value).set 2 (.long v))) = WL ad cA τ := by subst e; rfl
theorem ws_13 {ad : Nat → Nat} {cA : Nat → ClassId} {σ τ : Sg} {i : Int32} {v : Int64} (e : τ = sB σ 0 (ix i) v) : (WL ad cA σ).set 13 (ad 13, .inl (cA 1, 25, .inr (.inl (vp_updL (gB σ 0) i.toNatClampNeg v)))) = WL ad cA τ := by subst e; rfl
theorem ws_14 {ad : Nat → Nat} {cA : Nat → ClassId} {σ τ : Sg} {i : Int32} {v : Int64} (e : τ = sB σ 1 (ix i) v) : (WL ad cA σ).set 14 (ad 14, .inl (cA 1, 25, .inr (.inl (vp_updL (gB σ 1) i.toNatClampNeg v)))) = WL ad cA τ := by subst e; rfl
theorem ws_15 {ad : Nat → Nat} {cA : Nat → ClassId} {σ τ : Sg} {i : Int32} {v : Int64} (e : τ = sB σ 2 (ix i) v) : (WL ad cA σ).set 15 (ad 15, .inl (cA 1, 9, .inr (.inl (vp_updL (gB σ 2) i.toNatClampNeg v)))) = WL ad cA τ := by subst e; rfl
theorem ws_16 {ad : Nat → Nat} {cA : Nat → ClassId} {σ τ : Sg} {i : Int32} {v : Int32} (e : τ = sA σ 10 (ix i) v) : (WL ad cA σ).set 16 (ad 16, .inl (cA 0, 81, .inl (upd (gA σ 10) i.toNatClampNeg v))) = WL ad cA τ := by subst e; rfl
theorem ws_17 {ad : Nat → Nat} {cA : Nat → ClassId} {σ τ : Sg} {i : Int32} {v : Int32} (e : τ = sA σ 11 (ix i) v) : (WL ad cA σ).set 17 (ad 17, .inl (cA 0, 9, .inl (upd (gA σ 11) i.toNatClampNeg v))) = WL ad cA τ := by subst e; rfl
theorem ws_18 {ad : Nat → Nat} {cA : Nat → ClassId} {σ τ : Sg} {i : Int32} {v : Int32} (e : τ = sA σ 12 (ix i) v) : (WL ad cA σ).set 18 (ad 18, .inl (cA 0, 9, .inl (upd (gA σ 12) i.toNatClampNeg v))) = WL ad cA τ := by subst e; rfl
theorem ws_19 {ad : Nat → Nat} {cA : Nat → ClassId} {σ τ : Sg} {i : Int32} {v : Int64} (e : τ = sB σ 3 (ix i) v) : (WL ad cA σ).set 19 (ad 19, .inl (cA 1, 512, .inr (.inl (vp_updL (gB σ 3) i.toNatClampNeg v)))) = WL ad cA τ := by subst e; rfl
theorem ws_20 {ad : Nat → Nat} {cA : Nat → ClassId} {σ τ : Sg} {i : Int32} {v : Int64} (e : τ = sB σ 4 (ix i) v) : (WL ad cA σ).set 20 (ad 20, .inl (cA 1, 512, .inr (.inl (vp_updL (gB σ 4) i.toNatClampNeg v)))) = WL ad cA τ := by subst e; rfl
theorem ws_21 {ad : Nat → Nat} {cA : Nat → ClassId} {σ τ : Sg} {i : Int32} {v : Int64} (e : τ = sB σ 5 (ix i) v) : (WL ad cA σ).set 21 (ad 21, .inl (cA 1, 512, .inr (.inl (vp_updL (gB σ 5) i.toNatClampNeg v)))) = WL ad cA τ := by subst e; rfl
theorem ws_23 {ad : Nat → Nat} {cA : Nat → ClassId} {σ τ : Sg} {i : Int32} {v : Int64} (e : τ = sB σ 6 (ix i) v) : (WL ad cA σ).set 23 (ad 23, .inl (cA 1, 8, .inr (.inl (vp_updL (gB σ 6) i.toNatClampNeg v)))) = WL ad cA τ := by subst e; rfl
theorem ws_25 {ad : Nat → Nat} {cA : Nat → ClassId} {σ τ : Sg} {i : Int32} {v : Int64} (e : τ = sB σ 7 (ix i) v) : (WL ad cA σ).set 25 (ad 25, .inl (cA 1, 8, .inr (.inl (vp_updL (gB σ 7) i.toNatClampNeg v)))) = WL ad cA τ := by subst e; rfl
theorem ws_27 {ad : Nat → Nat} {cA : Nat → ClassId} {σ τ : Sg} {i : Int32} {v : Int64} (e : τ = sB σ 8 (ix i) v) : (WL ad cA σ).set 27 (ad 27, .inl (cA 1, 8, .inr (.inl (vp_updL (gB σ 8) i.toNatClampNeg v)))) = WL ad cA τ := by subst e; rfl
theorem ws_29 {ad : Nat → Nat} {cA : Nat → ClassId} {σ τ : Sg} {i : Int32} {v : Int64} (e : τ = sB σ 9 (ix i) v) : (WL ad cA σ).set 29 (ad 29, .inl (cA 1, 8, .inr (.inl (vp_updL (gB σ 9) i.toNatClampNeg v)))) = WL ad cA τ := by subst e; rfl
theorem ws_31 {ad : Nat → Nat} {cA : Nat → ClassId} {σ τ : Sg} {i : Int32} {v : Int64} (e : τ = sB σ 10 (ix i) v) : (WL ad cA σ).set 31 (ad 31, .inl (cA 1, 8, .inr (.inl (vp_updL (gB σ 10) i.toNatClampNeg v)))) = WL ad cA τ := by subst e; rfl
theorem ws_32_0 {ad : Nat → Nat} {cA : Nat → ClassId} {σ τ : Sg} {v : Int32} (e : τ = sI σ 4 v) : (WL ad cA σ).set 32 (ad 32, .inr (5, ([.int (gI σ 4), .ref (ad 33), .ref (ad 34), .ref (ad 35), .ref (ad 36), .ref (ad 37)] : List Value).set 0 (.int v))) = WL ad cA τ := by subst e; rfl
theorem ws_33 {ad : Nat → Nat} {cA : Nat → ClassId} {σ τ : Sg} {i : Int32} {v : Int32} (e : τ = sA σ 13 (ix i) v) : (WL ad cA σ).set 33 (ad 33, .inl (cA 0, 12, .inl (upd (gA σ 13) i.toNatClampNeg v))) = WL ad cA τ := by subst e; rfl
theorem ws_34 {ad : Nat → Nat} {cA : Nat → ClassId} {σ τ : Sg} {i : Int32} {v : Int32} (e : τ = sA σ 14 (ix i) v) : (WL ad cA σ).set 34 (ad 34, .inl (cA 0, 12, .inl (upd (gA σ 14) i.toNatClampNeg v))) = WL ad cA τ := by subst e; rfl
theorem ws_35 {ad : Nat → Nat} {cA : Nat → ClassId} {σ τ : Sg} {i : Int32} {v : Int32} (e : τ = sA σ 15 (ix i) v) : (WL ad cA σ).set 35 (ad 35, .inl (cA 0, 12, .inl (upd (gA σ 15) i.toNatClampNeg v))) = WL ad cA τ := by subst e; rfl
theorem ws_36 {ad : Nat → Nat} {cA : Nat → ClassId} {σ τ : Sg} {i : Int32} {v : Int32} (e : τ = sA σ 16 (ix i) v) : (WL ad cA σ).set 36 (ad 36, .inl (cA 0, 12, .inl (upd (gA σ 16) i.toNatClampNeg v))) = WL ad cA τ := by subst e; rfl
theorem ws_37 {ad : Nat → Nat} {cA : Nat → ClassId} {σ τ : Sg} {i : Int32} {v : Int32} (e : τ = sA σ 17 (ix i) v) : (WL ad cA σ).set 37 (ad 37, .inl (cA 0, 12, .inl (upd (gA σ 17) i.toNatClampNeg v))) = WL ad cA τ := by subst e; rfl
theorem ws_38_0 {ad : Nat → Nat} {cA : Nat → ClassId} {σ τ : Sg} {v : Int32} (e : τ = sI σ 5 v) : (WL ad cA σ).set 38 (ad 38, .inr (2, ([.int (gI σ 5), .int (gI σ 6), .int (gI σ 7), .int (gI σ 8), .ref (ad 39), .ref (ad 40), .ref (ad 41), .ref (ad 42), .ref (ad 43), .ref (ad 44), .ref (ad 45)] : List Value).set 0 (.int v))) = WL ad cA τ := by subst e; rfl
theorem ws_38_1 {ad : Nat → Nat} {cA : Nat → ClassId} {σ τ : Sg} {v : Int32} (e : τ = sI σ 6 v) : (WL ad cA σ).set 38 (ad 38, .inr (2, ([.int (gI σ 5), .int (gI σ 6), .int (gI σ 7), .int (gI σ 8), .ref (ad 39), .ref (ad 40), .ref (ad 41), .ref (ad 42), .ref (ad 43), .ref (ad 44), .ref (ad 45)] : List Value).set 1 (.int v))) = WL ad cA τ := by subst e; rfl
theorem ws_38_2 {ad : Nat → Nat} {cA : Nat → ClassId} {σ τ : Sg} {v : Int32} (e : τ = sI σ 7 v) : (WL ad cA σ).set 38 (ad 38, .inr (2, ([.int (gI σ 5), .int (gI σ 6), .int (gI σ 7), .int (gI σ 8), .ref (ad 39), .ref (ad 40), .ref (ad 41), .ref (ad 42), .ref (ad 43), .ref (ad 44), .ref (ad 45)] : List Value).set 2 (.int v))) = WL ad cA τ := by subst e; rfl
theorem ws_38_3 {ad : Nat → Nat} {cA : Nat → ClassId} {σ τ : Sg} {v : Int32} (e : τ = sI σ 8 v) : (WL ad cA σ).set 38 (ad 38, .inr (2, ([.int (gI σ 5), .int (gI σ 6), .int (gI σ 7), .int (gI σ 8), .ref (ad 39), .ref (ad 40), .ref (ad 41), .ref (ad 42), .ref (ad 43), .ref (ad 44), .ref (ad 45)] : List Value).set 3 (.int v))) = WL ad cA τ := by subst e; rfl
theorem ws_39 {ad : Nat → Nat} {cA : Nat → ClassId} {σ τ : Sg} {i : Int32} {v : Int32} (e : τ = sA σ 18 (ix i) v) : (WL ad cA σ).set 39 (ad 39, .inl (cA 0, 9, .inl (upd (gA σ 18) i.toNatClampNeg v))) = WL ad cA τ := by subst e; rfl
theorem ws_40 {ad : Nat → Nat} {cA : Nat → ClassId} {σ τ : Sg} {i : Int32} {v : Int32} (e : τ = sA σ 19 (ix i) v) : (WL ad cA σ).set 40 (ad 40, .inl (cA 0, 5, .inl (upd (gA σ 19) i.toNatClampNeg v))) = WL ad cA τ := by subst e; rfl
theorem ws_41 {ad : Nat → Nat} {cA : Nat → ClassId} {σ τ : Sg} {i : Int32} {v : Int32} (e : τ = sA σ 20 (ix i) v) : (WL ad cA σ).set 41 (ad 41, .inl (cA 0, 5, .inl (upd (gA σ 20) i.toNatClampNeg v))) = WL ad cA τ := by subst e; rfl
theorem ws_42 {ad : Nat → Nat} {cA : Nat → ClassId} {σ τ : Sg} {i : Int32} {v : Int32} (e : τ = sA σ 21 (ix i) v) : (WL ad cA σ).set 42 (ad 42, .inl (cA 0, 5, .inl (upd (gA σ 21) i.toNatClampNeg v))) = WL ad cA τ := by subst e; rfl
theorem ws_43 {ad : Nat → Nat} {cA : Nat → ClassId} {σ τ : Sg} {i : Int32} {v : Int32} (e : τ = sA σ 22 (ix i) v) : (WL ad cA σ).set 43 (ad 43, .inl (cA 0, 512, .inl (upd (gA σ 22) i.toNatClampNeg v))) = WL ad cA τ := by subst e; rfl
theorem ws_44 {ad : Nat → Nat} {cA : Nat → ClassId} {σ τ : Sg} {i : Int32} {v : Int32} (e : τ = sA σ 23 (ix i) v) : (WL ad cA σ).set 44 (ad 44, .inl (cA 0, 512, .inl (upd (gA σ 23) i.toNatClampNeg v))) = WL ad cA τ := by subst e; rfl
theorem ws_45 {ad : Nat → Nat} {cA : Nat → ClassId} {σ τ : Sg} {i : Int32} {v : Int64} (e : τ = sB σ 11 (ix i) v) : (WL ad cA σ).set 45 (ad 45, .inl (cA 1, 512, .inr (.inl (vp_updL (gB σ 11) i.toNatClampNeg v)))) = WL ad cA τ := by subst e; rfl
theorem ws_46_0 {ad : Nat → Nat} {cA : Nat → ClassId} {σ τ : Sg} {v : Int32} (e : τ = sI σ 9 v) : (WL ad cA σ).set 46 (ad 46, .inr (6, ([.int (gI σ 9), .int (gI σ 10), .int (gI σ 11), .int (gI σ 12), .ref (ad 47), .ref (ad 48), .ref (ad 49), .ref (ad 50), .ref (ad 51)] : List Value).set 0 (.int v))) = WL ad cA τ := by subst e; rfl
theorem ws_46_1 {ad : Nat → Nat} {cA : Nat → ClassId} {σ τ : Sg} {v : Int32} (e : τ = sI σ 10 v) : (WL ad cA σ).set 46 (ad 46, .inr (6, ([.int (gI σ 9), .int (gI σ 10), .int (gI σ 11), .int (gI σ 12), .ref (ad 47), .ref (ad 48), .ref (ad 49), .ref (ad 50), .ref (ad 51)] : List Value).set 1 (.int v))) = WL ad cA τ := by subst e; rfl
theorem ws_46_2 {ad : Nat → Nat} {cA : Nat → ClassId} {σ τ : Sg} {v : Int32} (e : τ = sI σ 11 v) : (WL ad cA σ).set 46 (ad 46, .inr (6, ([.int (gI σ 9), .int (gI σ 10), .int (gI σ 11), .int (gI σ 12), .ref (ad 47), .ref (ad 48), .ref (ad 49), .ref (ad 50), .ref (ad 51)] : List Value).set 2 (.int v))) = WL ad cA τ := by subst e; rfl
theorem ws_46_3 {ad : Nat → Nat} {cA : Nat → ClassId} {σ τ : Sg} {v : Int32} (e : τ = sI σ 12 v) : (WL ad cA σ).set 46 (ad 46, .inr (6, ([.int (gI σ 9), .int (gI σ 10), .int (gI σ 11), .int (gI σ 12), .ref (ad 47), .ref (ad 48), .ref (ad 49), .ref (ad 50), .ref (ad 51)] : List Value).set 3 (.int v))) = WL ad cA τ := by subst e; rfl
theorem ws_47 {ad : Nat → Nat} {cA : Nat → ClassId} {σ τ : Sg} {i : Int32} {v : Int32} (e : τ = sA σ 24 (ix i) v) : (WL ad cA σ).set 47 (ad 47, .inl (cA 0, 45, .inl (upd (gA σ 24) i.toNatClampNeg v))) = WL ad cA τ := by subst e; rfl
theorem ws_48 {ad : Nat → Nat} {cA : Nat → ClassId} {σ τ : Sg} {i : Int32} {v : Int32} (e : τ = sA σ 25 (ix i) v) : (WL ad cA σ).set 48 (ad 48, .inl (cA 0, 9, .inl (upd (gA σ 25) i.toNatClampNeg v))) = WL ad cA τ := by subst e; rfl
theorem ws_49 {ad : Nat → Nat} {cA : Nat → ClassId} {σ τ : Sg} {i : Int32} {v : Int32} (e : τ = sA σ 26 (ix i) v) : (WL ad cA σ).set 49 (ad 49, .inl (cA 0, 512, .inl (upd (gA σ 26) i.toNatClampNeg v))) = WL ad cA τ := by subst e; rfl
theorem ws_50 {ad : Nat → Nat} {cA : Nat → ClassId} {σ τ : Sg} {i : Int32} {v : Int32} (e : τ = sA σ 27 (ix i) v) : (WL ad cA σ).set 50 (ad 50, .inl (cA 3, 512, .inl (upd (gA σ 27) i.toNatClampNeg v))) = WL ad cA τ := by subst e; rfl
theorem ws_51 {ad : Nat → Nat} {cA : Nat → ClassId} {σ τ : Sg} {i : Int32} {v : Int32} (e : τ = sA σ 28 (ix i) v) : (WL ad cA σ).set 51 (ad 51, .inl (cA 0, 9, .inl (upd (gA σ 28) i.toNatClampNeg v))) = WL ad cA τ := by subst e; rfl
theorem nw_tab {w : Cond} (h : nwWord w = true) : w.onTables = true := by
  cases w <;> first | rfl | (simp [nwWord] at h)
theorem nw_warm {w : Cond} (hn : nwWord w = true) {s U : State} (hW : s.WarmedH U.vm) (h : va_Nw w s) : va_Nw w U := by
  cases w <;> first | exact va_Nw.warmC hW h | exact va_Nw.warmD hW h | exact va_Nw.warmF hW h | exact va_Nw.warmM hW h | (simp [nwWord] at hn)
/-! what is given of the start: statics, Strings, classes, the script -/
def ov : Option Nat → Value
  | none => .null
  | some a => .ref a
abbrev gv_T : Type := (Nat → Nat) × (Nat → Nat) × Option Nat × Nat × Nat × (Nat → Int32)
def GV (g : gv_T) (A : Nat → Prop) (U : State) (H : Heap) : Prop :=
  (vx_Zq Bundle.tN "UNASSIGNED_STACK" Bundle.steD A U H ∧ vx_Zq Bundle.tN "SUPPRESSED_SENTINEL" Bundle.listD A U H) ∧
  (va_Z "java/lang/String" "COMPACT_STRINGS" "Z" (.int 1) A U H ∧ va_Z "jdk/internal/util/Preconditions" "SIOOBE_FORMATTER" "Ljava/util/function/BiFunction;" (ov g.2.2.1) A U H) ∧
  (∀ x ∈ SC, vk_S 1 [x.2.1] [x.2.2] (fun _ => g.1 x.1) (fun _ => g.2.1 x.1) A U H) ∧
  (va_X g.2.2.2.1 g.2.2.2.2.1 g.2.2.2.2.2 U H ∧ ¬ A g.2.2.2.1) ∧
  (∀ (i : Nat) (x : String × Nat × String), STR[i]? = some x → vk_R x.1 x.2.1 x.2.2 (g.1 i) U) ∧
  (∀ w ∈ NW, va_Nw w U) ∧ (∀ x ∈ NCL, va_Nc x.1 x.2 U)
theorem GV.th {g : gv_T} {A : Nat → Prop} {s : State} {H : Heap} (h : GV g A s H) : vx_Zq Bundle.tN "UNASSIGNED_STACK" Bundle.steD A s H ∧ vx_Zq Bundle.tN "SUPPRESSED_SENTINEL" Bundle.listD A s H := h.1
theorem GV.cs {g : gv_T} {A : Nat → Prop} {s : State} {H : Heap} (h : GV g A s H) : va_Z "java/lang/String" "COMPACT_STRINGS" "Z" (.int 1) A s H := h.2.1.1
theorem GV.si {g : gv_T} {A : Nat → Prop} {s : State} {H : Heap} (h : GV g A s H) : va_Z "jdk/internal/util/Preconditions" "SIOOBE_FORMATTER" "Ljava/util/function/BiFunction;" (ov g.2.2.1) A s H := h.2.1.2
theorem GV.sc {g : gv_T} {A : Nat → Prop} {s : State} {H : Heap} (h : GV g A s H) {x : Nat × Nat × List Int32} (hx : x ∈ SC) : vk_S 1 [x.2.1] [x.2.2] (fun _ => g.1 x.1) (fun _ => g.2.1 x.1) A s H := h.2.2.1 x hx
theorem GV.scr {g : gv_T} {A : Nat → Prop} {s : State} {H : Heap} (h : GV g A s H) : va_X g.2.2.2.1 g.2.2.2.2.1 g.2.2.2.2.2 s H ∧ ¬ A g.2.2.2.1 := h.2.2.2.1
theorem GV.str {g : gv_T} {A : Nat → Prop} {s : State} {H : Heap} (h : GV g A s H) : ∀ (i : Nat) (x : String × Nat × String), STR[i]? = some x → vk_R x.1 x.2.1 x.2.2 (g.1 i) s := h.2.2.2.2.1
theorem GV.nw {g : gv_T} {A : Nat → Prop} {s : State} {H : Heap} (h : GV g A s H) : ∀ w ∈ NW, va_Nw w s := h.2.2.2.2.2.1
theorem GV.nc {g : gv_T} {A : Nat → Prop} {s : State} {H : Heap} (h : GV g A s H) : ∀ x ∈ NCL, va_Nc x.1 x.2 s := h.2.2.2.2.2.2
theorem GV.warm {g : gv_T} {A : Nat → Prop} {s U : State} {H : Heap} (hW : s.WarmedH U.vm) (h : GV g A s H) : GV g A U H := by
  obtain ⟨⟨h1, h2⟩, ⟨h3, h4⟩, h5, ⟨h6, h7⟩, h8, h9, h10⟩ := h
  exact ⟨⟨vx_Zq.moved hW.alike h1, vx_Zq.moved hW.alike h2⟩, ⟨va_Z.moved hW.alike h3, va_Z.moved hW.alike h4⟩, fun x hx => vk_S.moved hW.alike (h5 x hx), ⟨va_X.moved hW.alike h6, h7⟩, fun i x hx => vk_R.warm hW (h8 i x hx), fun w hw => nw_warm (List.mem_filter.mp hw).2 hW (h9 w hw), fun x hx => va_Nc.moved hW.alike (h10 x hx)⟩
theorem va_X.bound {b L : Nat} {xs : Nat → Int32} {U : State} {H : Heap} (h : va_X b L xs U H) : b < H.size := by
  obtain ⟨scr, h1, -⟩ := h
  exact (Array.getElem?_eq_some_iff.mp h1).1
theorem GV.kept {g : gv_T} {A : Nat → Prop} {U : State} {H H1 : Heap} (h : GV g A U H) (hq : ∀ a : Nat, a < H.size → ¬ A a → H1[a]? = H[a]?) : GV g A U H1 := by
  obtain ⟨⟨h1, h2⟩, ⟨h3, h4⟩, h5, ⟨h6, h7⟩, h8, h9, h10⟩ := h
  exact ⟨⟨h1.kept hq, h2.kept hq⟩, ⟨h3.kept hq, h4.kept hq⟩, fun x hx => (h5 x hx).kept hq, ⟨h6.kept (hq _ h6.bound h7), h7⟩, h8, h9, h10⟩
theorem GV.narrow {g : gv_T} {A B : Nat → Prop} {U : State} {H : Heap} (h : GV g A U H) (hAB : ∀ q, B q → A q) : GV g B U H := by
  obtain ⟨⟨h1, h2⟩, ⟨h3, h4⟩, h5, ⟨h6, h7⟩, h8, h9, h10⟩ := h
  exact ⟨⟨h1.narrow hAB, h2.narrow hAB⟩, ⟨h3.narrow hAB, h4.narrow hAB⟩, fun x hx => (h5 x hx).narrow hAB, ⟨h6, fun z => h7 (hAB _ z)⟩, h8, h9, h10⟩
theorem vx_ofWF {l : Launch} {y : MethodName} {ws ws' : List Cond} {rm : Room} {Pc : Array Value → State → Prop} {Qc : Array Value → State → Outcome → State → Prop} {XC : String → State → State → Prop} {mc ms : Nat} {free : Addr → Prop} {cc : ByteArray} {maxL : Nat} {ret : Option FieldType}
    (hy : plainFor y = true) (hw : ws = Cond.code y cc maxL ret :: ws')
    (body : ∀ p e s m args below meth c s₁, BodyLoose p l y (headSpec ws rm) cc maxL ret e s m args below meth c s₁ → c.maxLocals = maxL → (∀ x ∈ c.exceptionTable.toList, False) → Pc args s →
      W p l e (headSpec ws rm).room s m args below meth c s.heap [] 0 0 (vx_MQ below Qc XC args s mc ms free) (entryFrame m args maxL)) : vx_Met l y ws rm Pc Qc XC mc ms free := by
  refine MetFree.of_bodySF (code := cc) (maxLocals := maxL) (ret := ret) hy ?_ ?_
  · intro args s m h hn
    obtain ⟨meth, c, h1, h2, h3, h4, h5, h6, -, -⟩ := Cond.code_spec hn (atoms_spec (ws := ws) h _ (by rw [hw]; exact List.mem_cons_self))
    exact ⟨meth, c, h1, h2, h3, h4, h5, h6⟩
  · intro p e s m args below meth c s₁ B hml hP _
    have hh0 : s₁.heap = s.heap := by rw [B.state]; rfl
    have ht : ∀ x ∈ c.exceptionTable.toList, False := by
      obtain ⟨meth9, c9, h1, h2, -, -, -, -, h7, -⟩ := Cond.code_spec B.named (atoms_spec (ws := ws) B.pre _ (by rw [hw]; exact List.mem_cons_self))
      cases Option.some.inj (h1.symm.trans B.method)
      cases Option.some.inj (h2.symm.trans (Stand.of_body B).code)
      intro x hx
      rw [Array.isEmpty_iff.mp h7] at hx
      cases hx
    obtain ⟨t, a1, o, b1, b2, b3⟩ := body p e s m args below meth c s₁ B hml ht hP s₁ hh0 (Stand.of_body B)
    exact ⟨t, o, a1, b1, b2, b3⟩
theorem fit_char {v : Int32} (h : narrow .char (.int v) = .int v) : fits .char (.int v) = true := by
  have e : v.toUInt32.toUInt16.toUInt32.toInt32 = v := Value.int.inj h
  obtain ⟨q, hq, hv⟩ : ∃ q : Nat, q < 65536 ∧ v = nI q := ⟨v.toUInt32.toUInt16.toNat, UInt16.toNat_lt _, by
    refine e.symm.trans ?_
    apply Int32.toBitVec_inj.mp
    apply BitVec.eq_of_toNat_eq
    show v.toUInt32.toUInt16.toUInt32.toNat = v.toUInt32.toUInt16.toNat % 2 ^ 32
    rw [UInt16.toNat_toUInt32]
    have := UInt16.toNat_lt v.toUInt32.toUInt16
    omega⟩
  rw [hv]
  exact (pk_charN hq).2
/-! contracts -/
abbrev TYS (cA : Nat → ClassId) : List (ClassId × FieldType) := [(cA 0, .int), (cA 1, .long), (cA 2, .char), (cA 3, .boolean)]
def PcB (D : va_G) (cA : Nat → ClassId) (g : gv_T) (ws : va_W) (sz : Nat) (U : State) : Prop := U.heap.size = sz ∧ va_P D vwCl ws U.heap ∧ va_K D vwCl (TYS cA) U ∧ va_D (fun _ => True) ws ∧ GV g (va_A ws sz) U U.heap
abbrev PcG (D : va_G) (cA : Nat → ClassId) (g : gv_T) (av : List Value) (ws : va_W) (sz : Nat) : Array Value → State → Prop := va_Pc av (PcB D cA g ws sz)
theorem PcG.blind (D : va_G) (cA : Nat → ClassId) (g : gv_T) (av : List Value) (ws : va_W) (sz : Nat) : FrameBlind (PcG D cA g av ws sz) := by
  intro a U f mk h
  obtain ⟨h1, h2, h3, h4, h5, h6⟩ := h
  exact ⟨h1, h2, h3, va_K.moved (u := U) (U := U.calling f mk a) (Vm.Alike.refl U.vm) h4, h5, GV.warm (U := U.calling f mk a) (State.WarmedH.refl U) h6⟩
def QcG (D : va_G) (A : Nat → Prop) (rv : (Nat → Nat) → Option Value) (ws' : (Nat → Nat) → va_W) : Array Value → State → Outcome → State → Prop := fun _ st oc t => (∃ q : Nat → Nat, oc = .returned (rv q) ∧ va_P D vwCl (ws' q) t.heap ∧ va_D A (ws' q)) ∧ va_F A st t
def QM (D : va_G) (ad : Nat → Nat) (cA : Nat → ClassId) (A : Nat → Prop) (Q : Option Value → Sg → Prop) : Array Value → State → Outcome → State → Prop := fun _ st oc t => (∃ (v : Option Value) (σ : Sg), Q v σ ∧ oc = .returned v ∧ va_P D vwCl (WL ad cA σ) t.heap ∧ va_D A (WL ad cA σ)) ∧ va_F A st t
def XM (D : va_G) (ad : Nat → Nat) (cA : Nat → ClassId) (A : Nat → Prop) (X : String → Sg → Prop) : String → State → State → Prop := fun E st t => (∃ σ : Sg, X E σ ∧ va_P D vwCl (WL ad cA σ) t.heap ∧ va_D A (WL ad cA σ)) ∧ va_F A st t
abbrev RM (f c s n : Nat) : Room := { frames := f, cells := c, slots := s, locals := n }
def CT (l : Launch) (y : MethodName) (b : ByteArray) (n : Nat) (ret : Option FieldType) (R : Room) (D : va_G) (cA : Nat → ClassId) (g : gv_T) (av : List Value) (ws : va_W) (rv : (Nat → Nat) → Option Value) (ws' : (Nat → Nat) → va_W) : Prop :=
  ∀ sz : Nat, Met l y (.code y b n ret :: GW) R (PcG D cA g av ws sz) (QcG D (va_A ws sz) rv ws') R.cells R.slots (va_A ws sz)
/-- a method of the yard: Q what it answers and leaves, X what it throws and leaves -/
def MC (l : Launch) (y : MethodName) (b : ByteArray) (n : Nat) (ret : Option FieldType) (R : Room) (D : va_G) (ad : Nat → Nat) (cA : Nat → ClassId) (g : gv_T) (av : List Value) (σ : Sg) (Q : Option Value → Sg → Prop) (X : String → Sg → Prop) : Prop :=
  ∀ sz : Nat, vx_Met l y (.code y b n ret :: GW) R (PcG D cA g av (WL ad cA σ) sz) (QM D ad cA (va_A (WL ad cA σ) sz) Q) (XM D ad cA (va_A (WL ad cA σ) sz) X) R.cells R.slots (va_A (WL ad cA σ) sz)
/-- the same with a table of its own; nothing leaves it but by a return -/
def MW (l : Launch) (y : MethodName) (b : ByteArray) (n : Nat) (ret : Option FieldType) (hh : List (Nat × Nat × Nat × Nat)) (R : Room) (D : va_G) (ad : Nat → Nat) (cA : Nat → ClassId) (g : gv_T) (av : List Value) (σ : Sg) (Q : Option Value → Sg → Prop) : Prop :=
  ∀ sz : Nat, Met l y (.codeWith y b n ret hh :: GW) R (PcG D cA g av (WL ad cA σ) sz) (QM D ad cA (va_A (WL ad cA σ) sz) Q) R.cells R.slots (va_A (WL ad cA σ) sz)
section CTS
variable {l : Launch} {y : MethodName} {b : ByteArray} {n : Nat} {ret : Option FieldType} {R : Room} {D : va_G} {ad : Nat → Nat} {cA : Nat → ClassId} {g : gv_T} {av : List Value} {ws : va_W} {rv : (Nat → Nat) → Option Value} {ws' : (Nat → Nat) → va_W} {σ : Sg} {Q : Option Value → Sg → Prop} {X : String → Sg → Prop}
theorem CT.of (hy : plainName y.cls = true) (hn : (lg_sl av).length ≤ n)
    (body : ∀ (p : Program) (e : Env) (s : State) (m : MethodId) (args : Array Value) (below : List Frame) (meth : Method) (c : Code) (A : Nat → Prop) (ls : Array Slot),
      p.tables.exec = Jvm.exec → c.code = b → meth.sig.returnType = ret → c.maxLocals = n → s.vm.findClass y.cls = some m.cls → (∀ w ∈ GW, w.before args s = true) → meth.locks = false → meth.name = y.name →
      (∀ q : Nat, s.heap.size ≤ q → A q) → va_S A s.heap s.heap [] → va_P D vwCl ws s.heap → va_K D vwCl (TYS cA) s → va_D A ws → GV g A s s.heap → lv_has ls n (lv_args 0 av) →
      W p l e R s m args below meth c s.heap [] 0 0 (MQ below (QcG D A rv ws') args s R.cells R.slots A) (F0 m 0 ls [])) : CT l y b n ret R D cA g av ws rv ws' := by
  intro sz
  refine Met.ofW (cc := b) (maxL := n) (ret := ret) hy rfl ?_
  intro p e s m args below meth c s₁ B hml hv
  obtain ⟨rfl, hsz, hP, hK, hD0, hGV⟩ := hv
  subst hsz
  rw [lg_entry_eq]
  exact body p e s m _ below meth c _ _ B.exec B.bytes B.returns hml (findClass_of_methodNamed B.named) (fun w hw => atoms_spec (ws := .code y b n ret :: GW) B.pre w (List.mem_cons_of_mem _ hw)) B.notSynchronized (name_of_methodNamed B.named B.method).1 (fun q h => Or.inr h) va_S.rf hP hK (hD0.self (sz := s.heap.size)) hGV (lv_entry av hn)
theorem MC.of (hy : plainFor y = true) (hn : (lg_sl av).length ≤ n)
    (body : ∀ (p : Program) (e : Env) (s : State) (m : MethodId) (args : Array Value) (below : List Frame) (meth : Method) (c : Code) (A : Nat → Prop) (ls : Array Slot),
      p.tables.exec = Jvm.exec → c.code = b → meth.sig.returnType = ret → c.maxLocals = n → s.vm.findClass y.cls = some m.cls → (∀ w ∈ GW, w.before args s = true) → meth.locks = false → (∀ x ∈ c.exceptionTable.toList, False) →
      (∀ q : Nat, s.heap.size ≤ q → A q) → va_S A s.heap s.heap [] → va_P D vwCl (WL ad cA σ) s.heap → va_K D vwCl (TYS cA) s → va_D A (WL ad cA σ) → GV g A s s.heap → lv_has ls n (lv_args 0 av) →
      W p l e R s m args below meth c s.heap [] 0 0 (vx_MQ below (QM D ad cA A Q) (XM D ad cA A X) args s R.cells R.slots A) (F0 m 0 ls [])) : MC l y b n ret R D ad cA g av σ Q X := by
  intro sz
  refine vx_ofWF (cc := b) (maxL := n) (ret := ret) hy rfl ?_
  intro p e s m args below meth c s₁ B hml ht hv
  obtain ⟨rfl, hsz, hP, hK, hD0, hGV⟩ := hv
  subst hsz
  rw [lg_entry_eq]
  exact body p e s m _ below meth c _ _ B.exec B.bytes B.returns hml (findClass_of_methodNamed B.named) (fun w hw => atoms_spec (ws := .code y b n ret :: GW) B.pre w (List.mem_cons_of_mem _ hw)) B.notSynchronized ht (fun q h => Or.inr h) va_S.rf hP hK (hD0.self (sz := s.heap.size)) hGV (lv_entry av hn)
theorem MW.of {hh : List (Nat × Nat × Nat × Nat)} (hy : plainName y.cls = true) (hn : (lg_sl av).length ≤ n)
    (body : ∀ (p : Program) (e : Env) (s : State) (m : MethodId) (args : Array Value) (below : List Frame) (meth : Method) (c : Code) (A : Nat → Prop) (ls : Array Slot),
      p.tables.exec = Jvm.exec → c.code = b → meth.sig.returnType = ret → c.maxLocals = n → s.vm.findClass y.cls = some m.cls → (∀ w ∈ GW, w.before args s = true) → meth.locks = false → c.exceptionTable.toList = tableOf hh →
      (∀ q : Nat, s.heap.size ≤ q → A q) → va_S A s.heap s.heap [] → va_P D vwCl (WL ad cA σ) s.heap → va_K D vwCl (TYS cA) s → va_D A (WL ad cA σ) → GV g A s s.heap → lv_has ls n (lv_args 0 av) →
      W p l e R s m args below meth c s.heap [] 0 0 (MQ below (QM D ad cA A Q) args s R.cells R.slots A) (F0 m 0 ls [])) : MW l y b n ret hh R D ad cA g av σ Q := by
  intro sz
  refine va_MetW (cc := b) (maxL := n) (ret := ret) (hh := hh) hy rfl ?_
  intro p e s m args below meth c s₁ B hml hv
  obtain ⟨rfl, hsz, hP, hK, hD0, hGV⟩ := hv
  subst hsz
  rw [lg_entry_eq]
  exact body p e s m _ below meth c _ _ B.exec B.bytes B.returns hml (findClass_of_methodNamed B.named) (fun w hw => atoms_spec (ws := .codeWith y b n ret hh :: GW) B.pre w (List.mem_cons_of_mem _ hw)) B.notSynchronized (vx_table (x := y) B (atoms_spec (ws := .codeWith y b n ret hh :: GW) B.pre _ List.mem_cons_self)) (fun q h => Or.inr h) va_S.rf hP hK (hD0.self (sz := s.heap.size)) hGV (lv_entry av hn)
end CTS
def iShl (x y : Int32) : Int32 := x <<< (y &&& 31)
def iShr (x y : Int32) : Int32 := x >>> (y &&& 31)
def iUshr (x y : Int32) : Int32 := (x.toUInt32 >>> (y.toUInt32 &&& Int32.toUInt32 31)).toInt32
def lShr (x : Int64) (y : Int32) : Int64 := x >>> (y.toInt64 &&& 63)
def lUshr (x : Int64) (y : Int32) : Int64 := (x.toUInt64 >>> (y.toInt64.toUInt64 &&& Int64.toUInt64 63)).toInt64
def iRem (x y : Int32) : Int32 := x - x / y * y
def lRem (x y : Int64) : Int64 := x - x / y * y
def mabsl (x : Int64) : Int64 := if 0 < x then x else -x
def mmax (x y : Int32) : Int32 := if x < y then y else x
def mmin (x y : Int32) : Int32 := if y < x then y else x
def mminl (x y : Int64) : Int64 := if y < x then y else x
theorem lc_lt {x y : Int64} : lg_cmp x y < 0 ↔ x < y := lg_cmp_lt x y
theorem lc_gt {x y : Int64} : 0 < lg_cmp x y ↔ y < x := lg_cmp_gt x y
theorem lc_ge {x y : Int64} : 0 ≤ lg_cmp x y ↔ y ≤ x := by
  rw [← Int32.not_lt, lc_lt, Int64.not_lt]
theorem lc_le {x y : Int64} : lg_cmp x y ≤ 0 ↔ x ≤ y := by
  rw [← Int32.not_lt, lc_gt, Int64.not_lt]
theorem lc_eq {x y : Int64} : lg_cmp x y = 0 ↔ x = y := by
  constructor
  · intro h
    have h1 : ¬ x < y := fun q => by have := lc_lt.mpr q; rw [h] at this; exact absurd this (by decide)
    have h2 : ¬ y < x := fun q => by have := lc_gt.mpr q; rw [h] at this; exact absurd this (by decide)
    exact Int64.le_antisymm (Int64.not_lt.mp h2) (Int64.not_lt.mp h1)
  · intro h
    have h1 : ¬ lg_cmp x y < 0 := fun q => Int64.lt_irrefl (by rw [h] at q; exact lc_lt.mp q : y < y)
    have h2 : ¬ 0 < lg_cmp x y := fun q => Int64.lt_irrefl (by rw [h] at q; exact lc_gt.mp q : y < y)
    exact Int32.le_antisymm (Int32.not_lt.mp h2) (Int32.not_lt.mp h1)
theorem lc_ne {x y : Int64} : ¬ lg_cmp x y = 0 ↔ ¬ x = y := not_congr lc_eq
theorem lc_nen {x y : Int64} (h : ¬ ¬ lg_cmp x y = 0) : x = y := lc_eq.mp (Classical.not_not.mp h)
theorem sw7 (x : Int32) : x = 0 ∨ x = 1 ∨ x = 2 ∨ x = 3 ∨ x = 4 ∨ x = 5 ∨ x = 6 ∨ x = 7 ∨ (x.toInt < 0 ∨ 7 < x.toInt) := by
  by_cases h : x.toInt < 0 ∨ 7 < x.toInt
  · simp [h]
  · have h1 : 0 ≤ x.toInt ∧ x.toInt ≤ 7 := by omega
    rcases (show x.toInt = 0 ∨ x.toInt = 1 ∨ x.toInt = 2 ∨ x.toInt = 3 ∨ x.toInt = 4 ∨ x.toInt = 5 ∨ x.toInt = 6 ∨ x.toInt = 7 by omega) with e | e | e | e | e | e | e | e
    · exact Or.inl (Int32.toInt.inj e)
    · exact Or.inr (Or.inl (Int32.toInt.inj e))
    · exact Or.inr (Or.inr (Or.inl (Int32.toInt.inj e)))
    · exact Or.inr (Or.inr (Or.inr (Or.inl (Int32.toInt.inj e))))
    · exact Or.inr (Or.inr (Or.inr (Or.inr (Or.inl (Int32.toInt.inj e)))))
    · exact Or.inr (Or.inr (Or.inr (Or.inr (Or.inr (Or.inl (Int32.toInt.inj e))))))
    · exact Or.inr (Or.inr (Or.inr (Or.inr (Or.inr (Or.inr (Or.inl (Int32.toInt.inj e)))))))
    · exact Or.inr (Or.inr (Or.inr (Or.inr (Or.inr (Or.inr (Or.inr (Or.inl (Int32.toInt.inj e))))))))
/-! rows, with what is known put in -/
section KR
variable {p : Program} {l : Launch} {e : Env} {R : Room} {s : State} {m : MethodId} {args : Array Value} {below : List Frame} {meth : Method} {c : Code} {H : Heap} {locs : List Loc} {cells slots : Nat} {Q : State → Prop}
variable {cc : ByteArray} {pc : Nat} {ls : Array Slot} {rest : List Value} {D : va_G} {cA : Nat → ClassId} {A : Nat → Prop} {a : Nat} {ws : va_W}
theorem k_iadd (hx : p.tables.exec = Jvm.exec) (hb : c.code = cc) {x y v : Int32} (d : decode cc pc = .ok (.iadd, 1)) (hv : x + y = v) (k : W p l e R s m args below meth c H locs cells slots Q (F0 m (pc + 1) ls (.int v :: rest))) : W p l e R s m args below meth c H locs cells slots Q (F0 m pc ls (.int y :: .int x :: rest)) := lv_iadd hx hb d (by rw [hv]; exact k)
theorem k_isub (hx : p.tables.exec = Jvm.exec) (hb : c.code = cc) {x y v : Int32} (d : decode cc pc = .ok (.isub, 1)) (hv : x - y = v) (k : W p l e R s m args below meth c H locs cells slots Q (F0 m (pc + 1) ls (.int v :: rest))) : W p l e R s m args below meth c H locs cells slots Q (F0 m pc ls (.int y :: .int x :: rest)) := lv_isub hx hb d (by rw [hv]; exact k)
theorem k_imul (hx : p.tables.exec = Jvm.exec) (hb : c.code = cc) {x y v : Int32} (d : decode cc pc = .ok (.imul, 1)) (hv : x * y = v) (k : W p l e R s m args below meth c H locs cells slots Q (F0 m (pc + 1) ls (.int v :: rest))) : W p l e R s m args below meth c H locs cells slots Q (F0 m pc ls (.int y :: .int x :: rest)) := lv_imul hx hb d (by rw [hv]; exact k)
theorem k_iand (hx : p.tables.exec = Jvm.exec) (hb : c.code = cc) {x y v : Int32} (d : decode cc pc = .ok (.iand, 1)) (hv : x &&& y = v) (k : W p l e R s m args below meth c H locs cells slots Q (F0 m (pc + 1) ls (.int v :: rest))) : W p l e R s m args below meth c H locs cells slots Q (F0 m pc ls (.int y :: .int x :: rest)) := lv_iand hx hb d (by rw [hv]; exact k)
theorem k_ior (hx : p.tables.exec = Jvm.exec) (hb : c.code = cc) {x y v : Int32} (d : decode cc pc = .ok (.ior, 1)) (hv : x ||| y = v) (k : W p l e R s m args below meth c H locs cells slots Q (F0 m (pc + 1) ls (.int v :: rest))) : W p l e R s m args below meth c H locs cells slots Q (F0 m pc ls (.int y :: .int x :: rest)) := lv_ior hx hb d (by rw [hv]; exact k)
theorem k_ixor (hx : p.tables.exec = Jvm.exec) (hb : c.code = cc) {x y v : Int32} (d : decode cc pc = .ok (.ixor, 1)) (hv : x ^^^ y = v) (k : W p l e R s m args below meth c H locs cells slots Q (F0 m (pc + 1) ls (.int v :: rest))) : W p l e R s m args below meth c H locs cells slots Q (F0 m pc ls (.int y :: .int x :: rest)) := lv_ixor hx hb d (by rw [hv]; exact k)
theorem k_ishl (hx : p.tables.exec = Jvm.exec) (hb : c.code = cc) {x y v : Int32} (d : decode cc pc = .ok (.ishl, 1)) (hv : x <<< (y &&& 31) = v) (k : W p l e R s m args below meth c H locs cells slots Q (F0 m (pc + 1) ls (.int v :: rest))) : W p l e R s m args below meth c H locs cells slots Q (F0 m pc ls (.int y :: .int x :: rest)) := lv_ishl hx hb d (by rw [hv]; exact k)
theorem k_ishr (hx : p.tables.exec = Jvm.exec) (hb : c.code = cc) {x y v : Int32} (d : decode cc pc = .ok (.ishr, 1)) (hv : x >>> (y &&& 31) = v) (k : W p l e R s m args below meth c H locs cells slots Q (F0 m (pc + 1) ls (.int v :: rest))) : W p l e R s m args below meth c H locs cells slots Q (F0 m pc ls (.int y :: .int x :: rest)) := lv_ishr hx hb d (by rw [hv]; exact k)
theorem k_ladd (hx : p.tables.exec = Jvm.exec) (hb : c.code = cc) {x y v : Int64} (d : decode cc pc = .ok (.ladd, 1)) (hv : x + y = v) (k : W p l e R s m args below meth c H locs cells slots Q (F0 m (pc + 1) ls (.long v :: rest))) : W p l e R s m args below meth c H locs cells slots Q (F0 m pc ls (.long y :: .long x :: rest)) := lv_ladd hx hb d (by rw [hv]; exact k)
theorem k_lsub (hx : p.tables.exec = Jvm.exec) (hb : c.code = cc) {x y v : Int64} (d : decode cc pc = .ok (.lsub, 1)) (hv : x - y = v) (k : W p l e R s m args below meth c H locs cells slots Q (F0 m (pc + 1) ls (.long v :: rest))) : W p l e R s m args below meth c H locs cells slots Q (F0 m pc ls (.long y :: .long x :: rest)) := lv_lsub hx hb d (by rw [hv]; exact k)
theorem k_lmul (hx : p.tables.exec = Jvm.exec) (hb : c.code = cc) {x y v : Int64} (d : decode cc pc = .ok (.lmul, 1)) (hv : x * y = v) (k : W p l e R s m args below meth c H locs cells slots Q (F0 m (pc + 1) ls (.long v :: rest))) : W p l e R s m args below meth c H locs cells slots Q (F0 m pc ls (.long y :: .long x :: rest)) := lv_lmul hx hb d (by rw [hv]; exact k)
theorem k_land (hx : p.tables.exec = Jvm.exec) (hb : c.code = cc) {x y v : Int64} (d : decode cc pc = .ok (.land, 1)) (hv : x &&& y = v) (k : W p l e R s m args below meth c H locs cells slots Q (F0 m (pc + 1) ls (.long v :: rest))) : W p l e R s m args below meth c H locs cells slots Q (F0 m pc ls (.long y :: .long x :: rest)) := lv_land hx hb d (by rw [hv]; exact k)
theorem k_idiv (hx : p.tables.exec = Jvm.exec) (hb : c.code = cc) {x y v : Int32} (d : decode cc pc = .ok (.idiv, 1)) (hne : ¬ y = 0) (hv : x / y = v) (k : W p l e R s m args below meth c H locs cells slots Q (F0 m (pc + 1) ls (.int v :: rest))) : W p l e R s m args below meth c H locs cells slots Q (F0 m pc ls (.int y :: .int x :: rest)) := lv_idiv hx hb d hne (by rw [hv]; exact k)
theorem k_irem (hx : p.tables.exec = Jvm.exec) (hb : c.code = cc) {x y v : Int32} (d : decode cc pc = .ok (.irem, 1)) (hne : ¬ y = 0) (hv : x - x / y * y = v) (k : W p l e R s m args below meth c H locs cells slots Q (F0 m (pc + 1) ls (.int v :: rest))) : W p l e R s m args below meth c H locs cells slots Q (F0 m pc ls (.int y :: .int x :: rest)) := lv_irem hx hb d hne (by rw [hv]; exact k)
theorem k_ldiv (hx : p.tables.exec = Jvm.exec) (hb : c.code = cc) {x y v : Int64} (d : decode cc pc = .ok (.ldiv, 1)) (hne : ¬ y = 0) (hv : x / y = v) (k : W p l e R s m args below meth c H locs cells slots Q (F0 m (pc + 1) ls (.long v :: rest))) : W p l e R s m args below meth c H locs cells slots Q (F0 m pc ls (.long y :: .long x :: rest)) := lv_ldiv hx hb d hne (by rw [hv]; exact k)
theorem k_lrem (hx : p.tables.exec = Jvm.exec) (hb : c.code = cc) {x y v : Int64} (d : decode cc pc = .ok (.lrem, 1)) (hne : ¬ y = 0) (hv : x - x / y * y = v) (k : W p l e R s m args below meth c H locs cells slots Q (F0 m (pc + 1) ls (.long v :: rest))) : W p l e R s m args below meth c H locs cells slots Q (F0 m pc ls (.long y :: .long x :: rest)) := lv_lrem hx hb d hne (by rw [hv]; exact k)
theorem k_lcmp (hx : p.tables.exec = Jvm.exec) (hb : c.code = cc) {x y : Int64} {v : Int32} (d : decode cc pc = .ok (.lcmp, 1)) (hv : lg_cmp x y = v) (k : W p l e R s m args below meth c H locs cells slots Q (F0 m (pc + 1) ls (.int v :: rest))) : W p l e R s m args below meth c H locs cells slots Q (F0 m pc ls (.long y :: .long x :: rest)) := W.lcmp hx hb d (by rw [hv]; exact k)
theorem k_if_eq_t (hx : p.tables.exec = Jvm.exec) (hb : c.code = cc) {x : Int32} {off : Int} {tgt : Nat} (d : decode cc pc = .ok (.ifCond .eq off, 3)) (h : x = 0) (ht : (pc : Int) + off = (tgt : Int)) (k : W p l e R s m args below meth c H locs cells slots Q (F0 m tgt ls rest)) : W p l e R s m args below meth c H locs cells slots Q (F0 m pc ls (.int x :: rest)) := lv_if_eq hx hb d ht (fun _ => k) (fun q => absurd h q)
theorem k_if_eq_f (hx : p.tables.exec = Jvm.exec) (hb : c.code = cc) {x : Int32} {off : Int} {tgt : Nat} (d : decode cc pc = .ok (.ifCond .eq off, 3)) (h : ¬ x = 0) (ht : (pc : Int) + off = (tgt : Int)) (k : W p l e R s m args below meth c H locs cells slots Q (F0 m (pc + 3) ls rest)) : W p l e R s m args below meth c H locs cells slots Q (F0 m pc ls (.int x :: rest)) := lv_if_eq hx hb d ht (fun q => absurd q h) (fun _ => k)
theorem k_icmp_eq_t (hx : p.tables.exec = Jvm.exec) (hb : c.code = cc) {x y : Int32} {off : Int} {tgt : Nat} (d : decode cc pc = .ok (.if_icmp .eq off, 3)) (h : x = y) (ht : (pc : Int) + off = (tgt : Int)) (k : W p l e R s m args below meth c H locs cells slots Q (F0 m tgt ls rest)) : W p l e R s m args below meth c H locs cells slots Q (F0 m pc ls (.int y :: .int x :: rest)) := lv_icmp_eq hx hb d ht (fun _ => k) (fun q => absurd h q)
theorem k_icmp_eq_f (hx : p.tables.exec = Jvm.exec) (hb : c.code = cc) {x y : Int32} {off : Int} {tgt : Nat} (d : decode cc pc = .ok (.if_icmp .eq off, 3)) (h : ¬ x = y) (ht : (pc : Int) + off = (tgt : Int)) (k : W p l e R s m args below meth c H locs cells slots Q (F0 m (pc + 3) ls rest)) : W p l e R s m args below meth c H locs cells slots Q (F0 m pc ls (.int y :: .int x :: rest)) := lv_icmp_eq hx hb d ht (fun q => absurd q h) (fun _ => k)
theorem k_if_ne_t (hx : p.tables.exec = Jvm.exec) (hb : c.code = cc) {x : Int32} {off : Int} {tgt : Nat} (d : decode cc pc = .ok (.ifCond .ne off, 3)) (h : ¬ x = 0) (ht : (pc : Int) + off = (tgt : Int)) (k : W p l e R s m args below meth c H locs cells slots Q (F0 m tgt ls rest)) : W p l e R s m args below meth c H locs cells slots Q (F0 m pc ls (.int x :: rest)) := lv_if_ne hx hb d ht (fun _ => k) (fun q => absurd q h)
theorem k_if_ne_f (hx : p.tables.exec = Jvm.exec) (hb : c.code = cc) {x : Int32} {off : Int} {tgt : Nat} (d : decode cc pc = .ok (.ifCond .ne off, 3)) (h : x = 0) (ht : (pc : Int) + off = (tgt : Int)) (k : W p l e R s m args below meth c H locs cells slots Q (F0 m (pc + 3) ls rest)) : W p l e R s m args below meth c H locs cells slots Q (F0 m pc ls (.int x :: rest)) := lv_if_ne hx hb d ht (fun q => absurd h q) (fun _ => k)
theorem k_icmp_ne_t (hx : p.tables.exec = Jvm.exec) (hb : c.code = cc) {x y : Int32} {off : Int} {tgt : Nat} (d : decode cc pc = .ok (.if_icmp .ne off, 3)) (h : ¬ x = y) (ht : (pc : Int) + off = (tgt : Int)) (k : W p l e R s m args below meth c H locs cells slots Q (F0 m tgt ls rest)) : W p l e R s m args below meth c H locs cells slots Q (F0 m pc ls (.int y :: .int x :: rest)) := lv_icmp_ne hx hb d ht (fun _ => k) (fun q => absurd q h)
theorem k_icmp_ne_f (hx : p.tables.exec = Jvm.exec) (hb : c.code = cc) {x y : Int32} {off : Int} {tgt : Nat} (d : decode cc pc = .ok (.if_icmp .ne off, 3)) (h : x = y) (ht : (pc : Int) + off = (tgt : Int)) (k : W p l e R s m args below meth c H locs cells slots Q (F0 m (pc + 3) ls rest)) : W p l e R s m args below meth c H locs cells slots Q (F0 m pc ls (.int y :: .int x :: rest)) := lv_icmp_ne hx hb d ht (fun q => absurd h q) (fun _ => k)
theorem k_if_lt_t (hx : p.tables.exec = Jvm.exec) (hb : c.code = cc) {x : Int32} {off : Int} {tgt : Nat} (d : decode cc pc = .ok (.ifCond .lt off, 3)) (h : x < 0) (ht : (pc : Int) + off = (tgt : Int)) (k : W p l e R s m args below meth c H locs cells slots Q (F0 m tgt ls rest)) : W p l e R s m args below meth c H locs cells slots Q (F0 m pc ls (.int x :: rest)) := lv_if_lt hx hb d ht (fun _ => k) (fun q => absurd h q)
theorem k_if_lt_f (hx : p.tables.exec = Jvm.exec) (hb : c.code = cc) {x : Int32} {off : Int} {tgt : Nat} (d : decode cc pc = .ok (.ifCond .lt off, 3)) (h : ¬ x < 0) (ht : (pc : Int) + off = (tgt : Int)) (k : W p l e R s m args below meth c H locs cells slots Q (F0 m (pc + 3) ls rest)) : W p l e R s m args below meth c H locs cells slots Q (F0 m pc ls (.int x :: rest)) := lv_if_lt hx hb d ht (fun q => absurd q h) (fun _ => k)
theorem k_icmp_lt_t (hx : p.tables.exec = Jvm.exec) (hb : c.code = cc) {x y : Int32} {off : Int} {tgt : Nat} (d : decode cc pc = .ok (.if_icmp .lt off, 3)) (h : x < y) (ht : (pc : Int) + off = (tgt : Int)) (k : W p l e R s m args below meth c H locs cells slots Q (F0 m tgt ls rest)) : W p l e R s m args below meth c H locs cells slots Q (F0 m pc ls (.int y :: .int x :: rest)) := lv_icmp_lt hx hb d ht (fun _ => k) (fun q => absurd h q)
theorem k_icmp_lt_f (hx : p.tables.exec = Jvm.exec) (hb : c.code = cc) {x y : Int32} {off : Int} {tgt : Nat} (d : decode cc pc = .ok (.if_icmp .lt off, 3)) (h : ¬ x < y) (ht : (pc : Int) + off = (tgt : Int)) (k : W p l e R s m args below meth c H locs cells slots Q (F0 m (pc + 3) ls rest)) : W p l e R s m args below meth c H locs cells slots Q (F0 m pc ls (.int y :: .int x :: rest)) := lv_icmp_lt hx hb d ht (fun q => absurd q h) (fun _ => k)
theorem k_if_ge_t (hx : p.tables.exec = Jvm.exec) (hb : c.code = cc) {x : Int32} {off : Int} {tgt : Nat} (d : decode cc pc = .ok (.ifCond .ge off, 3)) (h : 0 ≤ x) (ht : (pc : Int) + off = (tgt : Int)) (k : W p l e R s m args below meth c H locs cells slots Q (F0 m tgt ls rest)) : W p l e R s m args below meth c H locs cells slots Q (F0 m pc ls (.int x :: rest)) := lv_if_ge hx hb d ht (fun _ => k) (fun q => absurd h q)
theorem k_if_ge_f (hx : p.tables.exec = Jvm.exec) (hb : c.code = cc) {x : Int32} {off : Int} {tgt : Nat} (d : decode cc pc = .ok (.ifCond .ge off, 3)) (h : ¬ 0 ≤ x) (ht : (pc : Int) + off = (tgt : Int)) (k : W p l e R s m args below meth c H locs cells slots Q (F0 m (pc + 3) ls rest)) : W p l e R s m args below meth c H locs cells slots Q (F0 m pc ls (.int x :: rest)) := lv_if_ge hx hb d ht (fun q => absurd q h) (fun _ => k)
theorem k_icmp_ge_t (hx : p.tables.exec = Jvm.exec) (hb : c.code = cc) {x y : Int32} {off : Int} {tgt : Nat} (d : decode cc pc = .ok (.if_icmp .ge off, 3)) (h : y ≤ x) (ht : (pc : Int) + off = (tgt : Int)) (k : W p l e R s m args below meth c H locs cells slots Q (F0 m tgt ls rest)) : W p l e R s m args below meth c H locs cells slots Q (F0 m pc ls (.int y :: .int x :: rest)) := lv_icmp_ge hx hb d ht (fun _ => k) (fun q => absurd h q)
theorem k_icmp_ge_f (hx : p.tables.exec = Jvm.exec) (hb : c.code = cc) {x y : Int32} {off : Int} {tgt : Nat} (d : decode cc pc = .ok (.if_icmp .ge off, 3)) (h : ¬ y ≤ x) (ht : (pc : Int) + off = (tgt : Int)) (k : W p l e R s m args below meth c H locs cells slots Q (F0 m (pc + 3) ls rest)) : W p l e R s m args below meth c H locs cells slots Q (F0 m pc ls (.int y :: .int x :: rest)) := lv_icmp_ge hx hb d ht (fun q => absurd q h) (fun _ => k)
theorem k_if_gt_t (hx : p.tables.exec = Jvm.exec) (hb : c.code = cc) {x : Int32} {off : Int} {tgt : Nat} (d : decode cc pc = .ok (.ifCond .gt off, 3)) (h : 0 < x) (ht : (pc : Int) + off = (tgt : Int)) (k : W p l e R s m args below meth c H locs cells slots Q (F0 m tgt ls rest)) : W p l e R s m args below meth c H locs cells slots Q (F0 m pc ls (.int x :: rest)) := lv_if_gt hx hb d ht (fun _ => k) (fun q => absurd h q)
theorem k_if_gt_f (hx : p.tables.exec = Jvm.exec) (hb : c.code = cc) {x : Int32} {off : Int} {tgt : Nat} (d : decode cc pc = .ok (.ifCond .gt off, 3)) (h : ¬ 0 < x) (ht : (pc : Int) + off = (tgt : Int)) (k : W p l e R s m args below meth c H locs cells slots Q (F0 m (pc + 3) ls rest)) : W p l e R s m args below meth c H locs cells slots Q (F0 m pc ls (.int x :: rest)) := lv_if_gt hx hb d ht (fun q => absurd q h) (fun _ => k)
theorem k_icmp_gt_t (hx : p.tables.exec = Jvm.exec) (hb : c.code = cc) {x y : Int32} {off : Int} {tgt : Nat} (d : decode cc pc = .ok (.if_icmp .gt off, 3)) (h : y < x) (ht : (pc : Int) + off = (tgt : Int)) (k : W p l e R s m args below meth c H locs cells slots Q (F0 m tgt ls rest)) : W p l e R s m args below meth c H locs cells slots Q (F0 m pc ls (.int y :: .int x :: rest)) := lv_icmp_gt hx hb d ht (fun _ => k) (fun q => absurd h q)
theorem k_icmp_gt_f (hx : p.tables.exec = Jvm.exec) (hb : c.code = cc) {x y : Int32} {off : Int} {tgt : Nat} (d : decode cc pc = .ok (.if_icmp .gt off, 3)) (h : ¬ y < x) (ht : (pc : Int) + off = (tgt : Int)) (k : W p l e R s m args below meth c H locs cells slots Q (F0 m (pc + 3) ls rest)) : W p l e R s m args below meth c H locs cells slots Q (F0 m pc ls (.int y :: .int x :: rest)) := lv_icmp_gt hx hb d ht (fun q => absurd q h) (fun _ => k)
theorem k_if_le_t (hx : p.tables.exec = Jvm.exec) (hb : c.code = cc) {x : Int32} {off : Int} {tgt : Nat} (d : decode cc pc = .ok (.ifCond .le off, 3)) (h : x ≤ 0) (ht : (pc : Int) + off = (tgt : Int)) (k : W p l e R s m args below meth c H locs cells slots Q (F0 m tgt ls rest)) : W p l e R s m args below meth c H locs cells slots Q (F0 m pc ls (.int x :: rest)) := lv_if_le hx hb d ht (fun _ => k) (fun q => absurd h q)
theorem k_if_le_f (hx : p.tables.exec = Jvm.exec) (hb : c.code = cc) {x : Int32} {off : Int} {tgt : Nat} (d : decode cc pc = .ok (.ifCond .le off, 3)) (h : ¬ x ≤ 0) (ht : (pc : Int) + off = (tgt : Int)) (k : W p l e R s m args below meth c H locs cells slots Q (F0 m (pc + 3) ls rest)) : W p l e R s m args below meth c H locs cells slots Q (F0 m pc ls (.int x :: rest)) := lv_if_le hx hb d ht (fun q => absurd q h) (fun _ => k)
theorem k_icmp_le_t (hx : p.tables.exec = Jvm.exec) (hb : c.code = cc) {x y : Int32} {off : Int} {tgt : Nat} (d : decode cc pc = .ok (.if_icmp .le off, 3)) (h : x ≤ y) (ht : (pc : Int) + off = (tgt : Int)) (k : W p l e R s m args below meth c H locs cells slots Q (F0 m tgt ls rest)) : W p l e R s m args below meth c H locs cells slots Q (F0 m pc ls (.int y :: .int x :: rest)) := lv_icmp_le hx hb d ht (fun _ => k) (fun q => absurd h q)
theorem k_icmp_le_f (hx : p.tables.exec = Jvm.exec) (hb : c.code = cc) {x y : Int32} {off : Int} {tgt : Nat} (d : decode cc pc = .ok (.if_icmp .le off, 3)) (h : ¬ x ≤ y) (ht : (pc : Int) + off = (tgt : Int)) (k : W p l e R s m args below meth c H locs cells slots Q (F0 m (pc + 3) ls rest)) : W p l e R s m args below meth c H locs cells slots Q (F0 m pc ls (.int y :: .int x :: rest)) := lv_icmp_le hx hb d ht (fun q => absurd q h) (fun _ => k)
theorem k_acmp_eq_t (hx : p.tables.exec = Jvm.exec) (hb : c.code = cc) {x y : Nat} {off : Int} {tgt : Nat} (d : decode cc pc = .ok (.if_acmp .eq off, 3)) (h : x = y) (ht : (pc : Int) + off = (tgt : Int)) (k : W p l e R s m args below meth c H locs cells slots Q (F0 m tgt ls rest)) : W p l e R s m args below meth c H locs cells slots Q (F0 m pc ls (.ref y :: .ref x :: rest)) := lv_acmp_eq (rx := some x) (ry := some y) hx hb d ht (fun _ => k) (fun q => absurd (by rw [h]) q)
theorem k_get (hx : p.tables.exec = Jvm.exec) (hb : c.code = cc) {own C : String} {T : u_T} {N ci index : Nat} (hG : ∀ w ∈ GW, w.before args s = true) (hin : ∀ w ∈ u_ws C T N, w ∈ GW) (hown : s.vm.findClass own = some m.cls) (hK : va_K D vwCl (TYS cA) s) (hP : va_P D vwCl ws H) (q0 : Nat) {fs : List Value} (he : ws[q0]? = some (a, .inr (ci, fs))) (hc : vwCl[ci]? = some (C, T, N)) (k : Nat) (hk : k < N) (hlink : Cond.fieldLink own index (T k).1 (T k).2.1 (T k).2.2.1 ∈ GW) {v : Value} (hv : fs[k]? = some v) (d : decode cc pc = .ok (.getfield index, 3))
    (kk : W p l e R s m args below meth c H locs cells slots Q (F0 m (pc + 3) ls (v :: rest))) : W p l e R s m args below meth c H locs cells slots Q (F0 m pc ls (.ref a :: rest)) := va_get hx hb hG hin hown hK hP q0 he hc k hk (hG _ hlink) (fun _ h => h) hv d kk
theorem k_getR (hx : p.tables.exec = Jvm.exec) (hb : c.code = cc) {own ref C : String} {T : u_T} {N ci index : Nat} (hG : ∀ w ∈ GW, w.before args s = true) (hin : ∀ w ∈ u_ws C T N, w ∈ GW) (hown : s.vm.findClass own = some m.cls) (hK : va_K D vwCl (TYS cA) s) (hP : va_P D vwCl ws H) (q0 : Nat) {fs : List Value} (he : ws[q0]? = some (a, .inr (ci, fs))) (hc : vwCl[ci]? = some (C, T, N)) (k : Nat) (hk : k < N) (hlink : Cond.fieldLink own index ref (T k).2.1 (T k).2.2.1 ∈ GW) (hsame : Cond.sameField ref (T k).1 (T k).2.1 (T k).2.2.1 ∈ GW) {v : Value} (hv : fs[k]? = some v) (d : decode cc pc = .ok (.getfield index, 3))
    (kk : W p l e R s m args below meth c H locs cells slots Q (F0 m (pc + 3) ls (v :: rest))) : W p l e R s m args below meth c H locs cells slots Q (F0 m pc ls (.ref a :: rest)) := va_get hx hb hG hin hown hK hP q0 he hc k hk (hG _ hlink) (u_same (hG _ hsame)) hv d kk
theorem k_getN (hx : p.tables.exec = Jvm.exec) (hb : c.code = cc) {own C host : String} {T : u_T} {N ci index : Nat} (hG : ∀ w ∈ GW, w.before args s = true) (hin : ∀ w ∈ u_ws C T N, w ∈ GW) (hown : s.vm.findClass own = some m.cls) (hK : va_K D vwCl (TYS cA) s) (hP : va_P D vwCl ws H) (hN : ∀ w ∈ NW, va_Nw w s) (q0 : Nat) {fs : List Value} (he : ws[q0]? = some (a, .inr (ci, fs))) (hc : vwCl[ci]? = some (C, T, N)) (k : Nat) (hk : k < N) (hlink : Cond.fieldLinkNest own index (T k).1 (T k).2.1 (T k).2.2.1 host ∈ NW) {v : Value} (hv : fs[k]? = some v) (d : decode cc pc = .ok (.getfield index, 3))
    (kk : W p l e R s m args below meth c H locs cells slots Q (F0 m (pc + 3) ls (v :: rest))) : W p l e R s m args below meth c H locs cells slots Q (F0 m pc ls (.ref a :: rest)) := va_getN hx hb hG hin hown hK hP q0 he hc k hk (va_Nw.use rfl (hN _ hlink)) (fun _ h => h) hv d kk
theorem k_put (hx : p.tables.exec = Jvm.exec) (hb : c.code = cc) {own C : String} {T : u_T} {N ci index : Nat} (hG : ∀ w ∈ GW, w.before args s = true) (hin : ∀ w ∈ u_ws C T N, w ∈ GW) (ty0 : Nat → FieldType) (hty : ∀ k, k < N → parseFieldDescriptor (T k).2.2.1 = some (ty0 k)) (hnm : ∀ a, a < N → ∀ b, b < N → a ≠ b → (T a).2.1 ≠ (T b).2.1) (hown : s.vm.findClass own = some m.cls) (hK : va_K D vwCl (TYS cA) s) (hP : va_P D vwCl ws H) (hD : va_D A ws) (hS : va_S A s.heap H locs) (q0 : Nat) {fs : List Value} (he : ws[q0]? = some (a, .inr (ci, fs))) (hc : vwCl[ci]? = some (C, T, N)) (k : Nat) (hk : k < N) (hlink : Cond.fieldLink own index (T k).1 (T k).2.1 (T k).2.2.1 ∈ GW) (hfin : (T k).2.2.2 = false) {v : Value} (hfit : narrow (ty0 k) v = v ∧ fits (ty0 k) v = true) {ws1 : va_W} (hw : ws.set q0 (a, .inr (ci, fs.set k v)) = ws1) (hl : k < fs.length) (d : decode cc pc = .ok (.putfield index, 3))
    (kk : ∀ (H1 : Heap) (locs1 : List Loc), va_P D vwCl ws1 H1 → va_D A ws1 → va_S A s.heap H1 locs1 → W p l e R s m args below meth c H1 locs1 cells slots Q (F0 m (pc + 3) ls rest)) : W p l e R s m args below meth c H locs cells slots Q (F0 m pc ls (v :: .ref a :: rest)) := by
  subst hw
  exact va_put hx hb hG hin ty0 hty hnm hown hK hP hD hS q0 he hc k hk (hG _ hlink) (fun _ h => h) hfin (hty k hk) hfit.1 hfit.2 hl d kk
theorem k_putF (hx : p.tables.exec = Jvm.exec) (hb : c.code = cc) {own C : String} {T : u_T} {N ci index : Nat} (hG : ∀ w ∈ GW, w.before args s = true) (hin : ∀ w ∈ u_ws C T N, w ∈ GW) (ty0 : Nat → FieldType) (hty : ∀ k, k < N → parseFieldDescriptor (T k).2.2.1 = some (ty0 k)) (hnm : ∀ a, a < N → ∀ b, b < N → a ≠ b → (T a).2.1 ≠ (T b).2.1) (hown : s.vm.findClass own = some m.cls) (hK : va_K D vwCl (TYS cA) s) (hP : va_P D vwCl ws H) (hD : va_D A ws) (hS : va_S A s.heap H locs) (q0 : Nat) {fs : List Value} (he : ws[q0]? = some (a, .inr (ci, fs))) (hc : vwCl[ci]? = some (C, T, N)) (k : Nat) (hk : k < N) (hlink : Cond.fieldLink own index (T k).1 (T k).2.1 (T k).2.2.1 ∈ GW) (hfin : (T k).2.2.2 = true) (hin2 : meth.name = "<init>") (hdecl : (T k).1 = own) {v : Value} (hfit : narrow (ty0 k) v = v ∧ fits (ty0 k) v = true) {ws1 : va_W} (hw : ws.set q0 (a, .inr (ci, fs.set k v)) = ws1) (hl : k < fs.length) (d : decode cc pc = .ok (.putfield index, 3))
    (kk : ∀ (H1 : Heap) (locs1 : List Loc), va_P D vwCl ws1 H1 → va_D A ws1 → va_S A s.heap H1 locs1 → W p l e R s m args below meth c H1 locs1 cells slots Q (F0 m (pc + 3) ls rest)) : W p l e R s m args below meth c H locs cells slots Q (F0 m pc ls (v :: .ref a :: rest)) := by
  subst hw
  exact va_putF hx hb hG hin ty0 hty hnm hown hK hP hD hS q0 he hc k hk (hG _ hlink) (fun _ h => h) hfin hin2 hdecl (hty k hk) hfit.1 hfit.2 hl d kk
theorem k_putN (hx : p.tables.exec = Jvm.exec) (hb : c.code = cc) {own C host : String} {T : u_T} {N ci index : Nat} (hG : ∀ w ∈ GW, w.before args s = true) (hin : ∀ w ∈ u_ws C T N, w ∈ GW) (ty0 : Nat → FieldType) (hty : ∀ k, k < N → parseFieldDescriptor (T k).2.2.1 = some (ty0 k)) (hnm : ∀ a, a < N → ∀ b, b < N → a ≠ b → (T a).2.1 ≠ (T b).2.1) (hown : s.vm.findClass own = some m.cls) (hK : va_K D vwCl (TYS cA) s) (hP : va_P D vwCl ws H) (hD : va_D A ws) (hS : va_S A s.heap H locs) (q0 : Nat) {fs : List Value} (he : ws[q0]? = some (a, .inr (ci, fs))) (hc : vwCl[ci]? = some (C, T, N)) (k : Nat) (hk : k < N) (hN : ∀ w ∈ NW, va_Nw w s) (hlink : Cond.fieldLinkNest own index (T k).1 (T k).2.1 (T k).2.2.1 host ∈ NW) (hfin : (T k).2.2.2 = false) {v : Value} (hfit : narrow (ty0 k) v = v ∧ fits (ty0 k) v = true) {ws1 : va_W} (hw : ws.set q0 (a, .inr (ci, fs.set k v)) = ws1) (hl : k < fs.length) (d : decode cc pc = .ok (.putfield index, 3))
    (kk : ∀ (H1 : Heap) (locs1 : List Loc), va_P D vwCl ws1 H1 → va_D A ws1 → va_S A s.heap H1 locs1 → W p l e R s m args below meth c H1 locs1 cells slots Q (F0 m (pc + 3) ls rest)) : W p l e R s m args below meth c H locs cells slots Q (F0 m pc ls (v :: .ref a :: rest)) := by
  subst hw
  exact va_putN hx hb hG hin ty0 hty hnm hown hK hP hD hS q0 he hc k hk (va_Nw.use rfl (hN _ hlink)) (fun _ h => h) hfin (hty k hk) hfit.1 hfit.2 hl d kk
theorem k_putR (hx : p.tables.exec = Jvm.exec) (hb : c.code = cc) {own ref C : String} {T : u_T} {N ci index : Nat} (hG : ∀ w ∈ GW, w.before args s = true) (hin : ∀ w ∈ u_ws C T N, w ∈ GW) (ty0 : Nat → FieldType) (hty : ∀ k, k < N → parseFieldDescriptor (T k).2.2.1 = some (ty0 k)) (hnm : ∀ a, a < N → ∀ b, b < N → a ≠ b → (T a).2.1 ≠ (T b).2.1) (hown : s.vm.findClass own = some m.cls) (hK : va_K D vwCl (TYS cA) s) (hP : va_P D vwCl ws H) (hD : va_D A ws) (hS : va_S A s.heap H locs) (q0 : Nat) {fs : List Value} (he : ws[q0]? = some (a, .inr (ci, fs))) (hc : vwCl[ci]? = some (C, T, N)) (k : Nat) (hk : k < N) (hlink : Cond.fieldLink own index ref (T k).2.1 (T k).2.2.1 ∈ GW) (hsame : Cond.sameField ref (T k).1 (T k).2.1 (T k).2.2.1 ∈ GW) (hfin : (T k).2.2.2 = false) {v : Value} (hfit : narrow (ty0 k) v = v ∧ fits (ty0 k) v = true) {ws1 : va_W} (hw : ws.set q0 (a, .inr (ci, fs.set k v)) = ws1) (hl : k < fs.length) (d : decode cc pc = .ok (.putfield index, 3))
    (kk : ∀ (H1 : Heap) (locs1 : List Loc), va_P D vwCl ws1 H1 → va_D A ws1 → va_S A s.heap H1 locs1 → W p l e R s m args below meth c H1 locs1 cells slots Q (F0 m (pc + 3) ls rest)) : W p l e R s m args below meth c H locs cells slots Q (F0 m pc ls (v :: .ref a :: rest)) := by
  subst hw
  exact va_put hx hb hG hin ty0 hty hnm hown hK hP hD hS q0 he hc k hk (hG _ hlink) (u_same (hG _ hsame)) hfin (hty k hk) hfit.1 hfit.2 hl d kk
theorem k_new (hx : p.tables.exec = Jvm.exec) (hb : c.code = cc) {own C : String} {T : u_T} {N ci index : Nat} (hG : ∀ w ∈ GW, w.before args s = true) (hin : ∀ w ∈ u_ws C T N, w ∈ GW) (ty : Nat → FieldType) (hty : ∀ k, k < N → parseFieldDescriptor (T k).2.2.1 = some (ty k)) (hown : s.vm.findClass own = some m.cls) (hcl : Cond.classLink own index C ∈ GW) (hinst : Cond.instantiable C N ∈ GW) (hini : Cond.initialized C ∈ GW) (hK : va_K D vwCl (TYS cA) s) (hP : va_P D vwCl ws H) (hD : va_D A ws) (hS : va_S A s.heap H locs) (hA : ∀ q, s.heap.size ≤ q → A q) (hc : vwCl[ci]? = some (C, T, N)) (fs : List Value) (hfs : (List.range N).map (fun j => defaultValue (ty j)) = fs) (hcells : cells + 1 ≤ R.cells) (hslots : slots + N ≤ R.slots) (d : decode cc pc = .ok (.new index, 3))
    (kk : ∀ (q : Nat) (H1 : Heap), va_P D vwCl (ws ++ [(q, .inr (ci, fs))]) H1 → va_D A (ws ++ [(q, .inr (ci, fs))]) → va_S A s.heap H1 locs → W p l e R s m args below meth c H1 locs (cells + 1) (slots + N) Q (F0 m (pc + 3) ls (.ref q :: rest))) : W p l e R s m args below meth c H locs cells slots Q (F0 m pc ls rest) := by
  refine va_new hx hb hG hin ty hty hown (hG _ hcl) (hG _ hinst) (hG _ hini) hK hP hD hS hA hc (fun j hj => ?_) hcells hslots d kk
  subst hfs
  simp [vp_V, hj]
theorem k_newa_int (hx : p.tables.exec = Jvm.exec) (hb : c.code = cc) (hG : ∀ w ∈ GW, w.before args s = true) (harr : Cond.arrayClass .int ∈ GW) (hK : va_K D vwCl (TYS cA) s) (hP : va_P D vwCl ws H) (hD : va_D A ws) (hS : va_S A s.heap H locs) (hA : ∀ q, s.heap.size ≤ q → A q) {n : Int32} (N' : Nat) (hn : ¬ n < 0) (hN : n.toNatClampNeg = N') (hbytes : N' * componentBytes .int ≤ 536870912) (hcells : cells + 1 ≤ R.cells) (hslots : slots + N' ≤ R.slots) (d : decode cc pc = .ok (.newarray .int, 2))
    (kk : ∀ (q : Nat) (H1 : Heap), va_P D vwCl (ws ++ [(q, .inl (cA 0, N', .inl (fun _ => 0)))]) H1 → va_D A (ws ++ [(q, .inl (cA 0, N', .inl (fun _ => 0)))]) → va_S A s.heap H1 locs → W p l e R s m args below meth c H1 locs (cells + 1) (slots + N') Q (F0 m (pc + 2) ls (.ref q :: rest))) : W p l e R s m args below meth c H locs cells slots Q (F0 m pc ls (.int n :: rest)) := by
  refine va_newa (atype := .int) (ty := .int) (a0 := (N', .inl (fun _ => 0))) hx hb (hG _ harr) rfl hK hP hD hS hA (fun _ => rfl) hn hN hbytes hcells hslots d (fun q c1 H1 hK1 hP1 hD1 hS1 => ?_)
  have e1 : s.vm.findClass _ = some c1 := (hK1.2 4 (c1, .int) rfl).2
  have e2 : s.vm.findClass _ = some (cA 0) := (hK.2 0 (cA 0, .int) rfl).2
  cases Option.some.inj (e1.symm.trans e2)
  exact kk q H1 hP1 hD1 hS1
theorem k_newa_long (hx : p.tables.exec = Jvm.exec) (hb : c.code = cc) (hG : ∀ w ∈ GW, w.before args s = true) (harr : Cond.arrayClass .long ∈ GW) (hK : va_K D vwCl (TYS cA) s) (hP : va_P D vwCl ws H) (hD : va_D A ws) (hS : va_S A s.heap H locs) (hA : ∀ q, s.heap.size ≤ q → A q) {n : Int32} (N' : Nat) (hn : ¬ n < 0) (hN : n.toNatClampNeg = N') (hbytes : N' * componentBytes .long ≤ 536870912) (hcells : cells + 1 ≤ R.cells) (hslots : slots + N' ≤ R.slots) (d : decode cc pc = .ok (.newarray .long, 2))
    (kk : ∀ (q : Nat) (H1 : Heap), va_P D vwCl (ws ++ [(q, .inl (cA 1, N', .inr (.inl (fun _ => 0))))]) H1 → va_D A (ws ++ [(q, .inl (cA 1, N', .inr (.inl (fun _ => 0))))]) → va_S A s.heap H1 locs → W p l e R s m args below meth c H1 locs (cells + 1) (slots + N') Q (F0 m (pc + 2) ls (.ref q :: rest))) : W p l e R s m args below meth c H locs cells slots Q (F0 m pc ls (.int n :: rest)) := by
  refine va_newa (atype := .long) (ty := .long) (a0 := (N', .inr (.inl (fun _ => 0)))) hx hb (hG _ harr) rfl hK hP hD hS hA (fun _ => rfl) hn hN hbytes hcells hslots d (fun q c1 H1 hK1 hP1 hD1 hS1 => ?_)
  have e1 : s.vm.findClass _ = some c1 := (hK1.2 4 (c1, .long) rfl).2
  have e2 : s.vm.findClass _ = some (cA 1) := (hK.2 1 (cA 1, .long) rfl).2
  cases Option.some.inj (e1.symm.trans e2)
  exact kk q H1 hP1 hD1 hS1
theorem k_newa_char (hx : p.tables.exec = Jvm.exec) (hb : c.code = cc) (hG : ∀ w ∈ GW, w.before args s = true) (harr : Cond.arrayClass .char ∈ GW) (hK : va_K D vwCl (TYS cA) s) (hP : va_P D vwCl ws H) (hD : va_D A ws) (hS : va_S A s.heap H locs) (hA : ∀ q, s.heap.size ≤ q → A q) {n : Int32} (N' : Nat) (hn : ¬ n < 0) (hN : n.toNatClampNeg = N') (hbytes : N' * componentBytes .char ≤ 536870912) (hcells : cells + 1 ≤ R.cells) (hslots : slots + N' ≤ R.slots) (d : decode cc pc = .ok (.newarray .char, 2))
    (kk : ∀ (q : Nat) (H1 : Heap), va_P D vwCl (ws ++ [(q, .inl (cA 2, N', .inl (fun _ => 0)))]) H1 → va_D A (ws ++ [(q, .inl (cA 2, N', .inl (fun _ => 0)))]) → va_S A s.heap H1 locs → W p l e R s m args below meth c H1 locs (cells + 1) (slots + N') Q (F0 m (pc + 2) ls (.ref q :: rest))) : W p l e R s m args below meth c H locs cells slots Q (F0 m pc ls (.int n :: rest)) := by
  refine va_newa (atype := .char) (ty := .char) (a0 := (N', .inl (fun _ => 0))) hx hb (hG _ harr) rfl hK hP hD hS hA (fun _ => rfl) hn hN hbytes hcells hslots d (fun q c1 H1 hK1 hP1 hD1 hS1 => ?_)
  have e1 : s.vm.findClass _ = some c1 := (hK1.2 4 (c1, .char) rfl).2
  have e2 : s.vm.findClass _ = some (cA 2) := (hK.2 2 (cA 2, .char) rfl).2
  cases Option.some.inj (e1.symm.trans e2)
  exact kk q H1 hP1 hD1 hS1
theorem k_newa_boolean (hx : p.tables.exec = Jvm.exec) (hb : c.code = cc) (hG : ∀ w ∈ GW, w.before args s = true) (harr : Cond.arrayClass .boolean ∈ GW) (hK : va_K D vwCl (TYS cA) s) (hP : va_P D vwCl ws H) (hD : va_D A ws) (hS : va_S A s.heap H locs) (hA : ∀ q, s.heap.size ≤ q → A q) {n : Int32} (N' : Nat) (hn : ¬ n < 0) (hN : n.toNatClampNeg = N') (hbytes : N' * componentBytes .boolean ≤ 536870912) (hcells : cells + 1 ≤ R.cells) (hslots : slots + N' ≤ R.slots) (d : decode cc pc = .ok (.newarray .boolean, 2))
    (kk : ∀ (q : Nat) (H1 : Heap), va_P D vwCl (ws ++ [(q, .inl (cA 3, N', .inl (fun _ => 0)))]) H1 → va_D A (ws ++ [(q, .inl (cA 3, N', .inl (fun _ => 0)))]) → va_S A s.heap H1 locs → W p l e R s m args below meth c H1 locs (cells + 1) (slots + N') Q (F0 m (pc + 2) ls (.ref q :: rest))) : W p l e R s m args below meth c H locs cells slots Q (F0 m pc ls (.int n :: rest)) := by
  refine va_newa (atype := .boolean) (ty := .boolean) (a0 := (N', .inl (fun _ => 0))) hx hb (hG _ harr) rfl hK hP hD hS hA (fun _ => rfl) hn hN hbytes hcells hslots d (fun q c1 H1 hK1 hP1 hD1 hS1 => ?_)
  have e1 : s.vm.findClass _ = some c1 := (hK1.2 4 (c1, .boolean) rfl).2
  have e2 : s.vm.findClass _ = some (cA 3) := (hK.2 3 (cA 3, .boolean) rfl).2
  cases Option.some.inj (e1.symm.trans e2)
  exact kk q H1 hP1 hD1 hS1
theorem k_iald (hx : p.tables.exec = Jvm.exec) (hb : c.code = cc) (hK : va_K D vwCl (TYS cA) s) (hP : va_P D vwCl ws H) (q0 : Nat) {n : Nat} {f : Nat → Int32} (ha : ws[q0]? = some (a, .inl (cA 0, n, .inl f))) {i : Int32} (j : Nat) {v : Int32} (hj : i.toNatClampNeg = j) (hv : f j = v) (hin : vp_in i n) (d : decode cc pc = .ok (.iaload, 1)) (kk : W p l e R s m args below meth c H locs cells slots Q (F0 m (pc + 1) ls (.int v :: rest))) : W p l e R s m args below meth c H locs cells slots Q (F0 m pc ls (.int i :: .ref a :: rest)) := va_iald hx hb hK hP q0 0 ha rfl hin d (by rw [hj, hv]; exact kk)
theorem k_lald (hx : p.tables.exec = Jvm.exec) (hb : c.code = cc) (hK : va_K D vwCl (TYS cA) s) (hP : va_P D vwCl ws H) (q0 : Nat) {n : Nat} {f : Nat → Int64} (ha : ws[q0]? = some (a, .inl (cA 1, n, .inr (.inl f)))) {i : Int32} (j : Nat) {v : Int64} (hj : i.toNatClampNeg = j) (hv : f j = v) (hin : vp_in i n) (d : decode cc pc = .ok (.laload, 1)) (kk : W p l e R s m args below meth c H locs cells slots Q (F0 m (pc + 1) ls (.long v :: rest))) : W p l e R s m args below meth c H locs cells slots Q (F0 m pc ls (.int i :: .ref a :: rest)) := va_lald hx hb hK hP q0 1 ha rfl hin d (by rw [hj, hv]; exact kk)
theorem k_cald (hx : p.tables.exec = Jvm.exec) (hb : c.code = cc) (hK : va_K D vwCl (TYS cA) s) (hP : va_P D vwCl ws H) (q0 : Nat) {n : Nat} {f : Nat → Int32} (ha : ws[q0]? = some (a, .inl (cA 2, n, .inl f))) {i : Int32} (j : Nat) {v : Int32} (hj : i.toNatClampNeg = j) (hv : f j = v) (hin : vp_in i n) (d : decode cc pc = .ok (.caload, 1)) (kk : W p l e R s m args below meth c H locs cells slots Q (F0 m (pc + 1) ls (.int v :: rest))) : W p l e R s m args below meth c H locs cells slots Q (F0 m pc ls (.int i :: .ref a :: rest)) := va_cald hx hb hK hP q0 2 ha rfl hin d (by rw [hj, hv]; exact kk)
theorem k_zald (hx : p.tables.exec = Jvm.exec) (hb : c.code = cc) (hK : va_K D vwCl (TYS cA) s) (hP : va_P D vwCl ws H) (q0 : Nat) {n : Nat} {f : Nat → Int32} (ha : ws[q0]? = some (a, .inl (cA 3, n, .inl f))) {i : Int32} (j : Nat) {v : Int32} (hj : i.toNatClampNeg = j) (hv : f j = v) (hin : vp_in i n) (d : decode cc pc = .ok (.baload, 1)) (kk : W p l e R s m args below meth c H locs cells slots Q (F0 m (pc + 1) ls (.int v :: rest))) : W p l e R s m args below meth c H locs cells slots Q (F0 m pc ls (.int i :: .ref a :: rest)) := va_zald hx hb hK hP q0 3 ha rfl hin d (by rw [hj, hv]; exact kk)
theorem k_iast (hx : p.tables.exec = Jvm.exec) (hb : c.code = cc) (hK : va_K D vwCl (TYS cA) s) (hP : va_P D vwCl ws H) (hD : va_D A ws) (hS : va_S A s.heap H locs) (q0 : Nat) {n : Nat} {f : Nat → Int32} (ha : ws[q0]? = some (a, .inl (cA 0, n, .inl f))) {i : Int32} {x : Int32} {ws1 : va_W} (hw : ws.set q0 (a, .inl (cA 0, n, .inl (upd f i.toNatClampNeg x))) = ws1) (hin : vp_in i n) (d : decode cc pc = .ok (.iastore, 1))
    (kk : ∀ (H1 : Heap) (locs1 : List Loc), va_P D vwCl ws1 H1 → va_D A ws1 → va_S A s.heap H1 locs1 → W p l e R s m args below meth c H1 locs1 cells slots Q (F0 m (pc + 1) ls rest)) : W p l e R s m args below meth c H locs cells slots Q (F0 m pc ls (.int x :: .int i :: .ref a :: rest)) := by
  subst hw
  exact va_iast hx hb hK hP hD hS q0 0 ha rfl hin d kk
theorem k_last (hx : p.tables.exec = Jvm.exec) (hb : c.code = cc) (hK : va_K D vwCl (TYS cA) s) (hP : va_P D vwCl ws H) (hD : va_D A ws) (hS : va_S A s.heap H locs) (q0 : Nat) {n : Nat} {f : Nat → Int64} (ha : ws[q0]? = some (a, .inl (cA 1, n, .inr (.inl f)))) {i : Int32} {x : Int64} {ws1 : va_W} (hw : ws.set q0 (a, .inl (cA 1, n, .inr (.inl (vp_updL f i.toNatClampNeg x)))) = ws1) (hin : vp_in i n) (d : decode cc pc = .ok (.lastore, 1))
    (kk : ∀ (H1 : Heap) (locs1 : List Loc), va_P D vwCl ws1 H1 → va_D A ws1 → va_S A s.heap H1 locs1 → W p l e R s m args below meth c H1 locs1 cells slots Q (F0 m (pc + 1) ls rest)) : W p l e R s m args below meth c H locs cells slots Q (F0 m pc ls (.long x :: .int i :: .ref a :: rest)) := by
  subst hw
  exact va_last hx hb hK hP hD hS q0 1 ha rfl hin d kk
theorem k_cast (hx : p.tables.exec = Jvm.exec) (hb : c.code = cc) (hK : va_K D vwCl (TYS cA) s) (hP : va_P D vwCl ws H) (hD : va_D A ws) (hS : va_S A s.heap H locs) (q0 : Nat) {n : Nat} {f : Nat → Int32} (ha : ws[q0]? = some (a, .inl (cA 2, n, .inl f))) {i : Int32} {x : Int32} {ws1 : va_W} (hw : ws.set q0 (a, .inl (cA 2, n, .inl (upd f i.toNatClampNeg (vp_nar .char x)))) = ws1) (hin : vp_in i n) (d : decode cc pc = .ok (.castore, 1))
    (kk : ∀ (H1 : Heap) (locs1 : List Loc), va_P D vwCl ws1 H1 → va_D A ws1 → va_S A s.heap H1 locs1 → W p l e R s m args below meth c H1 locs1 cells slots Q (F0 m (pc + 1) ls rest)) : W p l e R s m args below meth c H locs cells slots Q (F0 m pc ls (.int x :: .int i :: .ref a :: rest)) := by
  subst hw
  exact va_cast hx hb hK hP hD hS q0 2 ha rfl hin d kk
theorem k_zast (hx : p.tables.exec = Jvm.exec) (hb : c.code = cc) (hK : va_K D vwCl (TYS cA) s) (hP : va_P D vwCl ws H) (hD : va_D A ws) (hS : va_S A s.heap H locs) (q0 : Nat) {n : Nat} {f : Nat → Int32} (ha : ws[q0]? = some (a, .inl (cA 3, n, .inl f))) {i : Int32} {x : Int32} {ws1 : va_W} (hw : ws.set q0 (a, .inl (cA 3, n, .inl (upd f i.toNatClampNeg (vp_nar .boolean x)))) = ws1) (hin : vp_in i n) (d : decode cc pc = .ok (.bastore, 1))
    (kk : ∀ (H1 : Heap) (locs1 : List Loc), va_P D vwCl ws1 H1 → va_D A ws1 → va_S A s.heap H1 locs1 → W p l e R s m args below meth c H1 locs1 cells slots Q (F0 m (pc + 1) ls rest)) : W p l e R s m args below meth c H locs cells slots Q (F0 m pc ls (.int x :: .int i :: .ref a :: rest)) := by
  subst hw
  exact va_zast hx hb hK hP hD hS q0 3 ha rfl hin d kk
theorem k_alen (hx : p.tables.exec = Jvm.exec) (hb : c.code = cc) (hK : va_K D vwCl (TYS cA) s) (hP : va_P D vwCl ws H) (q0 t0 : Nat) {cc0 : ClassId} {x : vp_A} (ha : ws[q0]? = some (a, .inl (cc0, x))) {ty : FieldType} (ht : (TYS cA)[t0]? = some (cc0, ty)) {v : Int32} (hv : Int32.ofNat x.1 = v) (d : decode cc pc = .ok (.arraylength, 1)) (kk : W p l e R s m args below meth c H locs cells slots Q (F0 m (pc + 1) ls (.int v :: rest))) : W p l e R s m args below meth c H locs cells slots Q (F0 m pc ls (.ref a :: rest)) := va_alen hx hb hK hP q0 t0 ha ht hv d kk
theorem k_ldcS (hx : p.tables.exec = Jvm.exec) (hb : c.code = cc) {g : gv_T} (hGV : GV g A s s.heap) {own tx : String} {index : Nat} (i : Nat) (hi : STR[i]? = some (own, index, tx)) (hown : s.vm.findClass own = some m.cls) (d : decode cc pc = .ok (.ldc index, 2)) (kk : W p l e R s m args below meth c H locs cells slots Q (F0 m (pc + 2) ls (.ref (g.1 i) :: rest))) : W p l e R s m args below meth c H locs cells slots Q (F0 m pc ls rest) := va_ldcS hx hb hown (hGV.str i _ hi) d kk
theorem k_getsC (hx : p.tables.exec = Jvm.exec) (hb : c.code = cc) {g : gv_T} (hGV : GV g A s s.heap) (hG : ∀ w ∈ GW, w.before args s = true) (hS : va_S A s.heap H locs) {own : String} {index : Nat} (hown : s.vm.findClass own = some m.cls) (hlink : Cond.fieldLink own index "java/lang/String" "COMPACT_STRINGS" "Z" ∈ GW) (d : decode cc pc = .ok (.getstatic index, 3)) (kk : W p l e R s m args below meth c H locs cells slots Q (F0 m (pc + 3) ls (.int 1 :: rest))) : W p l e R s m args below meth c H locs cells slots Q (F0 m pc ls rest) := va_gets hx hb hGV.cs hS hown (hG _ hlink) (fun _ h => h) d kk
theorem k_getsF (hx : p.tables.exec = Jvm.exec) (hb : c.code = cc) {g : gv_T} (hGV : GV g A s s.heap) (hG : ∀ w ∈ GW, w.before args s = true) (hS : va_S A s.heap H locs) {own : String} {index : Nat} (hown : s.vm.findClass own = some m.cls) (hlink : Cond.fieldLink own index "jdk/internal/util/Preconditions" "SIOOBE_FORMATTER" "Ljava/util/function/BiFunction;" ∈ GW) (d : decode cc pc = .ok (.getstatic index, 3)) (kk : W p l e R s m args below meth c H locs cells slots Q (F0 m (pc + 3) ls (ov g.2.2.1 :: rest))) : W p l e R s m args below meth c H locs cells slots Q (F0 m pc ls rest) := va_gets hx hb hGV.si hS hown (hG _ hlink) (fun _ h => h) d kk
theorem k_slen (hx : p.tables.exec = Jvm.exec) (hb : c.code = cc) {g : gv_T} (hGV : GV g A s s.heap) {x9 : Nat × Nat × List Int32} (hx9 : x9 ∈ SC) (hS : va_S A s.heap H locs) {v : Int32} (hv : Int32.ofNat ([x9.2.1].getD 0 0) = v) (d : decode cc pc = .ok (.arraylength, 1)) (kk : W p l e R s m args below meth c H locs cells slots Q (F0 m (pc + 1) ls (.int v :: rest))) : W p l e R s m args below meth c H locs cells slots Q (F0 m pc ls (.ref (g.2.1 x9.1) :: rest)) := va_tlen hx hb ((hGV.sc hx9).1 0 (by decide)).2.2.2 hS hv d kk
theorem k_sld (hx : p.tables.exec = Jvm.exec) (hb : c.code = cc) {g : gv_T} (hGV : GV g A s s.heap) {x9 : Nat × Nat × List Int32} (hx9 : x9 ∈ SC) (hS : va_S A s.heap H locs) {i : Int32} (hin : vp_in i ([x9.2.1].getD 0 0)) {v : Int32} (hv : sby x9.2.2 i = v) (d : decode cc pc = .ok (.baload, 1)) (kk : W p l e R s m args below meth c H locs cells slots Q (F0 m (pc + 1) ls (.int v :: rest))) : W p l e R s m args below meth c H locs cells slots Q (F0 m pc ls (.int i :: .ref (g.2.1 x9.1) :: rest)) := va_tb hx hb ((hGV.sc hx9).1 0 (by decide)).2.2.2 hS hin (show Value.int ((([x9.2.2].getD 0 []).getD i.toNatClampNeg 0)) = .int v by rw [← hv]; rfl) d kk
theorem k_svalue (hx : p.tables.exec = Jvm.exec) (hb : c.code = cc) {g : gv_T} (hGV : GV g A s s.heap) {x9 : Nat × Nat × List Int32} (hx9 : x9 ∈ SC) (hG : ∀ w ∈ GW, w.before args s = true) (hS : va_S A s.heap H locs) {own : String} {index : Nat} (hown : s.vm.findClass own = some m.cls) (hlink : Cond.fieldLink own index "java/lang/String" "value" "[B" ∈ GW) (d : decode cc pc = .ok (.getfield index, 3)) (kk : W p l e R s m args below meth c H locs cells slots Q (F0 m (pc + 3) ls (.ref (g.2.1 x9.1) :: rest))) : W p l e R s m args below meth c H locs cells slots Q (F0 m pc ls (.ref (g.1 x9.1) :: rest)) := vk_getf hx hb ((hGV.sc hx9).1 0 (by decide)).2.2.1 hS hown (hG _ hlink) (fun _ h => h) d kk
theorem k_scoder (hx : p.tables.exec = Jvm.exec) (hb : c.code = cc) {g : gv_T} (hGV : GV g A s s.heap) {x9 : Nat × Nat × List Int32} (hx9 : x9 ∈ SC) (hG : ∀ w ∈ GW, w.before args s = true) (hS : va_S A s.heap H locs) {own : String} {index : Nat} (hown : s.vm.findClass own = some m.cls) (hlink : Cond.fieldLink own index "java/lang/String" "coder" "B" ∈ GW) (d : decode cc pc = .ok (.getfield index, 3)) (kk : W p l e R s m args below meth c H locs cells slots Q (F0 m (pc + 3) ls (.int 0 :: rest))) : W p l e R s m args below meth c H locs cells slots Q (F0 m pc ls (.ref (g.1 x9.1) :: rest)) := vk_getf hx hb ((hGV.sc hx9).1 0 (by decide)).2.1 hS hown (hG _ hlink) (fun _ h => h) d kk
theorem k_srecv {g : gv_T} (hGV : GV g A s s.heap) {x9 : Nat × Nat × List Int32} (hx9 : x9 ∈ SC) (hS : va_S A s.heap H locs) : ∃ cell : Cell, H[g.1 x9.1]? = some cell ∧ cell.vm.isStatics = false ∧ s.vm.findClass "java/lang/String" = some cell.cls := vk_recv (N := 1) (adK := fun _ => g.1 x9.1) (i := 0) (hGV.sc hx9) (by decide) hS
theorem k_script (hx : p.tables.exec = Jvm.exec) (hb : c.code = cc) {g : gv_T} (hGV : GV g A s s.heap) (hS : va_S A s.heap H locs) {i : Int32} (hin : vp_in i g.2.2.2.2.1) (d : decode cc pc = .ok (.iaload, 1)) (kk : W p l e R s m args below meth c H locs cells slots Q (F0 m (pc + 1) ls (.int (g.2.2.2.2.2 (ix i)) :: rest))) : W p l e R s m args below meth c H locs cells slots Q (F0 m pc ls (.int i :: .ref g.2.2.2.1 :: rest)) := va_sld hx hb hGV.scr.1 hGV.scr.1.bound hGV.scr.2 hS hin d kk
theorem k_sclen (hx : p.tables.exec = Jvm.exec) (hb : c.code = cc) {g : gv_T} (hGV : GV g A s s.heap) (hS : va_S A s.heap H locs) (d : decode cc pc = .ok (.arraylength, 1)) (kk : W p l e R s m args below meth c H locs cells slots Q (F0 m (pc + 1) ls (.int (Int32.ofNat g.2.2.2.2.1) :: rest))) : W p l e R s m args below meth c H locs cells slots Q (F0 m pc ls (.ref g.2.2.2.1 :: rest)) := va_slen hx hb hGV.scr.1 hGV.scr.1.bound hGV.scr.2 hS d kk
theorem k_mabsl (hx : p.tables.exec = Jvm.exec) (hb : c.code = cc) (hml : c.maxLocals = ls.size) {own : String} {index : Nat} (hown : s.vm.findClass own = some m.cls) (h1 : (Cond.methodLink own index Lib.MathLoose.abs_long.x).before args s = true) (h2 : (Cond.static Lib.MathLoose.abs_long.x).before args s = true) (h3 : (Cond.initialized "java/lang/Math").before args s = true) (h4 : (Cond.code Lib.MathLoose.abs_long.x Lib.MathLoose.abs_long.code 2 (some .long)).before args s = true) (hf : 1 ≤ R.frames) (hlo : (rest.map fun v => v.category).sum + 13 ≤ R.locals) (hc : cells ≤ R.cells) (hs : slots ≤ R.slots) {x v : Int64} (d : decode cc pc = .ok (.invokestatic index, 3)) (hv : (if 0 < x then x else -x) = v) (kk : W p l e R s m args below meth c H locs cells slots Q (F0 m (pc + 3) ls (.long v :: rest))) : W p l e R s m args below meth c H locs cells slots Q (F0 m pc ls (.long x :: rest)) := va_mabs_long hx hb hml hown h1 h2 h3 h4 hf hlo hc hs d (by rw [hv]; exact kk)
theorem k_mminl (hx : p.tables.exec = Jvm.exec) (hb : c.code = cc) (hml : c.maxLocals = ls.size) {own : String} {index : Nat} (hown : s.vm.findClass own = some m.cls) (h1 : (Cond.methodLink own index Lib.MathLoose.min_long.x).before args s = true) (h2 : (Cond.static Lib.MathLoose.min_long.x).before args s = true) (h3 : (Cond.initialized "java/lang/Math").before args s = true) (h4 : (Cond.code Lib.MathLoose.min_long.x Lib.MathLoose.min_long.code 4 (some .long)).before args s = true) (hf : 1 ≤ R.frames) (hlo : (rest.map fun v => v.category).sum + 15 ≤ R.locals) (hc : cells ≤ R.cells) (hs : slots ≤ R.slots) {x y v : Int64} (d : decode cc pc = .ok (.invokestatic index, 3)) (hv : (if y < x then y else x) = v) (kk : W p l e R s m args below meth c H locs cells slots Q (F0 m (pc + 3) ls (.long v :: rest))) : W p l e R s m args below meth c H locs cells slots Q (F0 m pc ls (.long y :: .long x :: rest)) := va_mmin_long hx hb hml hown h1 h2 h3 h4 hf hlo hc hs d (by rw [hv]; exact kk)
theorem k_mmax (hx : p.tables.exec = Jvm.exec) (hb : c.code = cc) (hml : c.maxLocals = ls.size) {own : String} {index : Nat} (hown : s.vm.findClass own = some m.cls) (h1 : (Cond.methodLink own index Lib.Math.max.name).before args s = true) (h2 : (Cond.static Lib.Math.max.name).before args s = true) (h3 : (Cond.initialized "java/lang/Math").before args s = true) (h4 : (Cond.code Lib.Math.max.name Lib.Math.max.code 2 (some .int)).before args s = true) (hf : 1 ≤ R.frames) (hlo : (rest.map fun v => v.category).sum + 13 ≤ R.locals) (hc : cells ≤ R.cells) (hs : slots ≤ R.slots) {x y v : Int32} (d : decode cc pc = .ok (.invokestatic index, 3)) (hv : (if x < y then y else x) = v) (kk : W p l e R s m args below meth c H locs cells slots Q (F0 m (pc + 3) ls (.int v :: rest))) : W p l e R s m args below meth c H locs cells slots Q (F0 m pc ls (.int y :: .int x :: rest)) := va_mmax hx hb hml hown h1 h2 h3 h4 hf hlo hc hs d (by rw [hv]; exact kk)
theorem k_mmin (hx : p.tables.exec = Jvm.exec) (hb : c.code = cc) (hml : c.maxLocals = ls.size) {own : String} {index : Nat} (hown : s.vm.findClass own = some m.cls) (h1 : (Cond.methodLink own index Lib.Math.min.name).before args s = true) (h2 : (Cond.static Lib.Math.min.name).before args s = true) (h3 : (Cond.initialized "java/lang/Math").before args s = true) (h4 : (Cond.code Lib.Math.min.name Lib.Math.min.code 2 (some .int)).before args s = true) (hf : 1 ≤ R.frames) (hlo : (rest.map fun v => v.category).sum + 13 ≤ R.locals) (hc : cells ≤ R.cells) (hs : slots ≤ R.slots) {x y v : Int32} (d : decode cc pc = .ok (.invokestatic index, 3)) (hv : (if y < x then y else x) = v) (kk : W p l e R s m args below meth c H locs cells slots Q (F0 m (pc + 3) ls (.int v :: rest))) : W p l e R s m args below meth c H locs cells slots Q (F0 m pc ls (.int y :: .int x :: rest)) := va_mmin hx hb hml hown h1 h2 h3 h4 hf hlo hc hs d (by rw [hv]; exact kk)
end KR
theorem goV {own C : String} {idx n : Nat} {y : MethodName} {b : ByteArray} {r : Option FieldType} (h1 : Cond.methodLink own idx y ∈ GW) (h2 : Cond.instanceMethod y ∈ GW) (h3 : Cond.selects C y y ∈ GW) (h4 : Cond.initialized C ∈ GW) (h5 : Cond.code y b n r ∈ GW) : GoodIn GW (wsV own idx C y (.code y b n r :: GW)) := by
  intro w hw
  have hm : w ∈ GW := by
    unfold wsV at hw
    simp only [List.cons_append, List.nil_append, List.mem_cons] at hw
    rcases hw with rfl | rfl | rfl | rfl | rfl | hw <;> assumption
  exact ⟨hm, gw_good hm⟩
theorem goS {own : String} {idx n : Nat} {y : MethodName} {b : ByteArray} {r : Option FieldType} (h1 : Cond.methodLink own idx y ∈ GW) (h2 : Cond.static y ∈ GW) (h4 : Cond.initialized y.cls ∈ GW) (h5 : Cond.code y b n r ∈ GW) : GoodIn GW (va_wsS own idx y (.code y b n r :: GW)) := by
  intro w hw
  have hm : w ∈ GW := by
    unfold va_wsS at hw
    simp only [List.cons_append, List.nil_append, List.mem_cons] at hw
    rcases hw with rfl | rfl | rfl | rfl | hw <;> assumption
  exact ⟨hm, gw_good hm⟩
theorem goSW {own : String} {idx n : Nat} {y : MethodName} {b : ByteArray} {r : Option FieldType} {hh : List (Nat × Nat × Nat × Nat)} (h1 : Cond.methodLink own idx y ∈ GW) (h2 : Cond.static y ∈ GW) (h4 : Cond.initialized y.cls ∈ GW) (h5 : Cond.codeWith y b n r hh ∈ GW) : GoodIn GW (va_wsS own idx y (.codeWith y b n r hh :: GW)) := by
  intro w hw
  have hm : w ∈ GW := by
    unfold va_wsS at hw
    simp only [List.cons_append, List.nil_append, List.mem_cons] at hw
    rcases hw with rfl | rfl | rfl | rfl | hw <;> assumption
  exact ⟨hm, gw_good hm⟩
theorem goC {n : Nat} {y : MethodName} {b : ByteArray} {r : Option FieldType} (h5 : Cond.code y b n r ∈ GW) : GoodIn GW (.code y b n r :: GW) := by
  intro w hw
  have hm : w ∈ GW := by
    rcases List.mem_cons.mp hw with rfl | hw <;> assumption
  exact ⟨hm, gw_good hm⟩
/-! calls and ends -/
abbrev CF (p : Program) (m : MethodId) (c : Code) (cc : ByteArray) (nL : Nat) (s : State) (args : Array Value) (own : String) : Prop := CallFix p m c cc nL s args GW own
section KC
variable {p : Program} {l : Launch} {e : Env} {R : Room} {s : State} {m : MethodId} {args : Array Value} {below : List Frame} {meth : Method} {c : Code} {H : Heap} {locs : List Loc} {cells slots : Nat} {Q : State → Prop}
variable {cc : ByteArray} {pc nL : Nat} {ls : Array Slot} {rest st0 : List Value} {D : va_G} {ad : Nat → Nat} {cA : Nat → ClassId} {A : Nat → Prop} {a : Nat} {g : gv_T} {σ : Sg}
variable {y : MethodName} {b : ByteArray} {n idx : Nat} {ret : Option FieldType} {R' : Room} {av As : List Value} {own C E : String} {hh : List (Nat × Nat × Nat × Nat)} {Q' : Option Value → Sg → Prop} {X' : String → Sg → Prop}
theorem fr_of (hD : va_D A (WL ad cA σ)) (hS : va_S A s.heap H locs) (hA : ∀ q, s.heap.size ≤ q → A q) : ∀ q, va_A (WL ad cA σ) H.size q → A q := by
  intro q h
  rcases h with ⟨k, e, hk⟩ | h
  · exact hD.2 k (q, e) hk
  · exact hA q (Nat.le_trans hS.1 h)
theorem pc_mk (hP : va_P D vwCl (WL ad cA σ) H) (hD : va_D A (WL ad cA σ)) (hS : va_S A s.heap H locs) (hA : ∀ q, s.heap.size ≤ q → A q) (hK : va_K D vwCl (TYS cA) s) (hGV : GV g A s s.heap) :
    ∀ U : State, U.heap = H → s.WarmedH U.vm → PcG D cA g av (WL ad cA σ) H.size av.toArray U := by
  intro U hU hW
  refine ⟨rfl, by rw [hU], by rw [hU]; exact hP, va_K.moved hW.alike hK, hD.weaken (fun _ _ _ _ => trivial), ?_⟩
  rw [hU]
  exact GV.warm hW ((hGV.kept hS.2.1).narrow (fr_of hD hS hA))
theorem keepS {L : List Loc} {H1 : Heap} (hS : va_S A s.heap H locs) (hF : ∀ q, va_A (WL ad cA σ) H.size q → A q) (hz : H.size ≤ H1.size) (hk : ∀ q, q < H.size → ¬ va_A (WL ad cA σ) H.size q → H1[q]? = H[q]?) (hL : ∀ q ∈ L, va_A (WL ad cA σ) H.size q.base) : va_S A s.heap H1 (locs ++ L) :=
  ⟨Nat.le_trans hS.1 hz, fun q h1 h2 => by rw [hk q (Nat.lt_of_lt_of_le h1 hS.1) (fun z => h2 (hF q z))]; exact hS.2.1 q h1 h2, fun q hq => by
    rcases List.mem_append.mp hq with h | h
    · exact hS.2.2 q h
    · exact hF _ (hL q h)⟩
theorem mc_go {mc ms : Nat} {a0 : Array Value} (Wo : Sg → va_W) (hr : vx_Run p l e R s m args below meth c H locs cells slots mc ms (F0 m pc ls st0) rest (QM D ad cA (va_A (WL ad cA σ) H.size) Q' a0) (XM D ad cA (va_A (WL ad cA σ) H.size) X') (va_A (WL ad cA σ) H.size))
    (hS : va_S A s.heap H locs) (hF : ∀ q, va_A (WL ad cA σ) H.size q → A q)
    (hj : ∀ (σ' : Sg) (H1 : Heap), (∀ q, q < H.size → ¬ va_A (WL ad cA σ) H.size q → H1[q]? = H[q]?) → va_P D vwCl (WL ad cA σ') H1 → va_D (va_A (WL ad cA σ) H.size) (WL ad cA σ') → va_P D vwCl (Wo σ') H1 ∧ va_D A (Wo σ'))
    (kn : ∀ (v : Option Value) (σ' : Sg) (H1 : Heap) (locs1 : List Loc), Q' v σ' → va_P D vwCl (Wo σ') H1 → va_D A (Wo σ') → va_S A s.heap H1 locs1 → W p l e R s m args below meth c H1 locs1 (cells + mc) (slots + ms) Q (F0 m (pc + 3) ls (v.toList ++ rest)))
    (kx : ∀ (E : String) (σ' : Sg) (H1 : Heap) (locs1 : List Loc) (q9 : Addr) (ce : Cell), X' E σ' → va_P D vwCl (Wo σ') H1 → va_D A (Wo σ') → va_S A s.heap H1 locs1 → H1[q9]? = some ce → ce.vm = .none → s.vm.findClass E = some ce.cls → vx_W p l e R s m args below meth c H1 locs1 (cells + mc) (slots + ms) Q (F0 m pc ls rest) q9) :
    W p l e R s m args below meth c H locs cells slots Q (F0 m pc ls st0) := by
  intro T hT X
  rcases hr T hT X with ⟨v, st₀, t, T', L, h0, X1, hL, e1, e2, ⟨⟨v', σ', hq, hv, hp, hd⟩, hz, hk⟩, st⟩ | ⟨q9, st₀, t, T', L, E, ce, h0, X1, hL, e1, e2, ⟨⟨σ', hq, hp, hd⟩, hz, hk⟩, hce, hcv, hcl, st⟩
  · have hv : v = v' := Outcome.returned.inj hv
    subst hv
    rw [h0] at hz hk
    have hk1 : ∀ q, q < H.size → ¬ va_A (WL ad cA σ) H.size q → T'.heap[q]? = H[q]? := fun q h1 h2 => by rw [e1]; exact hk q h1 h2
    obtain ⟨hP1, hD1⟩ := hj σ' T'.heap hk1 (by rw [e1]; exact hp) hd
    obtain ⟨t2, a1, b1⟩ := kn v σ' T'.heap (locs ++ L) hq hP1 hD1 (keepS hS hF (by rw [e1]; exact hz) hk1 hL) T' rfl X1
    exact ⟨t2, st t2 a1, b1⟩
  · rw [h0] at hz hk
    have hk1 : ∀ q, q < H.size → ¬ va_A (WL ad cA σ) H.size q → T'.heap[q]? = H[q]? := fun q h1 h2 => by rw [e1]; exact hk q h1 h2
    obtain ⟨hP1, hD1⟩ := hj σ' T'.heap hk1 (by rw [e1]; exact hp) hd
    obtain ⟨t2, a1, b1⟩ := kx E σ' T'.heap (locs ++ L) q9 ce hq hP1 hD1 (keepS hS hF (by rw [e1]; exact hz) hk1 hL) (by rw [e1]; exact hce) hcv hcl T' rfl X1
    exact ⟨t2, st.trans a1, b1⟩
theorem mw_go {mc ms : Nat} {a0 : Array Value} (Wo : Sg → va_W) (hr : va_Run p l e R s m args below meth c H locs cells slots mc ms (F0 m pc ls st0) rest (QM D ad cA (va_A (WL ad cA σ) H.size) Q' a0) (va_A (WL ad cA σ) H.size))
    (hS : va_S A s.heap H locs) (hF : ∀ q, va_A (WL ad cA σ) H.size q → A q)
    (hj : ∀ (σ' : Sg) (H1 : Heap), (∀ q, q < H.size → ¬ va_A (WL ad cA σ) H.size q → H1[q]? = H[q]?) → va_P D vwCl (WL ad cA σ') H1 → va_D (va_A (WL ad cA σ) H.size) (WL ad cA σ') → va_P D vwCl (Wo σ') H1 ∧ va_D A (Wo σ'))
    (kn : ∀ (v : Option Value) (σ' : Sg) (H1 : Heap) (locs1 : List Loc), Q' v σ' → va_P D vwCl (Wo σ') H1 → va_D A (Wo σ') → va_S A s.heap H1 locs1 → W p l e R s m args below meth c H1 locs1 (cells + mc) (slots + ms) Q (F0 m (pc + 3) ls (v.toList ++ rest))) :
    W p l e R s m args below meth c H locs cells slots Q (F0 m pc ls st0) := by
  intro T hT X
  obtain ⟨v, st₀, t, T', L, h0, X1, hL, e1, e2, ⟨⟨v', σ', hq, hv, hp, hd⟩, hz, hk⟩, st⟩ := hr T hT X
  have hv : v = v' := Outcome.returned.inj hv
  subst hv
  rw [h0] at hz hk
  have hk1 : ∀ q, q < H.size → ¬ va_A (WL ad cA σ) H.size q → T'.heap[q]? = H[q]? := fun q h1 h2 => by rw [e1]; exact hk q h1 h2
  obtain ⟨hP1, hD1⟩ := hj σ' T'.heap hk1 (by rw [e1]; exact hp) hd
  obtain ⟨t2, a1, b1⟩ := kn v σ' T'.heap (locs ++ L) hq hP1 hD1 (keepS hS hF (by rw [e1]; exact hz) hk1 hL) T' rfl X1
  exact ⟨t2, st t2 a1, b1⟩
theorem hj0 (hF : ∀ q, va_A (WL ad cA σ) H.size q → A q) : ∀ (σ' : Sg) (H1 : Heap), (∀ q, q < H.size → ¬ va_A (WL ad cA σ) H.size q → H1[q]? = H[q]?) → va_P D vwCl (WL ad cA σ') H1 → va_D (va_A (WL ad cA σ) H.size) (WL ad cA σ') → va_P D vwCl (WL ad cA σ') H1 ∧ va_D A (WL ad cA σ') := fun σ' H1 _ hp hd => ⟨hp, hd.weaken (fun _ q _ h => hF q.1 h)⟩
theorem mc_V (S : CF p m c cc nL s args own) (hl : ls.size = nL) (hP : va_P D vwCl (WL ad cA σ) H) (hD : va_D A (WL ad cA σ)) (hS : va_S A s.heap H locs) (hA : ∀ q, s.heap.size ≤ q → A q) (hK : va_K D vwCl (TYS cA) s) (hGV : GV g A s s.heap)
    (hM : MC l y b n ret R' D ad cA g (.ref a :: As) σ Q' X') (go : GoodIn GW (wsV own idx C y (.code y b n ret :: GW))) (hd : y.cls = C ∧ y.cls ≠ "java/lang/invoke/MethodHandle" ∧ y.cls ≠ "java/lang/invoke/VarHandle" ∧ (parseMethodDescriptor y.desc).map (fun d => d.parameters.length) = some As.length)
    (hR' : R'.frames + 1 ≤ R.frames ∧ 8 + (n + 11) + R'.locals ≤ R.locals) (hcs : cells + R'.cells ≤ R.cells ∧ slots + R'.slots ≤ R.slots) (hrc : ∃ cell : Cell, H[a]? = some cell ∧ cell.vm.isStatics = false ∧ s.vm.findClass C = some cell.cls)
    (d : decode cc pc = .ok (.invokevirtual idx, 3)) (hst : st0 = As.reverse ++ .ref a :: rest) (hW : (rest.map fun v => v.category).sum ≤ 8)
    (kn : ∀ (v : Option Value) (σ' : Sg) (H1 : Heap) (locs1 : List Loc), Q' v σ' → va_P D vwCl (WL ad cA σ') H1 → va_D A (WL ad cA σ') → va_S A s.heap H1 locs1 → W p l e R s m args below meth c H1 locs1 (cells + R'.cells) (slots + R'.slots) Q (F0 m (pc + 3) ls (v.toList ++ rest)))
    (kx : ∀ (E : String) (σ' : Sg) (H1 : Heap) (locs1 : List Loc) (q9 : Addr) (ce : Cell), X' E σ' → va_P D vwCl (WL ad cA σ') H1 → va_D A (WL ad cA σ') → va_S A s.heap H1 locs1 → H1[q9]? = some ce → ce.vm = .none → s.vm.findClass E = some ce.cls → vx_W p l e R s m args below meth c H1 locs1 (cells + R'.cells) (slots + R'.slots) Q (F0 m pc ls rest) q9) :
    W p l e R s m args below meth c H locs cells slots Q (F0 m pc ls st0) :=
  mc_go (WL ad cA) (vx_runV S (hM H.size) (cwV As.length S.2.2.2.2 go rfl rfl rfl hd hR') ⟨PcG.blind _ _ _ _ _ _, hrc, pc_mk hP hD hS hA hK hGV⟩ rfl rfl hl hst (lv_room hW) d hcs) hS (fr_of hD hS hA) (hj0 (fr_of hD hS hA)) kn kx
theorem mc_S (S : CF p m c cc nL s args own) (hl : ls.size = nL) (hP : va_P D vwCl (WL ad cA σ) H) (hD : va_D A (WL ad cA σ)) (hS : va_S A s.heap H locs) (hA : ∀ q, s.heap.size ≤ q → A q) (hK : va_K D vwCl (TYS cA) s) (hGV : GV g A s s.heap)
    (hM : MC l y b n ret R' D ad cA g As σ Q' X') (go : GoodIn GW (va_wsS own idx y (.code y b n ret :: GW))) (hd : y.cls ≠ "java/lang/invoke/MethodHandle" ∧ y.cls ≠ "java/lang/invoke/VarHandle" ∧ (parseMethodDescriptor y.desc).map (fun d => d.parameters.length) = some As.length)
    (hR' : R'.frames + 1 ≤ R.frames ∧ 8 + (n + 11) + R'.locals ≤ R.locals) (hcs : cells + R'.cells ≤ R.cells ∧ slots + R'.slots ≤ R.slots)
    (d : decode cc pc = .ok (.invokestatic idx, 3)) (hst : st0 = As.reverse ++ rest) (hW : (rest.map fun v => v.category).sum ≤ 8)
    (kn : ∀ (v : Option Value) (σ' : Sg) (H1 : Heap) (locs1 : List Loc), Q' v σ' → va_P D vwCl (WL ad cA σ') H1 → va_D A (WL ad cA σ') → va_S A s.heap H1 locs1 → W p l e R s m args below meth c H1 locs1 (cells + R'.cells) (slots + R'.slots) Q (F0 m (pc + 3) ls (v.toList ++ rest)))
    (kx : ∀ (E : String) (σ' : Sg) (H1 : Heap) (locs1 : List Loc) (q9 : Addr) (ce : Cell), X' E σ' → va_P D vwCl (WL ad cA σ') H1 → va_D A (WL ad cA σ') → va_S A s.heap H1 locs1 → H1[q9]? = some ce → ce.vm = .none → s.vm.findClass E = some ce.cls → vx_W p l e R s m args below meth c H1 locs1 (cells + R'.cells) (slots + R'.slots) Q (F0 m pc ls rest) q9) :
    W p l e R s m args below meth c H locs cells slots Q (F0 m pc ls st0) :=
  mc_go (WL ad cA) (vx_runS S (hM H.size) (va_cwS As.length S.2.2.2.2 go rfl rfl rfl hd hR') ⟨PcG.blind _ _ _ _ _ _, pc_mk hP hD hS hA hK hGV⟩ rfl rfl hl hst (lv_room hW) d hcs) hS (fr_of hD hS hA) (hj0 (fr_of hD hS hA)) kn kx
theorem mc_SW (S : CF p m c cc nL s args own) (hl : ls.size = nL) (hP : va_P D vwCl (WL ad cA σ) H) (hD : va_D A (WL ad cA σ)) (hS : va_S A s.heap H locs) (hA : ∀ q, s.heap.size ≤ q → A q) (hK : va_K D vwCl (TYS cA) s) (hGV : GV g A s s.heap)
    (hM : MW l y b n ret hh R' D ad cA g As σ Q') (go : GoodIn GW (va_wsS own idx y (.codeWith y b n ret hh :: GW))) (hd : y.cls ≠ "java/lang/invoke/MethodHandle" ∧ y.cls ≠ "java/lang/invoke/VarHandle" ∧ (parseMethodDescriptor y.desc).map (fun d => d.parameters.length) = some As.length)
    (hR' : R'.frames + 1 ≤ R.frames ∧ 8 + (n + 11) + R'.locals ≤ R.locals) (hcs : cells + R'.cells ≤ R.cells ∧ slots + R'.slots ≤ R.slots)
    (d : decode cc pc = .ok (.invokestatic idx, 3)) (hst : st0 = As.reverse ++ rest) (hW : (rest.map fun v => v.category).sum ≤ 8)
    (kn : ∀ (v : Option Value) (σ' : Sg) (H1 : Heap) (locs1 : List Loc), Q' v σ' → va_P D vwCl (WL ad cA σ') H1 → va_D A (WL ad cA σ') → va_S A s.heap H1 locs1 → W p l e R s m args below meth c H1 locs1 (cells + R'.cells) (slots + R'.slots) Q (F0 m (pc + 3) ls (v.toList ++ rest))) :
    W p l e R s m args below meth c H locs cells slots Q (F0 m pc ls st0) :=
  mw_go (WL ad cA) (vx_runSW S (hM H.size) (vx_cwSW As.length S.2.2.2.2 go rfl rfl rfl hd hR') ⟨PcG.blind _ _ _ _ _ _, pc_mk hP hD hS hA hK hGV⟩ rfl rfl hl hst (lv_room hW) d hcs) hS (fr_of hD hS hA) (hj0 (fr_of hD hS hA)) kn
/-! ends: of a method that may throw (x) and of one that does not -/
variable {mc ms : Nat} {Qe : Option Value → Sg → Prop} {Xe : String → Sg → Prop}
theorem m_i {v : Int32} {ty : FieldType} (hq : Qe (some (.int v)) σ) (hx : p.tables.exec = Jvm.exec) (hb : c.code = cc) (hr : meth.sig.returnType = some ty) (hlocks : meth.locks = false) (hn : narrow ty (.int v) = .int v) (hP : va_P D vwCl (WL ad cA σ) H) (hD : va_D A (WL ad cA σ)) (hS : va_S A s.heap H locs) (hc : cells ≤ mc) (hs : slots ≤ ms) (d : decode cc pc = .ok (.ireturn, 1)) :
    W p l e R s m args below meth c H locs cells slots (MQ below (QM D ad cA A Qe) args s mc ms A) (F0 m pc ls [.int v]) :=
  W.widen hc hs (W.zret hx hb hr hn (fun t ht _ => ⟨⟨_, σ, hq, rfl, by rw [ht]; exact hP, hD⟩, hS.F ht⟩) hS.2.2 d hlocks)
theorem m_l {v : Int64} (hq : Qe (some (.long v)) σ) (hx : p.tables.exec = Jvm.exec) (hb : c.code = cc) (hr : meth.sig.returnType = some .long) (hlocks : meth.locks = false) (hP : va_P D vwCl (WL ad cA σ) H) (hD : va_D A (WL ad cA σ)) (hS : va_S A s.heap H locs) (hc : cells ≤ mc) (hs : slots ≤ ms) (d : decode cc pc = .ok (.lreturn, 1)) :
    W p l e R s m args below meth c H locs cells slots (MQ below (QM D ad cA A Qe) args s mc ms A) (F0 m pc ls [.long v]) :=
  W.widen hc hs (W.lret hx hb hr (fun t ht _ => ⟨⟨_, σ, hq, rfl, by rw [ht]; exact hP, hD⟩, hS.F ht⟩) hS.2.2 d hlocks)
theorem m_f {v : UInt32} (hq : Qe (some (.float v)) σ) (hx : p.tables.exec = Jvm.exec) (hb : c.code = cc) (hr : meth.sig.returnType = some .float) (hlocks : meth.locks = false) (hP : va_P D vwCl (WL ad cA σ) H) (hD : va_D A (WL ad cA σ)) (hS : va_S A s.heap H locs) (hc : cells ≤ mc) (hs : slots ≤ ms) (d : decode cc pc = .ok (.freturn, 1)) :
    W p l e R s m args below meth c H locs cells slots (MQ below (QM D ad cA A Qe) args s mc ms A) (F0 m pc ls [.float v]) :=
  W.widen hc hs (W.fret hx hb hr (fun t ht _ => ⟨⟨_, σ, hq, rfl, by rw [ht]; exact hP, hD⟩, hS.F ht⟩) hS.2.2 d hlocks)
theorem m_d {v : UInt64} (hq : Qe (some (.double v)) σ) (hx : p.tables.exec = Jvm.exec) (hb : c.code = cc) (hr : meth.sig.returnType = some .double) (hlocks : meth.locks = false) (hP : va_P D vwCl (WL ad cA σ) H) (hD : va_D A (WL ad cA σ)) (hS : va_S A s.heap H locs) (hc : cells ≤ mc) (hs : slots ≤ ms) (d : decode cc pc = .ok (.dreturn, 1)) :
    W p l e R s m args below meth c H locs cells slots (MQ below (QM D ad cA A Qe) args s mc ms A) (F0 m pc ls [.double v]) :=
  W.widen hc hs (W.dret hx hb hr (fun t ht _ => ⟨⟨_, σ, hq, rfl, by rw [ht]; exact hP, hD⟩, hS.F ht⟩) hS.2.2 d hlocks)
theorem m_v (hq : Qe none σ) (hx : p.tables.exec = Jvm.exec) (hb : c.code = cc) (hr : meth.sig.returnType = none) (hlocks : meth.locks = false) (hP : va_P D vwCl (WL ad cA σ) H) (hD : va_D A (WL ad cA σ)) (hS : va_S A s.heap H locs) (hc : cells ≤ mc) (hs : slots ≤ ms) (d : decode cc pc = .ok (.return_, 1)) :
    W p l e R s m args below meth c H locs cells slots (MQ below (QM D ad cA A Qe) args s mc ms A) (F0 m pc ls []) :=
  W.widen hc hs (W.vret hx hb hr (fun t ht _ => ⟨⟨_, σ, hq, rfl, by rw [ht]; exact hP, hD⟩, hS.F ht⟩) hS.2.2 d hlocks)
/-- a throw leaves the method -/
theorem m_out {q9 : Addr} {ce : Cell} (hq : Xe E σ) (htab : ∀ x ∈ c.exceptionTable.toList, False) (hlocks : meth.locks = false) (h9 : H[q9]? = some ce) (hv : ce.vm = .none) (hcl : s.vm.findClass E = some ce.cls) (hP : va_P D vwCl (WL ad cA σ) H) (hD : va_D A (WL ad cA σ)) (hS : va_S A s.heap H locs) (hc : cells ≤ mc) (hs : slots ≤ ms) :
    vx_W p l e R s m args below meth c H locs cells slots (vx_MQ below (QM D ad cA A Qe) (XM D ad cA A Xe) args s mc ms A) (F0 m pc ls rest) q9 :=
  vx_out (fun x hx => (htab x hx).elim) hlocks h9 hv hcl (fun t ht _ => ⟨⟨σ, hq, by rw [ht]; exact hP, hD⟩, hS.F ht⟩) hS.2.2 hc hs
/-! beside arrays of the method's own -/
theorem wlx {X : va_W} {k : Nat} {c9 : Nat × va_E} (h : (WL ad cA σ)[k]? = some c9) : (WL ad cA σ ++ X)[k]? = some c9 := by
  rw [List.getElem?_append_left (List.getElem?_eq_some_iff.mp h).1]; exact h
theorem subP {X : va_W} (hP : va_P D vwCl (WL ad cA σ ++ X) H) : va_P D vwCl (WL ad cA σ) H := fun k q hk => hP k q (wlx hk)
theorem subD {X : va_W} (hD : va_D A (WL ad cA σ ++ X)) : va_D A (WL ad cA σ) := ⟨fun i j p q hi hj => hD.1 i j p q (wlx hi) (wlx hj), fun k q hk => hD.2 k q (wlx hk)⟩
theorem wl_len {τ : Sg} : (WL ad cA τ).length = (WL ad cA σ).length := rfl
theorem wl_fst {τ : Sg} : (WL ad cA τ).map (fun q => q.1) = (WL ad cA σ).map (fun q => q.1) := rfl
theorem va_D_fst {ws ws' : va_W} (h : va_D A ws) (e : ws.map (fun q => q.1) = ws'.map (fun q => q.1)) : va_D A ws' := by
  have hk : ∀ (k : Nat) (q : Nat × va_E), ws'[k]? = some q → ∃ q' : Nat × va_E, ws[k]? = some q' ∧ q'.1 = q.1 := by
    intro k q hq
    have h1 : (ws'.map (fun q => q.1))[k]? = some q.1 := by rw [List.getElem?_map, hq]; rfl
    rw [← e, List.getElem?_map] at h1
    cases h2 : ws[k]? with
    | none => rw [h2] at h1; cases h1
    | some q' => rw [h2] at h1; exact ⟨q', rfl, Option.some.inj h1⟩
  refine ⟨fun i j p q hi hj hpq => ?_, fun k q hq => ?_⟩
  · obtain ⟨p', h1, e1⟩ := hk i p hi
    obtain ⟨q', h2, e2⟩ := hk j q hj
    exact h.1 i j p' q' h1 h2 (by rw [e1, e2]; exact hpq)
  · obtain ⟨q', h1, e1⟩ := hk k q hq
    rw [← e1]; exact h.2 k q' h1
theorem hjx {X : va_W} (hP : va_P D vwCl (WL ad cA σ ++ X) H) (hD : va_D A (WL ad cA σ ++ X)) : ∀ (σ' : Sg) (H1 : Heap), (∀ q, q < H.size → ¬ va_A (WL ad cA σ) H.size q → H1[q]? = H[q]?) → va_P D vwCl (WL ad cA σ') H1 → va_D (va_A (WL ad cA σ) H.size) (WL ad cA σ') → va_P D vwCl (WL ad cA σ' ++ X) H1 ∧ va_D A (WL ad cA σ' ++ X) := by
  intro σ' H1 hk hp _
  refine ⟨fun k q hq => ?_, va_D_fst hD (by rw [List.map_append, List.map_append, wl_fst (σ := σ')])⟩
  by_cases hlt : k < (WL ad cA σ').length
  · rw [List.getElem?_append_left hlt] at hq
    exact hp k q hq
  · rw [List.getElem?_append_right (Nat.le_of_not_lt hlt)] at hq
    have hq' : (WL ad cA σ ++ X)[k]? = some q := by
      rw [List.getElem?_append_right (by rw [← wl_len (τ := σ')]; exact Nat.le_of_not_lt hlt), ← wl_len (τ := σ')]; exact hq
    refine (hP k q hq').kept (hk q.1 (vx_lt hP hq') ?_)
    rintro (⟨k', e, hk'⟩ | h)
    · have := hD.1 k' k (q.1, e) q (wlx hk') hq' rfl
      subst this
      exact hlt (by rw [wl_len (σ := σ)]; exact (List.getElem?_eq_some_iff.mp hk').1)
    · exact absurd (vx_lt hP hq') (Nat.not_lt.mpr h)
theorem mc_SWx {X : va_W} (S : CF p m c cc nL s args own) (hl : ls.size = nL) (hP : va_P D vwCl (WL ad cA σ ++ X) H) (hD : va_D A (WL ad cA σ ++ X)) (hS : va_S A s.heap H locs) (hA : ∀ q, s.heap.size ≤ q → A q) (hK : va_K D vwCl (TYS cA) s) (hGV : GV g A s s.heap)
    (hM : MW l y b n ret hh R' D ad cA g As σ Q') (go : GoodIn GW (va_wsS own idx y (.codeWith y b n ret hh :: GW))) (hd : y.cls ≠ "java/lang/invoke/MethodHandle" ∧ y.cls ≠ "java/lang/invoke/VarHandle" ∧ (parseMethodDescriptor y.desc).map (fun d => d.parameters.length) = some As.length)
    (hR' : R'.frames + 1 ≤ R.frames ∧ 8 + (n + 11) + R'.locals ≤ R.locals) (hcs : cells + R'.cells ≤ R.cells ∧ slots + R'.slots ≤ R.slots)
    (d : decode cc pc = .ok (.invokestatic idx, 3)) (hst : st0 = As.reverse ++ rest) (hW : (rest.map fun v => v.category).sum ≤ 8)
    (kn : ∀ (v : Option Value) (σ' : Sg) (H1 : Heap) (locs1 : List Loc), Q' v σ' → va_P D vwCl (WL ad cA σ' ++ X) H1 → va_D A (WL ad cA σ' ++ X) → va_S A s.heap H1 locs1 → W p l e R s m args below meth c H1 locs1 (cells + R'.cells) (slots + R'.slots) Q (F0 m (pc + 3) ls (v.toList ++ rest))) :
    W p l e R s m args below meth c H locs cells slots Q (F0 m pc ls st0) :=
  mw_go (fun σ' => WL ad cA σ' ++ X) (vx_runSW S (hM H.size) (vx_cwSW As.length S.2.2.2.2 go rfl rfl rfl hd hR') ⟨PcG.blind _ _ _ _ _ _, pc_mk (subP hP) (subD hD) hS hA hK hGV⟩ rfl rfl hl hst (lv_room hW) d hcs) hS (fr_of (subD hD) hS hA) (hjx hP hD) kn
theorem xl_0 {c0 : Nat × va_E} {X : va_W} : (WL ad cA σ ++ (c0 :: X))[52]? = some c0 := rfl
theorem xl_1 {c0 c1 : Nat × va_E} {X : va_W} : (WL ad cA σ ++ (c0 :: c1 :: X))[53]? = some c1 := rfl
theorem xs_0 {c0 c9 : Nat × va_E} {X : va_W} : (WL ad cA σ ++ (c0 :: X)).set 52 c9 = WL ad cA σ ++ (c9 :: X) := rfl
theorem xs_1 {c0 c1 c9 : Nat × va_E} {X : va_W} : (WL ad cA σ ++ (c0 :: c1 :: X)).set 53 c9 = WL ad cA σ ++ (c0 :: c9 :: X) := rfl
theorem m_throw (hq : Xe E σ) {text : String} {ik is ic : Nat} {names : List String} (i : Nat) (hx : p.tables.exec = Jvm.exec) (hb : c.code = cc) (hfl : l.stackTraces = false) (hown : s.vm.findClass own = some m.cls) (hG : ∀ w ∈ GW, w.before args s = true) (hGV : GV g A s s.heap) (htab : ∀ x ∈ c.exceptionTable.toList, False) (hlocks : meth.locks = false) (hlz : ls.size = c.maxLocals)
    (hcls : Bundle.fit E = true) (hnames : ∀ n ∈ names, Bundle.fit n = true) (hk : Cond.classLink own ik E ∈ GW) (hini : Cond.initialized E ∈ GW) (hi : STR[i]? = some (own, is, text)) (hat : ∀ w ∈ vx_atS own ic E names, w ∈ lw_tbl ∧ (goodWord w || nwWord w) = true)
    (hP : va_P D vwCl (WL ad cA σ) H) (hD : va_D A (WL ad cA σ)) (hS : va_S A s.heap H locs)
    (d0 : decode cc pc = .ok (.new ik, 3)) (d3 : decode cc (pc + 3) = .ok (.dup, 1)) (d4 : decode cc (pc + 4) = .ok (.ldc is, 2)) (d6 : decode cc (pc + 6) = .ok (.invokespecial ic, 3)) (d9 : decode cc (pc + 9) = .ok (.athrow, 1))
    (hRf : names.length + 3 < R.frames) (hRl : (rest.map fun v => v.category).sum + (13 * (names.length + 1) + 43) ≤ R.locals) (hRc : cells + 1 ≤ R.cells) (hRs : slots + 6 ≤ R.slots) (hc : cells + 1 ≤ mc) (hs : slots + 6 ≤ ms) :
    W p l e R s m args below meth c H locs cells slots (vx_MQ below (QM D ad cA A Qe) (XM D ad cA A Xe) args s mc ms A) (F0 m pc ls rest) := by
  have hat2 : ∀ w ∈ vx_atS own ic E names, w.before args s = true := by
    intro w hw
    obtain ⟨h1, h2⟩ := hat w hw
    rcases Bool.or_eq_true_iff.mp h2 with h | h
    · exact hG w (List.mem_filter.mpr ⟨h1, h⟩)
    · exact va_Nw.use (nw_tab h) (hGV.nw w (List.mem_filter.mpr ⟨h1, h⟩))
  have hgood : ∀ w ∈ Cond.classLink own ik E :: Cond.initialized E :: vx_atS own ic E names, vx_ot w = true := by
    intro w hw
    rcases List.mem_cons.mp hw with rfl | hw
    · rfl
    · rcases List.mem_cons.mp hw with rfl | hw
      · rfl
      · rcases Bool.or_eq_true_iff.mp (hat w hw).2 with h | h
        · unfold vx_ot; rw [h]; exact Bool.or_true _
        · unfold vx_ot; rw [nw_tab h]; rfl
  refine vx_throwS hx hb hfl hown hcls hnames (hG _ hk) (hG _ hini) (hGV.str i _ hi) hat2 hgood hGV.th.1 hGV.th.2 hS hlz d0 d3 d4 d6 d9 (fun x hx => (htab x hx).elim) hRf hRl hRc hRs hlocks ?_ hS.2.2 hc hs
  intro t ht hz hk9
  refine ⟨⟨σ, hq, hP.kept (fun k z hz9 => hk9 _ (hP k z hz9).lt), hD⟩, Nat.le_trans hS.1 hz, fun x h1 h2 => ?_⟩
  rw [hk9 x (Nat.lt_of_lt_of_le h1 hS.1)]
  exact hS.2.1 x h1 h2
theorem m_throwW (hq : Xe E σ) {text : String} {ik is ic : Nat} {names : List String} (i : Nat) (hx : p.tables.exec = Jvm.exec) (hb : c.code = cc) (hfl : l.stackTraces = false) (hown : s.vm.findClass own = some m.cls) (hG : ∀ w ∈ GW, w.before args s = true) (hGV : GV g A s s.heap) (htab : ∀ x ∈ c.exceptionTable.toList, False) (hlocks : meth.locks = false) (hlz : ls.size = c.maxLocals)
    (hcls : Bundle.fit E = true) (hnames : ∀ n ∈ names, Bundle.fit n = true) (hk : Cond.classLink own ik E ∈ GW) (hini : Cond.initialized E ∈ GW) (hi : STR[i]? = some (own, is, text)) (hat : ∀ w ∈ vx_atS own ic E names, w ∈ lw_tbl ∧ (goodWord w || nwWord w) = true)
    (hP : va_P D vwCl (WL ad cA σ) H) (hD : va_D A (WL ad cA σ)) (hS : va_S A s.heap H locs)
    (d0 : decode cc pc = .ok (.new ik, 3)) (d3 : decode cc (pc + 3) = .ok (.dup, 1)) (d4 : decode cc (pc + 4) = .ok (.ldc_w is, 3)) (d7 : decode cc (pc + 7) = .ok (.invokespecial ic, 3)) (d10 : decode cc (pc + 10) = .ok (.athrow, 1))
    (hRf : names.length + 3 < R.frames) (hRl : (rest.map fun v => v.category).sum + (13 * (names.length + 1) + 43) ≤ R.locals) (hRc : cells + 1 ≤ R.cells) (hRs : slots + 6 ≤ R.slots) (hc : cells + 1 ≤ mc) (hs : slots + 6 ≤ ms) :
    W p l e R s m args below meth c H locs cells slots (vx_MQ below (QM D ad cA A Qe) (XM D ad cA A Xe) args s mc ms A) (F0 m pc ls rest) := by
  have hat2 : ∀ w ∈ vx_atS own ic E names, w.before args s = true := by
    intro w hw
    obtain ⟨h1, h2⟩ := hat w hw
    rcases Bool.or_eq_true_iff.mp h2 with h | h
    · exact hG w (List.mem_filter.mpr ⟨h1, h⟩)
    · exact va_Nw.use (nw_tab h) (hGV.nw w (List.mem_filter.mpr ⟨h1, h⟩))
  have hgood : ∀ w ∈ Cond.classLink own ik E :: Cond.initialized E :: vx_atS own ic E names, vx_ot w = true := by
    intro w hw
    rcases List.mem_cons.mp hw with rfl | hw
    · rfl
    · rcases List.mem_cons.mp hw with rfl | hw
      · rfl
      · rcases Bool.or_eq_true_iff.mp (hat w hw).2 with h | h
        · unfold vx_ot; rw [h]; exact Bool.or_true _
        · unfold vx_ot; rw [nw_tab h]; rfl
  refine vx_throwSW hx hb hfl hown hcls hnames (hG _ hk) (hG _ hini) (hGV.str i _ hi) hat2 hgood hGV.th.1 hGV.th.2 hS hlz d0 d3 d4 d7 d10 (fun x hx => (htab x hx).elim) hRf hRl hRc hRs hlocks ?_ hS.2.2 hc hs
  intro t ht hz hk9
  refine ⟨⟨σ, hq, hP.kept (fun k z hz9 => hk9 _ (hP k z hz9).lt), hD⟩, Nat.le_trans hS.1 hz, fun x h1 h2 => ?_⟩
  rw [hk9 x (Nat.lt_of_lt_of_le h1 hS.1)]
  exact hS.2.1 x h1 h2
end KC
