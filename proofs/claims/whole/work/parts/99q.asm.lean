/-! ===== the world behind the constructors, sorted (laid by wip/whole/genasm.py) ===== -/
def adl (q0 q1 : Nat) (u v : Nat → Nat) : List Nat := [q0, (u 0), (u 1), ((u 1) + 1 + 0), ((u 1) + 1 + 1), ((u 1) + 1 + 2), ((u 1) + 1 + 3), ((u 1) + 1 + 4), ((u 1) + 1 + 5), ((u 1) + 1 + 6), ((u 1) + 1 + 7), ((u 1) + 1 + 8), ((u 1) + 1 + 9), ((u 1) + 1 + 10), (u 2), (u 7), (u 8), (u 13), (u 14), (u 15), (u 16), (u 17), (u 18), (u 19), (u 20), (u 21), (u 22), (u 23), (u 24), (u 25), (u 26), (u 27), (u 28), (u 29), (u 30), (u 31), (u 32), (u 33), (u 34), (u 36), (u 38), (u 40), (u 42), (u 44), (u 35), (u 37), (u 39), (u 41), (u 43), (u 45), (u 3), (u 4), (u 5), (u 6), (u 9), (u 10), (u 11), (u 12), q1, (v 0), (v 1), (v 2), (v 3), (v 4), (v 5), (v 6), (v 7), (v 8), (v 9), (v 10), (v 11), (v 12), (v 13), (v 14), (v 15), (v 16), (v 17), (v 18), (v 19), (v 20), (v 21), (v 22), (v 23)]
def adF (q0 q1 : Nat) (u v : Nat → Nat) (o : Nat) : Nat := (adl q0 q1 u v).getD o 0
def plc0 : List Nat := [0, 1, 2, 3, 4, 5, 6, 7, 8, 9, 10, 11, 12, 13, 14, 19, 20, 25, 26, 27, 28, 29, 30, 31, 32, 33, 34, 35, 36, 37, 38, 39, 40, 41, 42, 43, 44, 45, 46, 48, 50, 52, 54, 56, 47, 49, 51, 53, 55, 57, 15, 16, 17, 18, 21, 22, 23, 24, 58, 59, 60, 61, 62, 63, 64, 65, 66, 67, 68, 69, 70, 71, 72, 73, 74, 75, 76, 77, 78, 79, 80, 81, 82]
def plcI : List Nat := [0, 1, 2, 3, 4, 5, 6, 7, 8, 9, 10, 11, 12, 13, 14, 50, 51, 52, 53, 15, 16, 54, 55, 56, 57, 17, 18, 19, 20, 21, 22, 23, 24, 25, 26, 27, 28, 29, 30, 31, 32, 33, 34, 35, 36, 37, 38, 44, 39, 45, 40, 46, 41, 47, 42, 48, 43, 49, 58, 59, 60, 61, 62, 63, 64, 65, 66, 67, 68, 69, 70, 71, 72, 73, 74, 75, 76, 77, 78, 79, 80, 81, 82]
section ASM
variable {D : va_G} {ca : Nat → ClassId} {q0 q1 : Nat} {u v : Nat → Nat}
abbrev wB (D : va_G) (ca : Nat → ClassId) (q0 q1 : Nat) (u v : Nat → Nat) : va_W := w_X9 D ca q0 u ++ w_X10 D ca q1 v
theorem as_0 : (wB D ca q0 q1 u v)[0]? = some (adF q0 q1 u v 0, ceOf (adF q0 q1 u v) ca WS mm0 0) := by rfl
theorem as_1 : (wB D ca q0 q1 u v)[1]? = some (adF q0 q1 u v 1, ceOf (adF q0 q1 u v) ca WS mm0 1) := by rfl
theorem as_3 : (wB D ca q0 q1 u v)[3]? = some (adF q0 q1 u v 3, ceOf (adF q0 q1 u v) ca WS mm0 3) := by rfl
theorem as_4 : (wB D ca q0 q1 u v)[4]? = some (adF q0 q1 u v 4, ceOf (adF q0 q1 u v) ca WS mm0 4) := by rfl
theorem as_5 : (wB D ca q0 q1 u v)[5]? = some (adF q0 q1 u v 5, ceOf (adF q0 q1 u v) ca WS mm0 5) := by rfl
theorem as_6 : (wB D ca q0 q1 u v)[6]? = some (adF q0 q1 u v 6, ceOf (adF q0 q1 u v) ca WS mm0 6) := by rfl
theorem as_7 : (wB D ca q0 q1 u v)[7]? = some (adF q0 q1 u v 7, ceOf (adF q0 q1 u v) ca WS mm0 7) := by rfl
theorem as_8 : (wB D ca q0 q1 u v)[8]? = some (adF q0 q1 u v 8, ceOf (adF q0 q1 u v) ca WS mm0 8) := by rfl
theorem as_9 : (wB D ca q0 q1 u v)[9]? = some (adF q0 q1 u v 9, ceOf (adF q0 q1 u v) ca WS mm0 9) := by rfl
theorem as_10 : (wB D ca q0 q1 u v)[10]? = some (adF q0 q1 u v 10, ceOf (adF q0 q1 u v) ca WS mm0 10) := by rfl
theorem as_11 : (wB D ca q0 q1 u v)[11]? = some (adF q0 q1 u v 11, ceOf (adF q0 q1 u v) ca WS mm0 11) := by rfl
theorem as_12 : (wB D ca q0 q1 u v)[12]? = some (adF q0 q1 u v 12, ceOf (adF q0 q1 u v) ca WS mm0 12) := by rfl
theorem as_13 : (wB D ca q0 q1 u v)[13]? = some (adF q0 q1 u v 13, ceOf (adF q0 q1 u v) ca WS mm0 13) := by rfl
theorem as_14 : (wB D ca q0 q1 u v)[14]? = some (adF q0 q1 u v 14, ceOf (adF q0 q1 u v) ca WS mm0 14) := by rfl
theorem as_15 : (wB D ca q0 q1 u v)[19]? = some (adF q0 q1 u v 15, ceOf (adF q0 q1 u v) ca WS mm0 15) := by rfl
theorem as_16 : (wB D ca q0 q1 u v)[20]? = some (adF q0 q1 u v 16, ceOf (adF q0 q1 u v) ca WS mm0 16) := by rfl
theorem as_17 : (wB D ca q0 q1 u v)[25]? = some (adF q0 q1 u v 17, ceOf (adF q0 q1 u v) ca WS mm0 17) := by rfl
theorem as_18 : (wB D ca q0 q1 u v)[26]? = some (adF q0 q1 u v 18, ceOf (adF q0 q1 u v) ca WS mm0 18) := by rfl
theorem as_19 : (wB D ca q0 q1 u v)[27]? = some (adF q0 q1 u v 19, ceOf (adF q0 q1 u v) ca WS mm0 19) := by rfl
theorem as_20 : (wB D ca q0 q1 u v)[28]? = some (adF q0 q1 u v 20, ceOf (adF q0 q1 u v) ca WS mm0 20) := by rfl
theorem as_21 : (wB D ca q0 q1 u v)[29]? = some (adF q0 q1 u v 21, ceOf (adF q0 q1 u v) ca WS mm0 21) := by rfl
theorem as_22 : (wB D ca q0 q1 u v)[30]? = some (adF q0 q1 u v 22, ceOf (adF q0 q1 u v) ca WS mm0 22) := by rfl
theorem as_23 : (wB D ca q0 q1 u v)[31]? = some (adF q0 q1 u v 23, ceOf (adF q0 q1 u v) ca WS mm0 23) := by rfl
theorem as_24 : (wB D ca q0 q1 u v)[32]? = some (adF q0 q1 u v 24, ceOf (adF q0 q1 u v) ca WS mm0 24) := by rfl
theorem as_25 : (wB D ca q0 q1 u v)[33]? = some (adF q0 q1 u v 25, ceOf (adF q0 q1 u v) ca WS mm0 25) := by rfl
theorem as_26 : (wB D ca q0 q1 u v)[34]? = some (adF q0 q1 u v 26, ceOf (adF q0 q1 u v) ca WS mm0 26) := by rfl
theorem as_27 : (wB D ca q0 q1 u v)[35]? = some (adF q0 q1 u v 27, ceOf (adF q0 q1 u v) ca WS mm0 27) := by rfl
theorem as_28 : (wB D ca q0 q1 u v)[36]? = some (adF q0 q1 u v 28, ceOf (adF q0 q1 u v) ca WS mm0 28) := by rfl
theorem as_29 : (wB D ca q0 q1 u v)[37]? = some (adF q0 q1 u v 29, ceOf (adF q0 q1 u v) ca WS mm0 29) := by rfl
theorem as_30 : (wB D ca q0 q1 u v)[38]? = some (adF q0 q1 u v 30, ceOf (adF q0 q1 u v) ca WS mm0 30) := by rfl
theorem as_31 : (wB D ca q0 q1 u v)[39]? = some (adF q0 q1 u v 31, ceOf (adF q0 q1 u v) ca WS mm0 31) := by rfl
theorem as_32 : (wB D ca q0 q1 u v)[40]? = some (adF q0 q1 u v 32, ceOf (adF q0 q1 u v) ca WS mm0 32) := by rfl
theorem as_33 : (wB D ca q0 q1 u v)[41]? = some (adF q0 q1 u v 33, ceOf (adF q0 q1 u v) ca WS mm0 33) := by rfl
theorem as_34 : (wB D ca q0 q1 u v)[42]? = some (adF q0 q1 u v 34, ceOf (adF q0 q1 u v) ca WS mm0 34) := by rfl
theorem as_35 : (wB D ca q0 q1 u v)[43]? = some (adF q0 q1 u v 35, ceOf (adF q0 q1 u v) ca WS mm0 35) := by rfl
theorem as_36 : (wB D ca q0 q1 u v)[44]? = some (adF q0 q1 u v 36, ceOf (adF q0 q1 u v) ca WS mm0 36) := by rfl
theorem as_38 : (wB D ca q0 q1 u v)[46]? = some (adF q0 q1 u v 38, ceOf (adF q0 q1 u v) ca WS mm0 38) := by rfl
theorem as_39 : (wB D ca q0 q1 u v)[48]? = some (adF q0 q1 u v 39, ceOf (adF q0 q1 u v) ca WS mm0 39) := by rfl
theorem as_40 : (wB D ca q0 q1 u v)[50]? = some (adF q0 q1 u v 40, ceOf (adF q0 q1 u v) ca WS mm0 40) := by rfl
theorem as_41 : (wB D ca q0 q1 u v)[52]? = some (adF q0 q1 u v 41, ceOf (adF q0 q1 u v) ca WS mm0 41) := by rfl
theorem as_42 : (wB D ca q0 q1 u v)[54]? = some (adF q0 q1 u v 42, ceOf (adF q0 q1 u v) ca WS mm0 42) := by rfl
theorem as_43 : (wB D ca q0 q1 u v)[56]? = some (adF q0 q1 u v 43, ceOf (adF q0 q1 u v) ca WS mm0 43) := by rfl
theorem as_44 : (wB D ca q0 q1 u v)[47]? = some (adF q0 q1 u v 44, ceOf (adF q0 q1 u v) ca WS mm0 44) := by rfl
theorem as_45 : (wB D ca q0 q1 u v)[49]? = some (adF q0 q1 u v 45, ceOf (adF q0 q1 u v) ca WS mm0 45) := by rfl
theorem as_46 : (wB D ca q0 q1 u v)[51]? = some (adF q0 q1 u v 46, ceOf (adF q0 q1 u v) ca WS mm0 46) := by rfl
theorem as_47 : (wB D ca q0 q1 u v)[53]? = some (adF q0 q1 u v 47, ceOf (adF q0 q1 u v) ca WS mm0 47) := by rfl
theorem as_48 : (wB D ca q0 q1 u v)[55]? = some (adF q0 q1 u v 48, ceOf (adF q0 q1 u v) ca WS mm0 48) := by rfl
theorem as_49 : (wB D ca q0 q1 u v)[57]? = some (adF q0 q1 u v 49, ceOf (adF q0 q1 u v) ca WS mm0 49) := by rfl
theorem as_50 : (wB D ca q0 q1 u v)[15]? = some (adF q0 q1 u v 50, ceOf (adF q0 q1 u v) ca WS mm0 50) := by rfl
theorem as_51 : (wB D ca q0 q1 u v)[16]? = some (adF q0 q1 u v 51, ceOf (adF q0 q1 u v) ca WS mm0 51) := by rfl
theorem as_52 : (wB D ca q0 q1 u v)[17]? = some (adF q0 q1 u v 52, ceOf (adF q0 q1 u v) ca WS mm0 52) := by rfl
theorem as_53 : (wB D ca q0 q1 u v)[18]? = some (adF q0 q1 u v 53, ceOf (adF q0 q1 u v) ca WS mm0 53) := by rfl
theorem as_54 : (wB D ca q0 q1 u v)[21]? = some (adF q0 q1 u v 54, ceOf (adF q0 q1 u v) ca WS mm0 54) := by rfl
theorem as_55 : (wB D ca q0 q1 u v)[22]? = some (adF q0 q1 u v 55, ceOf (adF q0 q1 u v) ca WS mm0 55) := by rfl
theorem as_56 : (wB D ca q0 q1 u v)[23]? = some (adF q0 q1 u v 56, ceOf (adF q0 q1 u v) ca WS mm0 56) := by rfl
theorem as_57 : (wB D ca q0 q1 u v)[24]? = some (adF q0 q1 u v 57, ceOf (adF q0 q1 u v) ca WS mm0 57) := by rfl
theorem as_58 : (wB D ca q0 q1 u v)[58]? = some (adF q0 q1 u v 58, ceOf (adF q0 q1 u v) ca WS mm0 58) := by rfl
theorem as_59 : (wB D ca q0 q1 u v)[59]? = some (adF q0 q1 u v 59, ceOf (adF q0 q1 u v) ca WS mm0 59) := by rfl
theorem as_60 : (wB D ca q0 q1 u v)[60]? = some (adF q0 q1 u v 60, ceOf (adF q0 q1 u v) ca WS mm0 60) := by rfl
theorem as_61 : (wB D ca q0 q1 u v)[61]? = some (adF q0 q1 u v 61, ceOf (adF q0 q1 u v) ca WS mm0 61) := by rfl
theorem as_62 : (wB D ca q0 q1 u v)[62]? = some (adF q0 q1 u v 62, ceOf (adF q0 q1 u v) ca WS mm0 62) := by rfl
theorem as_63 : (wB D ca q0 q1 u v)[63]? = some (adF q0 q1 u v 63, ceOf (adF q0 q1 u v) ca WS mm0 63) := by rfl
theorem as_64 : (wB D ca q0 q1 u v)[64]? = some (adF q0 q1 u v 64, ceOf (adF q0 q1 u v) ca WS mm0 64) := by rfl
theorem as_65 : (wB D ca q0 q1 u v)[65]? = some (adF q0 q1 u v 65, ceOf (adF q0 q1 u v) ca WS mm0 65) := by rfl
theorem as_66 : (wB D ca q0 q1 u v)[66]? = some (adF q0 q1 u v 66, ceOf (adF q0 q1 u v) ca WS mm0 66) := by rfl
theorem as_67 : (wB D ca q0 q1 u v)[67]? = some (adF q0 q1 u v 67, ceOf (adF q0 q1 u v) ca WS mm0 67) := by rfl
theorem as_68 : (wB D ca q0 q1 u v)[68]? = some (adF q0 q1 u v 68, ceOf (adF q0 q1 u v) ca WS mm0 68) := by rfl
theorem as_69 : (wB D ca q0 q1 u v)[69]? = some (adF q0 q1 u v 69, ceOf (adF q0 q1 u v) ca WS mm0 69) := by rfl
theorem as_70 : (wB D ca q0 q1 u v)[70]? = some (adF q0 q1 u v 70, ceOf (adF q0 q1 u v) ca WS mm0 70) := by rfl
theorem as_71 : (wB D ca q0 q1 u v)[71]? = some (adF q0 q1 u v 71, ceOf (adF q0 q1 u v) ca WS mm0 71) := by rfl
theorem as_72 : (wB D ca q0 q1 u v)[72]? = some (adF q0 q1 u v 72, ceOf (adF q0 q1 u v) ca WS mm0 72) := by rfl
theorem as_73 : (wB D ca q0 q1 u v)[73]? = some (adF q0 q1 u v 73, ceOf (adF q0 q1 u v) ca WS mm0 73) := by rfl
theorem as_74 : (wB D ca q0 q1 u v)[74]? = some (adF q0 q1 u v 74, ceOf (adF q0 q1 u v) ca WS mm0 74) := by rfl
theorem as_75 : (wB D ca q0 q1 u v)[75]? = some (adF q0 q1 u v 75, ceOf (adF q0 q1 u v) ca WS mm0 75) := by rfl
theorem as_76 : (wB D ca q0 q1 u v)[76]? = some (adF q0 q1 u v 76, ceOf (adF q0 q1 u v) ca WS mm0 76) := by rfl
theorem as_77 : (wB D ca q0 q1 u v)[77]? = some (adF q0 q1 u v 77, ceOf (adF q0 q1 u v) ca WS mm0 77) := by rfl
theorem as_78 : (wB D ca q0 q1 u v)[78]? = some (adF q0 q1 u v 78, ceOf (adF q0 q1 u v) ca WS mm0 78) := by rfl
theorem as_79 : (wB D ca q0 q1 u v)[79]? = some (adF q0 q1 u v 79, ceOf (adF q0 q1 u v) ca WS mm0 79) := by rfl
theorem as_80 : (wB D ca q0 q1 u v)[80]? = some (adF q0 q1 u v 80, ceOf (adF q0 q1 u v) ca WS mm0 80) := by rfl
theorem as_81 : (wB D ca q0 q1 u v)[81]? = some (adF q0 q1 u v 81, ceOf (adF q0 q1 u v) ca WS mm0 81) := by rfl
theorem as_82 : (wB D ca q0 q1 u v)[82]? = some (adF q0 q1 u v 82, ceOf (adF q0 q1 u v) ca WS mm0 82) := by rfl
theorem va_up_hi {i : Nat} {a b c d e f : Option Nat} (h : 6 ≤ i) : (va_up (va_up (va_up (va_up (va_up (va_up (fun _ => none) (Int32.toNatClampNeg 0) a) (Int32.toNatClampNeg 1) b) (Int32.toNatClampNeg 2) c) (Int32.toNatClampNeg 3) d) (Int32.toNatClampNeg 4) e) (Int32.toNatClampNeg 5) f) i = none := by
  have e : ∀ x : Nat, x < 6 → ¬ i = x := fun x hx => by omega
  unfold va_up
  simp [Int32.toNatClampNeg, e]
theorem as_2 : (wB D ca q0 q1 u v)[2]? = some (adF q0 q1 u v 2, ceOf (adF q0 q1 u v) ca WS mm0 2) := by
  have e : (fun i : Nat => if i < 11 then some (adF q0 q1 u v (3 + i)) else none) = (fun i => if i < 11 then some ((u 1) + 1 + i) else none) := by
    funext i
    by_cases h : i < 11
    · rcases (by omega : i = 0 ∨ i = 1 ∨ i = 2 ∨ i = 3 ∨ i = 4 ∨ i = 5 ∨ i = 6 ∨ i = 7 ∨ i = 8 ∨ i = 9 ∨ i = 10) with e | e | e | e | e | e | e | e | e | e | e <;> subst e <;> rfl
    · rw [if_neg h, if_neg h]
  show some (_, _) = some (_, Sum.inl (ca 5, 11, Sum.inr (Sum.inr (Sum.inr (Sum.inr (fun i : Nat => if i < 11 then some (adF q0 q1 u v (3 + i)) else none))))))
  rw [e]; rfl
theorem as_37 : (wB D ca q0 q1 u v)[45]? = some (adF q0 q1 u v 37, ceOf (adF q0 q1 u v) ca WS mm0 37) := by
  have e : (fun i : Nat => if i < 6 then some (adF q0 q1 u v (38 + i)) else none) = (va_up (va_up (va_up (va_up (va_up (va_up (fun _ => none) (Int32.toNatClampNeg 0) (some (u 34))) (Int32.toNatClampNeg 1) (some (u 36))) (Int32.toNatClampNeg 2) (some (u 38))) (Int32.toNatClampNeg 3) (some (u 40))) (Int32.toNatClampNeg 4) (some (u 42))) (Int32.toNatClampNeg 5) (some (u 44))) := by
    funext i
    by_cases h : i < 6
    · rcases (by omega : i = 0 ∨ i = 1 ∨ i = 2 ∨ i = 3 ∨ i = 4 ∨ i = 5) with e | e | e | e | e | e <;> subst e <;> rfl
    · rw [if_neg h, va_up_hi (by omega)]
  show some (_, _) = some (_, Sum.inl (ca 4, 6, Sum.inr (Sum.inr (Sum.inr (Sum.inr (fun i : Nat => if i < 6 then some (adF q0 q1 u v (38 + i)) else none))))))
  rw [e]; rfl
theorem as_all : ∀ o : Nat, o < 83 → (wB D ca q0 q1 u v)[plc0.getD o 0]? = some (adF q0 q1 u v o, ceOf (adF q0 q1 u v) ca WS mm0 o)
  | 0, _ => as_0
  | 1, _ => as_1
  | 2, _ => as_2
  | 3, _ => as_3
  | 4, _ => as_4
  | 5, _ => as_5
  | 6, _ => as_6
  | 7, _ => as_7
  | 8, _ => as_8
  | 9, _ => as_9
  | 10, _ => as_10
  | 11, _ => as_11
  | 12, _ => as_12
  | 13, _ => as_13
  | 14, _ => as_14
  | 15, _ => as_15
  | 16, _ => as_16
  | 17, _ => as_17
  | 18, _ => as_18
  | 19, _ => as_19
  | 20, _ => as_20
  | 21, _ => as_21
  | 22, _ => as_22
  | 23, _ => as_23
  | 24, _ => as_24
  | 25, _ => as_25
  | 26, _ => as_26
  | 27, _ => as_27
  | 28, _ => as_28
  | 29, _ => as_29
  | 30, _ => as_30
  | 31, _ => as_31
  | 32, _ => as_32
  | 33, _ => as_33
  | 34, _ => as_34
  | 35, _ => as_35
  | 36, _ => as_36
  | 37, _ => as_37
  | 38, _ => as_38
  | 39, _ => as_39
  | 40, _ => as_40
  | 41, _ => as_41
  | 42, _ => as_42
  | 43, _ => as_43
  | 44, _ => as_44
  | 45, _ => as_45
  | 46, _ => as_46
  | 47, _ => as_47
  | 48, _ => as_48
  | 49, _ => as_49
  | 50, _ => as_50
  | 51, _ => as_51
  | 52, _ => as_52
  | 53, _ => as_53
  | 54, _ => as_54
  | 55, _ => as_55
  | 56, _ => as_56
  | 57, _ => as_57
  | 58, _ => as_58
  | 59, _ => as_59
  | 60, _ => as_60
  | 61, _ => as_61
  | 62, _ => as_62
  | 63, _ => as_63
  | 64, _ => as_64
  | 65, _ => as_65
  | 66, _ => as_66
  | 67, _ => as_67
  | 68, _ => as_68
  | 69, _ => as_69
  | 70, _ => as_70
  | 71, _ => as_71
  | 72, _ => as_72
  | 73, _ => as_73
  | 74, _ => as_74
  | 75, _ => as_75
  | 76, _ => as_76
  | 77, _ => as_77
  | 78, _ => as_78
  | 79, _ => as_79
  | 80, _ => as_80
  | 81, _ => as_81
  | 82, _ => as_82
  | n + 83, h => absurd h (by omega)
theorem plc_inv : ∀ o : Fin 83, plcI.getD (plc0.getD o.val 0) 0 = o.val := by decide
theorem asm {A : Nat → Prop} {s : State} {H : Heap} {locs : List Loc} (hH : Hy D A s (wB D ca q0 q1 u v) H locs) : Hx WN (adF q0 q1 u v) ca WS D A s.heap mm0 H locs := by
  obtain ⟨hP, hD, hS⟩ := hH
  have key : ∀ (k : Nat) (x : Nat × va_E), (wld WN (adF q0 q1 u v) ca WS mm0)[k]? = some x → k < 83 ∧ (wB D ca q0 q1 u v)[plc0.getD k 0]? = some x := fun k x hx => by
    by_cases hk : k < WN
    · rw [wld_get hk] at hx
      cases hx
      exact ⟨hk, as_all k hk⟩
    · simp [wld, hk] at hx
  refine ⟨fun k x hx => hP _ x (key k x hx).2, ⟨fun i j x y hi hj hxy => ?_, fun k x hx => hD.2 _ x (key k x hx).2⟩, hS⟩
  obtain ⟨hi1, hi2⟩ := key i x hi
  obtain ⟨hj1, hj2⟩ := key j y hj
  have e := hD.1 _ _ x y hi2 hj2 hxy
  have p1 : plcI.getD (plc0.getD i 0) 0 = i := plc_inv ⟨i, hi1⟩
  have p2 : plcI.getD (plc0.getD j 0) 0 = j := plc_inv ⟨j, hj1⟩
  rw [← p1, e, p2]
end ASM
