/-! ===== what each method answers and leaves, as the listing has it (laid by wip/whole/gen.py) ===== -/
def DX7_holds_14 (mm : Mm) : Option (Int32 × Mm) :=
  some (0, mm)
def DX7_holds_57 (s0 : Int32) (s1 : Int32) (mm : Mm) : Option (Int32 × Mm) :=
  (if s0 ≤ s1 then some (0, mm) else some (1, mm))
def DX7_holds_53 (s0 : Int32) (mm : Mm) : Option (Int32 × Mm) :=
  DX7_holds_57 (gI mm 1 2) s0 mm
def dX7_holds (v1 : Int32) (v2 : Int32) (mm : Mm) : Option (Int32 × Mm) :=
  (if v1 < 0 then DX7_holds_14 mm else (if 10 < v1 then DX7_holds_14 mm else (if 0 ≤ v2 then (if 4 ≤ v1 then (if v1 < 6 then DX7_holds_53 v2 mm else (if 8 < v1 then DX7_holds_53 v2 mm else DX7_holds_57 (gI mm 1 3) v2 mm)) else (if 6 ≤ v2 then some (0, mm) else some (1, mm))) else DX7_holds_14 mm)))
def dX7_addSack (v1 : Int32) (v2 : Int32) (mm : Mm) : Option (Int32 × Mm) :=
  (if (gI mm 1 2) < 10 then (if inB (gI mm 1 2) 10 then (if inB (gI mm 1 2) 10 then (if inB (gI mm 1 2) 10 then (if inB (gI mm 1 2) 10 then some ((gI mm 1 2), (sI (sI (sI (sI (sI mm 1 2 ((gI mm 1 2) + 1)) 7 (Int32.toNatClampNeg (gI mm 1 2)) v1) 8 (Int32.toNatClampNeg (gI mm 1 2)) v2) 12 (Int32.toNatClampNeg (gI mm 1 2)) (-1)) 13 (Int32.toNatClampNeg (gI mm 1 2)) 0)) else none) else none) else none) else none) else some ((-3), mm))
def dX9_sack (v1 : Int32) (mm : Mm) : Option (Int32 × Mm) :=
  ((dX7_holds 0 v1 mm).bind fun q6 => (if q6.1 = 0 then some ((-1), q6.2) else ((dX7_addSack v1 10 q6.2).bind fun q21 => some (q21.1, q21.2))))
def DX10_within_17 (mm : Mm) : Option (Int32 × Mm) :=
  some (0, mm)
def dX10_within (v0 : Int64) (v2 : Int64) (v4 : Int64) (mm : Mm) : Option (Int32 × Mm) :=
  (if v0 < v2 then DX10_within_17 mm else (if v4 < v0 then DX10_within_17 mm else some (1, mm)))
def dX10_isGood (v0 : Int64) (mm : Mm) : Option (Int32 × Mm) :=
  ((dX10_within v0 0 5 mm).bind fun q5 => some (q5.1, q5.2))
def dX10_adds (v1 : Int32) (v2 : Int32) (mm : Mm) : Option (Unit × Mm) :=
  (if inB (24 + (gI mm 58 6)) 62 then (if inB (34 + (gI (sI mm 59 (Int32.toNatClampNeg (24 + (gI mm 58 6))) v1) 58 6)) 62 then (if inB (gI (sI (sI mm 59 (Int32.toNatClampNeg (24 + (gI mm 58 6))) v1) 59 (Int32.toNatClampNeg (34 + (gI (sI mm 59 (Int32.toNatClampNeg (24 + (gI mm 58 6))) v1) 58 6))) v2) 58 6) 10 then some ((), (sI (sI (sI (sI mm 59 (Int32.toNatClampNeg (24 + (gI mm 58 6))) v1) 59 (Int32.toNatClampNeg (34 + (gI (sI mm 59 (Int32.toNatClampNeg (24 + (gI mm 58 6))) v1) 58 6))) v2) 63 (Int32.toNatClampNeg (gI (sI (sI mm 59 (Int32.toNatClampNeg (24 + (gI mm 58 6))) v1) 59 (Int32.toNatClampNeg (34 + (gI (sI mm 59 (Int32.toNatClampNeg (24 + (gI mm 58 6))) v1) 58 6))) v2) 58 6)) (-1)) 58 6 ((gI (sI (sI (sI mm 59 (Int32.toNatClampNeg (24 + (gI mm 58 6))) v1) 59 (Int32.toNatClampNeg (34 + (gI (sI mm 59 (Int32.toNatClampNeg (24 + (gI mm 58 6))) v1) 58 6))) v2) 63 (Int32.toNatClampNeg (gI (sI (sI mm 59 (Int32.toNatClampNeg (24 + (gI mm 58 6))) v1) 59 (Int32.toNatClampNeg (34 + (gI (sI mm 59 (Int32.toNatClampNeg (24 + (gI mm 58 6))) v1) 58 6))) v2) 58 6)) (-1)) 58 6) + 1))) else none) else none) else none)
def dX10_sack (v1 : Int32) (mm : Mm) : Option (Int32 × Mm) :=
  ((dX10_isGood (Int32.toInt64 v1) mm).bind fun q2 => (if q2.1 = 0 then some ((-1), q2.2) else (if (gI q2.2 58 6) = 10 then some ((-3), q2.2) else ((dX10_adds v1 10 q2.2).bind fun q26 => some (((gI q26.2 58 6) - 1), q26.2)))))
def DX9_isShelf_14 (mm : Mm) : Option (Int32 × Mm) :=
  some (0, mm)
def dX9_isShelf (v0 : Int32) (mm : Mm) : Option (Int32 × Mm) :=
  (if v0 < 0 then DX9_isShelf_14 mm else (if 6 ≤ v0 then DX9_isShelf_14 mm else some (1, mm)))
def DX8_bytesRefusal_29 (mm : Mm) : Option (Int32 × Mm) :=
  some ((-12), mm)
def dX8_bytesRefusal (v0 : Nat) (mm : Mm) : Option (Int32 × Mm) :=
  (if 38 ≤ v0 ∧ v0 < 44 then (if (gI mm v0 1) = 0 then some ((-11), mm) else (if (gI mm v0 1) = 2 then (if (gI mm v0 3) = 0 then some (0, mm) else DX8_bytesRefusal_29 mm) else DX8_bytesRefusal_29 mm)) else none)
def DX8_hasPlaces_30 (mm : Mm) : Option (Int32 × Mm) :=
  some (0, mm)
def dX8_hasPlaces (v0 : Nat) (v1 : Int32) (v2 : Int32) (mm : Mm) : Option (Int32 × Mm) :=
  (if 38 ≤ v0 ∧ v0 < 44 then (if v1 < 0 then DX8_hasPlaces_30 mm else (if v2 < 0 then DX8_hasPlaces_30 mm else (if (gI mm v0 4) < v2 then DX8_hasPlaces_30 mm else (if ((gI mm v0 4) - v2) < v1 then DX8_hasPlaces_30 mm else some (1, mm))))) else none)
def dX8_byteAt (v0 : Nat) (v1 : Int32) (mm : Mm) : Option (Int32 × Mm) :=
  (if 38 ≤ v0 ∧ v0 < 44 then ((dX8_hasPlaces v0 v1 1 mm).bind fun q3 => (if q3.1 = 0 then some ((-1000), q3.2) else (if inB v1 60 then some ((Int64.toInt32 (gL q3.2 (v0 + 6) (Int32.toNatClampNeg v1))), q3.2) else none))) else none)
def DX9_within_34 (mm : Mm) : Option (Int32 × Mm) :=
  some (0, mm)
def dX9_within (v0 : Int32) (v1 : Int32) (mm : Mm) : Option (Int32 × Mm) :=
  (if v0 < 0 then DX9_within_34 mm else (if 9 ≤ v0 then DX9_within_34 mm else (if inB v0 9 then (if v1 < (tbLEAST (Int32.toNatClampNeg v0)) then DX9_within_34 mm else (if inB v0 9 then (if (tbMOST (Int32.toNatClampNeg v0)) < v1 then DX9_within_34 mm else some (1, mm)) else none)) else none)))
def DX9_cameFrom_49 (mm : Mm) : Option (Int32 × Mm) :=
  some (0, mm)
def dX9_cameFrom (v1 : Nat) (v2 : Int32) (mm : Mm) : Option (Int32 × Mm) :=
  (if 38 ≤ v1 ∧ v1 < 44 then ((dX8_byteAt v1 v2 mm).bind fun q2 => ((dX8_byteAt v1 (v2 + 1) q2.2).bind fun q10 => ((dX9_within 4 q2.1 q10.2).bind fun q17 => (if q17.1 = 0 then DX9_cameFrom_49 q17.2 else ((dX9_within 5 q10.1 q17.2).bind fun q26 => (if q26.1 = 0 then DX9_cameFrom_49 q26.2 else ((dX7_addSack q2.1 q10.1 q26.2).bind fun q39 => (if q39.1 < 0 then DX9_cameFrom_49 q39.2 else some (1, q39.2))))))))) else none)
def DX9_sacks_18 (mm : Mm) : Option (Int32 × Mm) :=
  some ((-1), mm)
def DX9_sacks_82 (v5 : Int32) (mm : Mm) : Option (Int32 × Mm) :=
  some (v5, mm)
def BX9_sacks_51 (k51 : Int32 → Int32 → Int32 → Int32 → Mm → Option (Int32 × Mm)) (v1 : Int32) (v2 : Int32) (v3 : Int32) (v5 : Int32) (mm : Mm) : Option (Int32 × Mm) :=
  (if v3 ≤ v5 then DX9_sacks_82 v5 mm else (if inB v1 6 then ((dX9_cameFrom (38 + (Int32.toNatClampNeg v1)) (v2 + (2 * v5)) mm).bind fun q70 => (if q70.1 = 0 then DX9_sacks_82 v5 q70.2 else k51 v1 v2 v3 (v5 + 1) q70.2)) else none))
def DX9_sacks_51 : Nat → Int32 → Int32 → Int32 → Int32 → Mm → Option (Int32 × Mm)
  | 0, _, _, _, _, _ => none
  | n + 1, v1, v2, v3, v5, mm => BX9_sacks_51 (DX9_sacks_51 n) v1 v2 v3 v5 mm
def dX9_sacks (v1 : Int32) (v2 : Int32) (v3 : Int32) (mm : Mm) : Option (Int32 × Mm) :=
  ((dX9_isShelf v1 mm).bind fun q1 => (if q1.1 = 0 then DX9_sacks_18 q1.2 else (if v3 < 1 then DX9_sacks_18 q1.2 else (if v3 ≤ 10 then (if inB v1 6 then ((dX8_bytesRefusal (38 + (Int32.toNatClampNeg v1)) q1.2).bind fun q26 => (if q26.1 = (-11) then some (0, q26.2) else (if q26.1 = 0 then DX9_sacks_51 FU v1 v2 v3 0 q26.2 else some (q26.1, q26.2)))) else none) else DX9_sacks_18 q1.2))))
def dX10_isShelf (v0 : Int32) (mm : Mm) : Option (Int32 × Mm) :=
  ((dX10_within (Int32.toInt64 v0) 0 5 mm).bind fun q6 => some (q6.1, q6.2))
def DX10_sacks_19 (mm : Mm) : Option (Int32 × Mm) :=
  some ((-1), mm)
def DX10_sacks_203 (v4 : Int32) (mm : Mm) : Option (Int32 × Mm) :=
  some (v4, mm)
def DX10_sacks_200 (k69 : Int32 → Int32 → Int32 → Int32 → Int32 → Mm → Option (Int32 × Mm)) (v1 : Int32) (v2 : Int32) (v3 : Int32) (v4 : Int32) (v5 : Int32) (mm : Mm) : Option (Int32 × Mm) :=
  k69 v1 v2 v3 v4 v5 mm
def DX10_sacks_168 (k69 : Int32 → Int32 → Int32 → Int32 → Int32 → Mm → Option (Int32 × Mm)) (v1 : Int32) (v2 : Int32) (v3 : Int32) (v4 : Int32) (v6 : Int32) (s0 : Int32) (mm : Mm) : Option (Int32 × Mm) :=
  (if s0 = 0 then DX10_sacks_200 k69 v1 v2 v3 v4 s0 mm else (if inB v6 360 then (if inB (v6 + 1) 360 then ((dX10_adds (Int64.toInt32 (gL mm 81 (Int32.toNatClampNeg v6))) (Int64.toInt32 (gL mm 81 (Int32.toNatClampNeg (v6 + 1)))) mm).bind fun q194 => DX10_sacks_200 k69 v1 v2 v3 (v4 + 1) s0 q194.2) else none) else none))
def DX10_sacks_167 (k69 : Int32 → Int32 → Int32 → Int32 → Int32 → Mm → Option (Int32 × Mm)) (v1 : Int32) (v2 : Int32) (v3 : Int32) (v4 : Int32) (v6 : Int32) (mm : Mm) : Option (Int32 × Mm) :=
  DX10_sacks_168 k69 v1 v2 v3 v4 v6 0 mm
def DX10_sacks_111 (k69 : Int32 → Int32 → Int32 → Int32 → Int32 → Mm → Option (Int32 × Mm)) (v1 : Int32) (v2 : Int32) (v3 : Int32) (v4 : Int32) (s0 : Int32) (mm : Mm) : Option (Int32 × Mm) :=
  (if s0 = 0 then DX10_sacks_167 k69 v1 v2 v3 v4 (((60 * v1) + v2) + (2 * v4)) mm else (if inB (((60 * v1) + v2) + (2 * v4)) 360 then ((dX10_isGood (gL mm 81 (Int32.toNatClampNeg (((60 * v1) + v2) + (2 * v4)))) mm).bind fun q138 => (if q138.1 = 0 then DX10_sacks_167 k69 v1 v2 v3 v4 (((60 * v1) + v2) + (2 * v4)) q138.2 else (if inB ((((60 * v1) + v2) + (2 * v4)) + 1) 360 then ((dX10_within (gL q138.2 81 (Int32.toNatClampNeg ((((60 * v1) + v2) + (2 * v4)) + 1))) 0 99 q138.2).bind fun q157 => (if q157.1 = 0 then DX10_sacks_167 k69 v1 v2 v3 v4 (((60 * v1) + v2) + (2 * v4)) q157.2 else DX10_sacks_168 k69 v1 v2 v3 v4 (((60 * v1) + v2) + (2 * v4)) 1 q157.2)) else none))) else none))
def DX10_sacks_110 (k69 : Int32 → Int32 → Int32 → Int32 → Int32 → Mm → Option (Int32 × Mm)) (v1 : Int32) (v2 : Int32) (v3 : Int32) (v4 : Int32) (mm : Mm) : Option (Int32 × Mm) :=
  DX10_sacks_111 k69 v1 v2 v3 v4 0 mm
def BX10_sacks_69 (k69 : Int32 → Int32 → Int32 → Int32 → Int32 → Mm → Option (Int32 × Mm)) (v1 : Int32) (v2 : Int32) (v3 : Int32) (v4 : Int32) (v5 : Int32) (mm : Mm) : Option (Int32 × Mm) :=
  (if v5 = 0 then DX10_sacks_203 v4 mm else (if v3 ≤ v4 then DX10_sacks_203 v4 mm else (if inB v1 6 then (if (((gI mm 80 (Int32.toNatClampNeg v1)) - 2) - (2 * v4)) < v2 then DX10_sacks_110 k69 v1 v2 v3 v4 mm else (if 10 ≤ (gI mm 58 6) then DX10_sacks_110 k69 v1 v2 v3 v4 mm else DX10_sacks_111 k69 v1 v2 v3 v4 1 mm)) else none)))
def DX10_sacks_69 : Nat → Int32 → Int32 → Int32 → Int32 → Int32 → Mm → Option (Int32 × Mm)
  | 0, _, _, _, _, _, _ => none
  | n + 1, v1, v2, v3, v4, v5, mm => BX10_sacks_69 (DX10_sacks_69 n) v1 v2 v3 v4 v5 mm
def DX10_sacks_67 (v1 : Int32) (v2 : Int32) (v3 : Int32) (v4 : Int32) (s0 : Int32) (mm : Mm) : Option (Int32 × Mm) :=
  DX10_sacks_69 FU v1 v2 v3 v4 s0 mm
def DX10_sacks_66 (v1 : Int32) (v2 : Int32) (v3 : Int32) (v4 : Int32) (mm : Mm) : Option (Int32 × Mm) :=
  DX10_sacks_67 v1 v2 v3 v4 0 mm
def DX10_sacks_44 (v1 : Int32) (v2 : Int32) (v3 : Int32) (mm : Mm) : Option (Int32 × Mm) :=
  (if inB v1 6 then (if (gI mm 79 (Int32.toNatClampNeg v1)) = 50 then (if v2 < 0 then DX10_sacks_66 v1 v2 v3 0 mm else DX10_sacks_67 v1 v2 v3 0 1 mm) else DX10_sacks_66 v1 v2 v3 0 mm) else none)
def dX10_sacks (v1 : Int32) (v2 : Int32) (v3 : Int32) (mm : Mm) : Option (Int32 × Mm) :=
  ((dX10_isShelf v1 mm).bind fun q1 => (if q1.1 = 0 then DX10_sacks_19 q1.2 else ((dX10_within (Int32.toInt64 v3) 1 10 q1.2).bind fun q13 => (if q13.1 = 0 then DX10_sacks_19 q13.2 else (if inB v1 6 then (if (gI q13.2 79 (Int32.toNatClampNeg v1)) < 0 then DX10_sacks_44 v1 v2 v3 q13.2 else (if inB v1 6 then (if (gI q13.2 79 (Int32.toNatClampNeg v1)) = 50 then DX10_sacks_44 v1 v2 v3 q13.2 else some ((-12), q13.2)) else none)) else none)))))
def dX7_addBuyer (v1 : Int32) (v2 : Int32) (mm : Mm) : Option (Int32 × Mm) :=
  (if (gI mm 1 3) < 6 then (if inB (gI mm 1 3) 10 then (if inB (gI mm 1 3) 10 then (if inB (gI mm 1 3) 10 then some ((gI mm 1 3), (sI (sI (sI (sI mm 1 3 ((gI mm 1 3) + 1)) 9 (Int32.toNatClampNeg (gI mm 1 3)) v1) 10 (Int32.toNatClampNeg (gI mm 1 3)) v2) 11 (Int32.toNatClampNeg (gI mm 1 3)) 9)) else none) else none) else none) else some ((-3), mm))
def DX9_buyer_18 (mm : Mm) : Option (Int32 × Mm) :=
  some ((-1), mm)
def dX9_buyer (v1 : Int32) (v2 : Int32) (mm : Mm) : Option (Int32 × Mm) :=
  ((dX9_within 6 v1 mm).bind fun q3 => (if q3.1 = 0 then DX9_buyer_18 q3.2 else ((dX9_within 7 v2 q3.2).bind fun q12 => (if q12.1 = 0 then DX9_buyer_18 q12.2 else ((dX7_addBuyer v1 v2 q12.2).bind fun q26 => some (q26.1, q26.2))))))
def DX10_buyer_24 (mm : Mm) : Option (Int32 × Mm) :=
  some ((-1), mm)
def dX10_buyer (v1 : Int32) (v2 : Int32) (mm : Mm) : Option (Int32 × Mm) :=
  ((dX10_within (Int32.toInt64 v1) 0 999 mm).bind fun q6 => (if q6.1 = 0 then DX10_buyer_24 q6.2 else ((dX10_within (Int32.toInt64 v2) 0 6 q6.2).bind fun q18 => (if q18.1 = 0 then DX10_buyer_24 q18.2 else (if (gI q18.2 58 7) = 6 then some ((-3), q18.2) else (if inB (44 + (gI q18.2 58 7)) 62 then (if inB (50 + (gI (sI q18.2 59 (Int32.toNatClampNeg (44 + (gI q18.2 58 7))) v1) 58 7)) 62 then (if inB (56 + (gI (sI (sI q18.2 59 (Int32.toNatClampNeg (44 + (gI q18.2 58 7))) v1) 59 (Int32.toNatClampNeg (50 + (gI (sI q18.2 59 (Int32.toNatClampNeg (44 + (gI q18.2 58 7))) v1) 58 7))) v2) 58 7)) 62 then some (((gI (sI (sI (sI (sI q18.2 59 (Int32.toNatClampNeg (44 + (gI q18.2 58 7))) v1) 59 (Int32.toNatClampNeg (50 + (gI (sI q18.2 59 (Int32.toNatClampNeg (44 + (gI q18.2 58 7))) v1) 58 7))) v2) 59 (Int32.toNatClampNeg (56 + (gI (sI (sI q18.2 59 (Int32.toNatClampNeg (44 + (gI q18.2 58 7))) v1) 59 (Int32.toNatClampNeg (50 + (gI (sI q18.2 59 (Int32.toNatClampNeg (44 + (gI q18.2 58 7))) v1) 58 7))) v2) 58 7))) 9) 58 7 ((gI (sI (sI (sI q18.2 59 (Int32.toNatClampNeg (44 + (gI q18.2 58 7))) v1) 59 (Int32.toNatClampNeg (50 + (gI (sI q18.2 59 (Int32.toNatClampNeg (44 + (gI q18.2 58 7))) v1) 58 7))) v2) 59 (Int32.toNatClampNeg (56 + (gI (sI (sI q18.2 59 (Int32.toNatClampNeg (44 + (gI q18.2 58 7))) v1) 59 (Int32.toNatClampNeg (50 + (gI (sI q18.2 59 (Int32.toNatClampNeg (44 + (gI q18.2 58 7))) v1) 58 7))) v2) 58 7))) 9) 58 7) + 1)) 58 7) - 1), (sI (sI (sI (sI q18.2 59 (Int32.toNatClampNeg (44 + (gI q18.2 58 7))) v1) 59 (Int32.toNatClampNeg (50 + (gI (sI q18.2 59 (Int32.toNatClampNeg (44 + (gI q18.2 58 7))) v1) 58 7))) v2) 59 (Int32.toNatClampNeg (56 + (gI (sI (sI q18.2 59 (Int32.toNatClampNeg (44 + (gI q18.2 58 7))) v1) 59 (Int32.toNatClampNeg (50 + (gI (sI q18.2 59 (Int32.toNatClampNeg (44 + (gI q18.2 58 7))) v1) 58 7))) v2) 58 7))) 9) 58 7 ((gI (sI (sI (sI q18.2 59 (Int32.toNatClampNeg (44 + (gI q18.2 58 7))) v1) 59 (Int32.toNatClampNeg (50 + (gI (sI q18.2 59 (Int32.toNatClampNeg (44 + (gI q18.2 58 7))) v1) 58 7))) v2) 59 (Int32.toNatClampNeg (56 + (gI (sI (sI q18.2 59 (Int32.toNatClampNeg (44 + (gI q18.2 58 7))) v1) 59 (Int32.toNatClampNeg (50 + (gI (sI q18.2 59 (Int32.toNatClampNeg (44 + (gI q18.2 58 7))) v1) 58 7))) v2) 58 7))) 9) 58 7) + 1))) else none) else none) else none))))))
def dX7_told (v1 : Int32) (v2 : Int32) (mm : Mm) : Option (Int32 × Mm) :=
  ((dX7_holds v1 v2 mm).bind fun q3 => (if q3.1 = 0 then some (0, q3.2) else (if inB v1 11 then (if inB v2 10 then some ((gI q3.2 (3 + (Int32.toNatClampNeg v1)) (Int32.toNatClampNeg v2)), q3.2) else none) else none)))
def dX7_set (v1 : Int32) (v2 : Int32) (v3 : Int32) (mm : Mm) : Option (Unit × Mm) :=
  ((dX7_holds v1 v2 mm).bind fun q3 => (if q3.1 = 0 then some ((), q3.2) else (if inB v1 11 then (if inB v2 10 then some ((), (sI q3.2 (3 + (Int32.toNatClampNeg v1)) (Int32.toNatClampNeg v2) v3)) else none) else none)))
def dX1_forgetFirst (mm : Mm) : Option (Unit × Mm) :=
  some ((), (sI (cpI (cpI (cpI (cpI mm 30 30 1 0 39) 31 31 1 0 39) 32 32 1 0 39) 33 33 1 0 39) 29 4 39))
def DX1_note_13 (v1 : Int32) (v2 : Int32) (v3 : Int32) (v4 : Int32) (mm : Mm) : Option (Unit × Mm) :=
  (if inB (gI mm 29 4) 40 then (if inB (gI (sI mm 30 (Int32.toNatClampNeg (gI mm 29 4)) v1) 29 4) 40 then (if inB (gI (sI (sI mm 30 (Int32.toNatClampNeg (gI mm 29 4)) v1) 31 (Int32.toNatClampNeg (gI (sI mm 30 (Int32.toNatClampNeg (gI mm 29 4)) v1) 29 4)) v2) 29 4) 40 then (if inB (gI (sI (sI (sI mm 30 (Int32.toNatClampNeg (gI mm 29 4)) v1) 31 (Int32.toNatClampNeg (gI (sI mm 30 (Int32.toNatClampNeg (gI mm 29 4)) v1) 29 4)) v2) 32 (Int32.toNatClampNeg (gI (sI (sI mm 30 (Int32.toNatClampNeg (gI mm 29 4)) v1) 31 (Int32.toNatClampNeg (gI (sI mm 30 (Int32.toNatClampNeg (gI mm 29 4)) v1) 29 4)) v2) 29 4)) v3) 29 4) 40 then some ((), (sI (sI (sI (sI (sI (sI mm 30 (Int32.toNatClampNeg (gI mm 29 4)) v1) 31 (Int32.toNatClampNeg (gI (sI mm 30 (Int32.toNatClampNeg (gI mm 29 4)) v1) 29 4)) v2) 32 (Int32.toNatClampNeg (gI (sI (sI mm 30 (Int32.toNatClampNeg (gI mm 29 4)) v1) 31 (Int32.toNatClampNeg (gI (sI mm 30 (Int32.toNatClampNeg (gI mm 29 4)) v1) 29 4)) v2) 29 4)) v3) 33 (Int32.toNatClampNeg (gI (sI (sI (sI mm 30 (Int32.toNatClampNeg (gI mm 29 4)) v1) 31 (Int32.toNatClampNeg (gI (sI mm 30 (Int32.toNatClampNeg (gI mm 29 4)) v1) 29 4)) v2) 32 (Int32.toNatClampNeg (gI (sI (sI mm 30 (Int32.toNatClampNeg (gI mm 29 4)) v1) 31 (Int32.toNatClampNeg (gI (sI mm 30 (Int32.toNatClampNeg (gI mm 29 4)) v1) 29 4)) v2) 29 4)) v3) 29 4)) v4) 29 4 ((gI (sI (sI (sI (sI mm 30 (Int32.toNatClampNeg (gI mm 29 4)) v1) 31 (Int32.toNatClampNeg (gI (sI mm 30 (Int32.toNatClampNeg (gI mm 29 4)) v1) 29 4)) v2) 32 (Int32.toNatClampNeg (gI (sI (sI mm 30 (Int32.toNatClampNeg (gI mm 29 4)) v1) 31 (Int32.toNatClampNeg (gI (sI mm 30 (Int32.toNatClampNeg (gI mm 29 4)) v1) 29 4)) v2) 29 4)) v3) 33 (Int32.toNatClampNeg (gI (sI (sI (sI mm 30 (Int32.toNatClampNeg (gI mm 29 4)) v1) 31 (Int32.toNatClampNeg (gI (sI mm 30 (Int32.toNatClampNeg (gI mm 29 4)) v1) 29 4)) v2) 32 (Int32.toNatClampNeg (gI (sI (sI mm 30 (Int32.toNatClampNeg (gI mm 29 4)) v1) 31 (Int32.toNatClampNeg (gI (sI mm 30 (Int32.toNatClampNeg (gI mm 29 4)) v1) 29 4)) v2) 29 4)) v3) 29 4)) v4) 29 4) + 1)) 29 5 (gI (sI (sI (sI (sI (sI mm 30 (Int32.toNatClampNeg (gI mm 29 4)) v1) 31 (Int32.toNatClampNeg (gI (sI mm 30 (Int32.toNatClampNeg (gI mm 29 4)) v1) 29 4)) v2) 32 (Int32.toNatClampNeg (gI (sI (sI mm 30 (Int32.toNatClampNeg (gI mm 29 4)) v1) 31 (Int32.toNatClampNeg (gI (sI mm 30 (Int32.toNatClampNeg (gI mm 29 4)) v1) 29 4)) v2) 29 4)) v3) 33 (Int32.toNatClampNeg (gI (sI (sI (sI mm 30 (Int32.toNatClampNeg (gI mm 29 4)) v1) 31 (Int32.toNatClampNeg (gI (sI mm 30 (Int32.toNatClampNeg (gI mm 29 4)) v1) 29 4)) v2) 32 (Int32.toNatClampNeg (gI (sI (sI mm 30 (Int32.toNatClampNeg (gI mm 29 4)) v1) 31 (Int32.toNatClampNeg (gI (sI mm 30 (Int32.toNatClampNeg (gI mm 29 4)) v1) 29 4)) v2) 29 4)) v3) 29 4)) v4) 29 4 ((gI (sI (sI (sI (sI mm 30 (Int32.toNatClampNeg (gI mm 29 4)) v1) 31 (Int32.toNatClampNeg (gI (sI mm 30 (Int32.toNatClampNeg (gI mm 29 4)) v1) 29 4)) v2) 32 (Int32.toNatClampNeg (gI (sI (sI mm 30 (Int32.toNatClampNeg (gI mm 29 4)) v1) 31 (Int32.toNatClampNeg (gI (sI mm 30 (Int32.toNatClampNeg (gI mm 29 4)) v1) 29 4)) v2) 29 4)) v3) 33 (Int32.toNatClampNeg (gI (sI (sI (sI mm 30 (Int32.toNatClampNeg (gI mm 29 4)) v1) 31 (Int32.toNatClampNeg (gI (sI mm 30 (Int32.toNatClampNeg (gI mm 29 4)) v1) 29 4)) v2) 32 (Int32.toNatClampNeg (gI (sI (sI mm 30 (Int32.toNatClampNeg (gI mm 29 4)) v1) 31 (Int32.toNatClampNeg (gI (sI mm 30 (Int32.toNatClampNeg (gI mm 29 4)) v1) 29 4)) v2) 29 4)) v3) 29 4)) v4) 29 4) + 1)) 29 4))) else none) else none) else none) else none)
def dX1_note (v1 : Int32) (v2 : Int32) (v3 : Int32) (v4 : Int32) (mm : Mm) : Option (Unit × Mm) :=
  (if (gI mm 29 4) < 40 then DX1_note_13 v1 v2 v3 v4 mm else ((dX1_forgetFirst mm).bind fun q10 => DX1_note_13 v1 v2 v3 v4 q10.2))
def DX9_mend_30 (mm : Mm) : Option (Int32 × Mm) :=
  some ((-2000000000), mm)
def DX9_mend_72 (v4 : Int32) (mm : Mm) : Option (Int32 × Mm) :=
  some (v4, mm)
def dX9_mend (v1 : Int32) (v2 : Int32) (v3 : Int32) (mm : Mm) : Option (Int32 × Mm) :=
  (if v2 < 0 then DX9_mend_30 mm else (if 8 < v2 then DX9_mend_30 mm else ((dX7_holds v2 v1 mm).bind fun q16 => (if q16.1 = 0 then DX9_mend_30 q16.2 else ((dX9_within v2 v3 q16.2).bind fun q24 => (if q24.1 = 0 then DX9_mend_30 q24.2 else ((dX7_told v2 v1 q24.2).bind fun q39 => (if q39.1 = v3 then DX9_mend_72 q39.1 q39.2 else ((dX7_set v2 v1 v3 q39.2).bind fun q57 => ((dX1_note v2 v1 q39.1 v3 q57.2).bind fun q69 => DX9_mend_72 q39.1 q69.2))))))))))
def dX10_isSack (v1 : Int64) (mm : Mm) : Option (Int32 × Mm) :=
  ((dX10_within v1 0 (Int32.toInt64 ((gI mm 58 6) - 1)) mm).bind fun q9 => some (q9.1, q9.2))
def dX10_isBuyer (v1 : Int64) (mm : Mm) : Option (Int32 × Mm) :=
  ((dX10_within v1 0 (Int32.toInt64 ((gI mm 58 7) - 1)) mm).bind fun q9 => some (q9.1, q9.2))
def DX10_placeOf_108 (mm : Mm) : Option (Int32 × Mm) :=
  some ((-1), mm)
def dX10_placeOf (v1 : Int32) (v2 : Int32) (mm : Mm) : Option (Int32 × Mm) :=
  ((dX10_within (Int32.toInt64 v2) 0 3 mm).bind fun q6 => (if q6.1 = 0 then ((dX10_within (Int32.toInt64 v2) 4 5 q6.2).bind fun q39 => (if q39.1 = 0 then ((dX10_within (Int32.toInt64 v2) 6 8 q39.2).bind fun q78 => (if q78.1 = 0 then DX10_placeOf_108 q78.2 else ((dX10_isBuyer (Int32.toInt64 v1) q78.2).bind fun q87 => (if q87.1 = 0 then DX10_placeOf_108 q87.2 else some (((44 + (6 * (v2 - 6))) + v1), q87.2))))) else ((dX10_isSack (Int32.toInt64 v1) q39.2).bind fun q48 => (if q48.1 = 0 then some ((-1), q48.2) else some (((24 + (10 * (v2 - 4))) + v1), q48.2))))) else ((dX10_isGood (Int32.toInt64 v1) q6.2).bind fun q14 => (if q14.1 = 0 then some ((-1), q14.2) else some (((6 * v2) + v1), q14.2)))))
def DX10_mayBecome_52 (v1 : Int32) (mm : Mm) : Option (Int32 × Mm) :=
  ((dX10_within (Int32.toInt64 v1) 0 99 mm).bind fun q58 => some (q58.1, q58.2))
def DX10_mayBecome_98 (v1 : Int32) (mm : Mm) : Option (Int32 × Mm) :=
  ((dX10_within (Int32.toInt64 v1) 0 3 mm).bind fun q104 => some (q104.1, q104.2))
def dX10_mayBecome (v0 : Int32) (v1 : Int32) (mm : Mm) : Option (Int32 × Mm) :=
  (if v0 = 0 then DX10_mayBecome_52 v1 mm else (if v0 = 1 then DX10_mayBecome_98 v1 mm else (if v0 = 2 then DX10_mayBecome_98 v1 mm else (if v0 = 3 then DX10_mayBecome_98 v1 mm else (if v0 = 4 then ((dX10_isGood (Int32.toInt64 v1) mm).bind fun q64 => some (q64.1, q64.2)) else (if v0 = 5 then DX10_mayBecome_52 v1 mm else (if v0 = 6 then ((dX10_within (Int32.toInt64 v1) 0 999 mm).bind fun q74 => some (q74.1, q74.2)) else (if v0 = 7 then ((dX10_within (Int32.toInt64 v1) 0 6 mm).bind fun q84 => some (q84.1, q84.2)) else (if v0 = 8 then ((dX10_within (Int32.toInt64 v1) 1 11 mm).bind fun q94 => some (q94.1, q94.2)) else DX10_mayBecome_98 v1 mm)))))))))
def DX10_becomes_97 (v1 : Int32) (v2 : Int32) (v3 : Int32) (mm : Mm) : Option (Int32 × Mm) :=
  (if inB (gI mm 58 5) 40 then (if inB (gI (sI mm 60 (Int32.toNatClampNeg (gI mm 58 5)) v1) 58 5) 40 then (if inB (gI (sI (sI mm 60 (Int32.toNatClampNeg (gI mm 58 5)) v1) 61 (Int32.toNatClampNeg (gI (sI mm 60 (Int32.toNatClampNeg (gI mm 58 5)) v1) 58 5)) v3) 58 5) 40 then (if inB v1 62 then some (v3, (sI (sI (sI (sI (sI (sI mm 60 (Int32.toNatClampNeg (gI mm 58 5)) v1) 61 (Int32.toNatClampNeg (gI (sI mm 60 (Int32.toNatClampNeg (gI mm 58 5)) v1) 58 5)) v3) 62 (Int32.toNatClampNeg (gI (sI (sI mm 60 (Int32.toNatClampNeg (gI mm 58 5)) v1) 61 (Int32.toNatClampNeg (gI (sI mm 60 (Int32.toNatClampNeg (gI mm 58 5)) v1) 58 5)) v3) 58 5)) v2) 58 5 ((gI (sI (sI (sI mm 60 (Int32.toNatClampNeg (gI mm 58 5)) v1) 61 (Int32.toNatClampNeg (gI (sI mm 60 (Int32.toNatClampNeg (gI mm 58 5)) v1) 58 5)) v3) 62 (Int32.toNatClampNeg (gI (sI (sI mm 60 (Int32.toNatClampNeg (gI mm 58 5)) v1) 61 (Int32.toNatClampNeg (gI (sI mm 60 (Int32.toNatClampNeg (gI mm 58 5)) v1) 58 5)) v3) 58 5)) v2) 58 5) + 1)) 58 4 (gI (sI (sI (sI (sI mm 60 (Int32.toNatClampNeg (gI mm 58 5)) v1) 61 (Int32.toNatClampNeg (gI (sI mm 60 (Int32.toNatClampNeg (gI mm 58 5)) v1) 58 5)) v3) 62 (Int32.toNatClampNeg (gI (sI (sI mm 60 (Int32.toNatClampNeg (gI mm 58 5)) v1) 61 (Int32.toNatClampNeg (gI (sI mm 60 (Int32.toNatClampNeg (gI mm 58 5)) v1) 58 5)) v3) 58 5)) v2) 58 5 ((gI (sI (sI (sI mm 60 (Int32.toNatClampNeg (gI mm 58 5)) v1) 61 (Int32.toNatClampNeg (gI (sI mm 60 (Int32.toNatClampNeg (gI mm 58 5)) v1) 58 5)) v3) 62 (Int32.toNatClampNeg (gI (sI (sI mm 60 (Int32.toNatClampNeg (gI mm 58 5)) v1) 61 (Int32.toNatClampNeg (gI (sI mm 60 (Int32.toNatClampNeg (gI mm 58 5)) v1) 58 5)) v3) 58 5)) v2) 58 5) + 1)) 58 5)) 59 (Int32.toNatClampNeg v1) v2)) else none) else none) else none) else none)
def BX10_becomes_26 (k26 : Int32 → Int32 → Int32 → Int32 → Mm → Option (Int32 × Mm)) (v1 : Int32) (v2 : Int32) (v3 : Int32) (v4 : Int32) (mm : Mm) : Option (Int32 × Mm) :=
  (if 40 ≤ v4 then DX10_becomes_97 v1 v2 v3 (sI mm 58 5 ((gI mm 58 5) - 1)) else (if inB v4 40 then (if inB (v4 - 1) 40 then (if inB v4 40 then (if inB (v4 - 1) 40 then (if inB v4 40 then (if inB (v4 - 1) 40 then k26 v1 v2 v3 (v4 + 1) (sI (sI (sI mm 60 (Int32.toNatClampNeg (v4 - 1)) (gI mm 60 (Int32.toNatClampNeg v4))) 61 (Int32.toNatClampNeg (v4 - 1)) (gI (sI mm 60 (Int32.toNatClampNeg (v4 - 1)) (gI mm 60 (Int32.toNatClampNeg v4))) 61 (Int32.toNatClampNeg v4))) 62 (Int32.toNatClampNeg (v4 - 1)) (gI (sI (sI mm 60 (Int32.toNatClampNeg (v4 - 1)) (gI mm 60 (Int32.toNatClampNeg v4))) 61 (Int32.toNatClampNeg (v4 - 1)) (gI (sI mm 60 (Int32.toNatClampNeg (v4 - 1)) (gI mm 60 (Int32.toNatClampNeg v4))) 61 (Int32.toNatClampNeg v4))) 62 (Int32.toNatClampNeg v4))) else none) else none) else none) else none) else none) else none))
def DX10_becomes_26 : Nat → Int32 → Int32 → Int32 → Int32 → Mm → Option (Int32 × Mm)
  | 0, _, _, _, _, _ => none
  | n + 1, v1, v2, v3, v4, mm => BX10_becomes_26 (DX10_becomes_26 n) v1 v2 v3 v4 mm
def dX10_becomes (v1 : Int32) (v2 : Int32) (mm : Mm) : Option (Int32 × Mm) :=
  (if inB v1 62 then (if (gI mm 59 (Int32.toNatClampNeg v1)) = v2 then some ((gI mm 59 (Int32.toNatClampNeg v1)), mm) else (if (gI mm 58 5) = 40 then DX10_becomes_26 FU v1 v2 (gI mm 59 (Int32.toNatClampNeg v1)) 1 mm else DX10_becomes_97 v1 v2 (gI mm 59 (Int32.toNatClampNeg v1)) mm)) else none)
def DX10_mend_31 (mm : Mm) : Option (Int32 × Mm) :=
  some ((-2000000000), mm)
def dX10_mend (v1 : Int32) (v2 : Int32) (v3 : Int32) (mm : Mm) : Option (Int32 × Mm) :=
  ((dX10_placeOf v1 v2 mm).bind fun q3 => (if q3.1 < 0 then DX10_mend_31 q3.2 else ((dX10_mayBecome v2 v3 q3.2).bind fun q15 => (if q15.1 = 0 then DX10_mend_31 q15.2 else ((dX10_becomes q3.1 v3 q15.2).bind fun q25 => some (q25.1, q25.2))))))
def dX9_of (v1 : Int32) (v2 : Int32) (mm : Mm) : Option (Int32 × Mm) :=
  ((dX7_holds v2 v1 mm).bind fun q6 => (if q6.1 = 0 then some ((-2000000000), q6.2) else ((dX7_told v2 v1 q6.2).bind fun q18 => some (q18.1, q18.2))))
def dX10_of (v1 : Int32) (v2 : Int32) (mm : Mm) : Option (Int32 × Mm) :=
  ((dX10_placeOf v1 v2 mm).bind fun q3 => (if q3.1 < 0 then ((dX10_isSack (Int32.toInt64 v1) q3.2).bind fun q21 => (if q21.1 = 0 then some ((-2000000000), q21.2) else (if v2 = 9 then (if inB v1 10 then some ((gI q21.2 63 (Int32.toNatClampNeg v1)), q21.2) else none) else (if v2 = 10 then (if inB v1 10 then (if (gI q21.2 64 (Int32.toNatClampNeg v1)) = 0 then some (0, q21.2) else some (1, q21.2)) else none) else some ((-2000000000), q21.2))))) else (if inB q3.1 62 then some ((gI q3.2 59 (Int32.toNatClampNeg q3.1)), q3.2) else none)))
def dX6_take (v1 : Int32) (mm : Mm) : Option (Int32 × Mm) :=
  (if (gI mm 15 4) < 120 then (if inB (gI mm 15 4) 120 then some ((gI (sI (sI mm 16 (Int32.toNatClampNeg (gI mm 15 4)) (vp_nar .char (iC v1))) 15 4 ((gI (sI mm 16 (Int32.toNatClampNeg (gI mm 15 4)) (vp_nar .char (iC v1))) 15 4) + 1)) 15 4), (sI (sI mm 16 (Int32.toNatClampNeg (gI mm 15 4)) (vp_nar .char (iC v1))) 15 4 ((gI (sI mm 16 (Int32.toNatClampNeg (gI mm 15 4)) (vp_nar .char (iC v1))) 15 4) + 1))) else none) else some ((-3), mm))
def DX9_feed_11 (mm : Mm) : Option (Int32 × Mm) :=
  some ((-1), mm)
def dX9_feed (v1 : Int32) (mm : Mm) : Option (Int32 × Mm) :=
  (if v1 < 0 then DX9_feed_11 mm else (if v1 ≤ 255 then ((dX6_take v1 mm).bind fun q20 => some (q20.1, q20.2)) else DX9_feed_11 mm))
def dX10_feed (v1 : Int32) (mm : Mm) : Option (Int32 × Mm) :=
  ((dX10_within (Int32.toInt64 v1) 0 255 mm).bind fun q6 => (if q6.1 = 0 then some ((-1), q6.2) else (if (gI q6.2 58 11) = 120 then some ((-3), q6.2) else (if inB (gI q6.2 58 11) 120 then some ((gI (sI (sI q6.2 65 (Int32.toNatClampNeg (gI q6.2 58 11)) v1) 58 11 ((gI (sI q6.2 65 (Int32.toNatClampNeg (gI q6.2 58 11)) v1) 58 11) + 1)) 58 11), (sI (sI q6.2 65 (Int32.toNatClampNeg (gI q6.2 58 11)) v1) 58 11 ((gI (sI q6.2 65 (Int32.toNatClampNeg (gI q6.2 58 11)) v1) 58 11) + 1))) else none))))
def dX5_clear (v0 : Nat) (mm : Mm) : Option (Unit × Mm) :=
  (if v0 = 50 ∨ v0 = 54 then some ((), (sI mm v0 3 0)) else none)
def dX6_ahead (mm : Mm) : Option (Int32 × Mm) :=
  (if (gI mm 15 4) ≤ (gI mm 15 2) then some ((-1), mm) else (if inB (gI mm 15 2) 120 then some ((gI mm 16 (Int32.toNatClampNeg (gI mm 15 2))), mm) else none))
def DX6_joins_78 (mm : Mm) : Option (Int32 × Mm) :=
  some (1, mm)
def DX6_joins_96 (mm : Mm) : Option (Int32 × Mm) :=
  some (1, mm)
def DX6_joins_120 (mm : Mm) : Option (Int32 × Mm) :=
  some (1, mm)
def dX6_joins (v0 : Int32) (v1 : Int32) (mm : Mm) : Option (Int32 × Mm) :=
  (if v0 = 0 then (if v1 = 124 then some (1, mm) else some (0, mm)) else (if v0 = 1 then (if v1 = 38 then some (1, mm) else some (0, mm)) else (if v0 = 2 then (if v1 = 60 then DX6_joins_78 mm else (if v1 = 61 then DX6_joins_78 mm else (if v1 = 62 then DX6_joins_78 mm else some (0, mm)))) else (if v0 = 3 then (if v1 = 43 then DX6_joins_96 mm else (if v1 = 45 then DX6_joins_96 mm else some (0, mm))) else (if v0 = 4 then (if v1 = 42 then DX6_joins_120 mm else (if v1 = 47 then DX6_joins_120 mm else (if v1 = 37 then DX6_joins_120 mm else some (0, mm)))) else some (0, mm))))))
def dX5_add (v0 : Nat) (v1 : Int32) (v2 : Int32) (mm : Mm) : Option (Unit × Mm) :=
  (if v0 = 50 ∨ v0 = 54 then (if 128 ≤ (gI mm v0 3) then some ((), mm) else (if inB (gI mm v0 3) 128 then (if inB (gI (sI mm (v0 + 1) (Int32.toNatClampNeg (gI mm v0 3)) (vp_nar .char v1)) v0 3) 128 then some ((), (sI (sI (sI mm (v0 + 1) (Int32.toNatClampNeg (gI mm v0 3)) (vp_nar .char v1)) (v0 + 2) (Int32.toNatClampNeg (gI (sI mm (v0 + 1) (Int32.toNatClampNeg (gI mm v0 3)) (vp_nar .char v1)) v0 3)) v2) v0 3 ((gI (sI (sI mm (v0 + 1) (Int32.toNatClampNeg (gI mm v0 3)) (vp_nar .char v1)) (v0 + 2) (Int32.toNatClampNeg (gI (sI mm (v0 + 1) (Int32.toNatClampNeg (gI mm v0 3)) (vp_nar .char v1)) v0 3)) v2) v0 3) + 1))) else none) else none)) else none)
def DX6_number_56 (v1 : Int32) (mm : Mm) : Option (Unit × Mm) :=
  (if (gR mm 15 1) = 50 ∨ (gR mm 15 1) = 54 then ((dX5_add (gR mm 15 1) 35 v1 mm).bind fun q63 => some ((), q63.2)) else none)
def BX6_number_4 (k4 : Int32 → Int32 → Mm → Option (Unit × Mm)) (v1 : Int32) (v2 : Int32) (mm : Mm) : Option (Unit × Mm) :=
  (if 4 ≤ v2 then DX6_number_56 v1 mm else ((dX6_ahead mm).bind fun q10 => (if q10.1 < 48 then DX6_number_56 v1 q10.2 else ((dX6_ahead q10.2).bind fun q19 => (if 57 < q19.1 then DX6_number_56 v1 q19.2 else ((dX6_ahead q19.2).bind fun q32 => k4 (((10 * v1) + q32.1) - 48) (v2 + 1) (sI q32.2 15 2 ((gI q32.2 15 2) + 1))))))))
def DX6_number_4 : Nat → Int32 → Int32 → Mm → Option (Unit × Mm)
  | 0, _, _, _ => none
  | n + 1, v1, v2, mm => BX6_number_4 (DX6_number_4 n) v1 v2 mm
def dX6_number (mm : Mm) : Option (Unit × Mm) :=
  DX6_number_4 FU 0 0 mm
def DX6_passes_36 (v2 : Int32) (s0 : Int32) (s1 : Int32) (mm : Mm) : Option (Int32 × Mm) :=
  (if v2 = 0 ∨ v2 = 1 then some (v2, (sI mm 15 2 (s1 + s0))) else none)
def DX6_passes_21 (s0 : Int32) (mm : Mm) : Option (Int32 × Mm) :=
  (if s0 = 0 then DX6_passes_36 s0 0 (gI mm 15 2) mm else DX6_passes_36 s0 1 (gI mm 15 2) mm)
def DX6_passes_20 (mm : Mm) : Option (Int32 × Mm) :=
  DX6_passes_21 0 mm
def dX6_passes (v1 : Int32) (mm : Mm) : Option (Int32 × Mm) :=
  (if (gI mm 15 3) = (-1) then ((dX6_ahead mm).bind fun q9 => (if q9.1 = v1 then DX6_passes_21 1 q9.2 else DX6_passes_20 q9.2)) else DX6_passes_20 mm)
def BX6_level_34 (r_X6_level : Int32 → Int32 → Mm → Option (Unit × Mm)) (r_X6_operand : Int32 → Mm → Option (Unit × Mm)) (r_X6_opened : Int32 → Int32 → Mm → Option (Unit × Mm)) (k34 : Int32 → Int32 → Int32 → Int32 → Mm → Option (Unit × Mm)) (v1 : Int32) (v2 : Int32) (v3 : Int32) (v4 : Int32) (mm : Mm) : Option (Unit × Mm) :=
  (if v3 ≤ v4 then some ((), mm) else (if (gI mm 15 3) = (-1) then ((dX6_ahead mm).bind fun q50 => ((dX6_joins v1 q50.1 q50.2).bind fun q53 => (if q53.1 = 0 then some ((), q53.2) else (if inB (gI q53.2 15 2) 120 then ((r_X6_level (v1 + 1) v2 (sI q53.2 15 2 ((gI q53.2 15 2) + 1))).bind fun q85 => (if (gR q85.2 15 1) = 50 ∨ (gR q85.2 15 1) = 54 then ((dX5_add (gR q85.2 15 1) (gI q53.2 16 (Int32.toNatClampNeg (gI q53.2 15 2))) 0 q85.2).bind fun q95 => k34 v1 v2 v3 (v4 + 1) q95.2) else none)) else none)))) else some ((), mm)))
def DX6_level_34 (r_X6_level : Int32 → Int32 → Mm → Option (Unit × Mm)) (r_X6_operand : Int32 → Mm → Option (Unit × Mm)) (r_X6_opened : Int32 → Int32 → Mm → Option (Unit × Mm)) : Nat → Int32 → Int32 → Int32 → Int32 → Mm → Option (Unit × Mm)
  | 0, _, _, _, _, _ => none
  | n + 1, v1, v2, v3, v4, mm => BX6_level_34 r_X6_level r_X6_operand r_X6_opened (DX6_level_34 r_X6_level r_X6_operand r_X6_opened n) v1 v2 v3 v4 mm
def DX6_level_30 (r_X6_level : Int32 → Int32 → Mm → Option (Unit × Mm)) (r_X6_operand : Int32 → Mm → Option (Unit × Mm)) (r_X6_opened : Int32 → Int32 → Mm → Option (Unit × Mm)) (v1 : Int32) (v2 : Int32) (s0 : Int32) (mm : Mm) : Option (Unit × Mm) :=
  DX6_level_34 r_X6_level r_X6_operand r_X6_opened FU v1 v2 s0 0 mm
def bX6_level (r_X6_level : Int32 → Int32 → Mm → Option (Unit × Mm)) (r_X6_operand : Int32 → Mm → Option (Unit × Mm)) (r_X6_opened : Int32 → Int32 → Mm → Option (Unit × Mm)) (v1 : Int32) (v2 : Int32) (mm : Mm) : Option (Unit × Mm) :=
  (if v1 < 5 then ((r_X6_level (v1 + 1) v2 mm).bind fun q16 => (if v1 = 2 then DX6_level_30 r_X6_level r_X6_operand r_X6_opened v1 v2 1 q16.2 else DX6_level_30 r_X6_level r_X6_operand r_X6_opened v1 v2 120 q16.2)) else ((r_X6_operand v2 mm).bind fun q7 => some ((), q7.2)))
def DX6_operand_122 (r_X6_level : Int32 → Int32 → Mm → Option (Unit × Mm)) (r_X6_operand : Int32 → Mm → Option (Unit × Mm)) (r_X6_opened : Int32 → Int32 → Mm → Option (Unit × Mm)) (mm : Mm) : Option (Unit × Mm) :=
  some ((), (sI mm 15 3 (gI mm 15 2)))
def DX6_operand_100 (r_X6_level : Int32 → Int32 → Mm → Option (Unit × Mm)) (r_X6_operand : Int32 → Mm → Option (Unit × Mm)) (r_X6_opened : Int32 → Int32 → Mm → Option (Unit × Mm)) (v1 : Int32) (v2 : Int32) (mm : Mm) : Option (Unit × Mm) :=
  ((r_X6_opened (iC v2) (v1 + 1) (sI mm 15 2 ((gI mm 15 2) + 1))).bind fun q116 => some ((), q116.2))
def DX6_operand_76 (r_X6_level : Int32 → Int32 → Mm → Option (Unit × Mm)) (r_X6_operand : Int32 → Mm → Option (Unit × Mm)) (r_X6_opened : Int32 → Int32 → Mm → Option (Unit × Mm)) (v1 : Int32) (v2 : Int32) (mm : Mm) : Option (Unit × Mm) :=
  (if 6 ≤ v1 then DX6_operand_122 r_X6_level r_X6_operand r_X6_opened mm else (if v2 = 40 then DX6_operand_100 r_X6_level r_X6_operand r_X6_opened v1 v2 mm else (if v2 = 33 then DX6_operand_100 r_X6_level r_X6_operand r_X6_opened v1 v2 mm else (if v2 = 45 then DX6_operand_100 r_X6_level r_X6_operand r_X6_opened v1 v2 mm else DX6_operand_122 r_X6_level r_X6_operand r_X6_opened mm))))
def DX6_operand_33 (r_X6_level : Int32 → Int32 → Mm → Option (Unit × Mm)) (r_X6_operand : Int32 → Mm → Option (Unit × Mm)) (r_X6_opened : Int32 → Int32 → Mm → Option (Unit × Mm)) (v1 : Int32) (v2 : Int32) (mm : Mm) : Option (Unit × Mm) :=
  (if v2 ≤ 0 then DX6_operand_76 r_X6_level r_X6_operand r_X6_opened v1 v2 mm else (if (dIx (iC v2)) < 0 then DX6_operand_76 r_X6_level r_X6_operand r_X6_opened v1 v2 mm else (if (gR mm 15 1) = 50 ∨ (gR mm 15 1) = 54 then ((dX5_add (gR mm 15 1) 110 (dIx (iC v2)) mm).bind fun q60 => some ((), (sI q60.2 15 2 ((gI q60.2 15 2) + 1)))) else none)))
def bX6_operand (r_X6_level : Int32 → Int32 → Mm → Option (Unit × Mm)) (r_X6_operand : Int32 → Mm → Option (Unit × Mm)) (r_X6_opened : Int32 → Int32 → Mm → Option (Unit × Mm)) (v1 : Int32) (mm : Mm) : Option (Unit × Mm) :=
  ((dX6_ahead mm).bind fun q1 => (if (gI q1.2 15 3) = (-1) then (if q1.1 < 48 then DX6_operand_33 r_X6_level r_X6_operand r_X6_opened v1 q1.1 q1.2 else (if 57 < q1.1 then DX6_operand_33 r_X6_level r_X6_operand r_X6_opened v1 q1.1 q1.2 else ((dX6_number q1.2).bind fun q27 => some ((), q27.2)))) else some ((), q1.2)))
def DX6_opened_59 (r_X6_level : Int32 → Int32 → Mm → Option (Unit × Mm)) (r_X6_operand : Int32 → Mm → Option (Unit × Mm)) (r_X6_opened : Int32 → Int32 → Mm → Option (Unit × Mm)) (s0 : Int32) (s1 : Nat) (mm : Mm) : Option (Unit × Mm) :=
  (if s1 = 50 ∨ s1 = 54 then ((dX5_add s1 s0 0 mm).bind fun q60 => some ((), q60.2)) else none)
def bX6_opened (r_X6_level : Int32 → Int32 → Mm → Option (Unit × Mm)) (r_X6_operand : Int32 → Mm → Option (Unit × Mm)) (r_X6_opened : Int32 → Int32 → Mm → Option (Unit × Mm)) (v1 : Int32) (v2 : Int32) (mm : Mm) : Option (Unit × Mm) :=
  (if v1 = 40 then ((r_X6_level 0 v2 mm).bind fun q9 => ((dX6_passes 41 q9.2).bind fun q15 => (if q15.1 = 0 then (if (gI q15.2 15 3) = (-1) then some ((), (sI q15.2 15 3 (gI q15.2 15 2))) else some ((), q15.2)) else some ((), q15.2)))) else ((r_X6_operand v2 mm).bind fun q40 => (if v1 = 45 then DX6_opened_59 r_X6_level r_X6_operand r_X6_opened 126 (gR q40.2 15 1) q40.2 else DX6_opened_59 r_X6_level r_X6_operand r_X6_opened v1 (gR q40.2 15 1) q40.2)))
def gX6_level : Nat → (Int32 → Int32 → Mm → Option (Unit × Mm)) × (Int32 → Mm → Option (Unit × Mm)) × (Int32 → Int32 → Mm → Option (Unit × Mm))
  | 0 => (fun _ _ _ => none, fun _ _ => none, fun _ _ _ => none)
  | n + 1 => (bX6_level ((gX6_level n).1) ((gX6_level n).2.1) ((gX6_level n).2.2), bX6_operand ((gX6_level n).1) ((gX6_level n).2.1) ((gX6_level n).2.2), bX6_opened ((gX6_level n).1) ((gX6_level n).2.1) ((gX6_level n).2.2))
def dX6_level (n : Nat) : Int32 → Int32 → Mm → Option (Unit × Mm) := (gX6_level n).1
def dX6_operand (n : Nat) : Int32 → Mm → Option (Unit × Mm) := (gX6_level n).2.1
def dX6_opened (n : Nat) : Int32 → Int32 → Mm → Option (Unit × Mm) := (gX6_level n).2.2
def DX6_line_31 (mm : Mm) : Option (Unit × Mm) :=
  (if (gR mm 15 1) = 50 ∨ (gR mm 15 1) = 54 then ((dX5_add (gR mm 15 1) 59 0 mm).bind fun q38 => some ((), q38.2)) else none)
def dX6_line (mm : Mm) : Option (Unit × Mm) :=
  ((dX6_level 100 0 0 mm).bind fun q3 => ((dX6_passes 63 q3.2).bind fun q9 => (if q9.1 = 0 then DX6_line_31 q9.2 else (if (gR q9.2 15 1) = 50 ∨ (gR q9.2 15 1) = 54 then ((dX5_add (gR q9.2 15 1) 63 0 q9.2).bind fun q22 => ((dX6_level 100 0 0 q22.2).bind fun q28 => DX6_line_31 q28.2)) else none))))
def DX6_read_80 (mm : Mm) : Option (Int32 × Mm) :=
  some ((gI (sI mm 15 4 0) 15 3), (sI mm 15 4 0))
def DX6_read_56 (mm : Mm) : Option (Int32 × Mm) :=
  (if (gI mm 15 3) = (-1) then ((dX6_ahead mm).bind fun q65 => (if q65.1 = (-1) then DX6_read_80 q65.2 else DX6_read_80 (sI q65.2 15 3 (gI q65.2 15 2)))) else DX6_read_80 mm)
def BX6_read_21 (k21 : Int32 → Int32 → Mm → Option (Int32 × Mm)) (v1 : Int32) (v2 : Int32) (mm : Mm) : Option (Int32 × Mm) :=
  (if 120 < v2 then DX6_read_56 mm else (if v1 = 0 then DX6_read_56 mm else (if (gI mm 15 3) = (-1) then ((dX6_line mm).bind fun q40 => ((dX6_passes 59 q40.2).bind fun q46 => k21 q46.1 (v2 + 1) q46.2)) else DX6_read_56 mm)))
def DX6_read_21 : Nat → Int32 → Int32 → Mm → Option (Int32 × Mm)
  | 0, _, _, _ => none
  | n + 1, v1, v2, mm => BX6_read_21 (DX6_read_21 n) v1 v2 mm
def dX6_read (mm : Mm) : Option (Int32 × Mm) :=
  (if (gR mm 15 1) = 50 ∨ (gR mm 15 1) = 54 then ((dX5_clear (gR mm 15 1) mm).bind fun q4 => DX6_read_21 FU 1 0 (sI (sI q4.2 15 2 0) 15 3 (-1))) else none)
def dX6_swap (v1 : Nat) (mm : Mm) : Option (Nat × Mm) :=
  some ((gR mm 15 1), (sR mm 15 1 v1))
def dX9_law (mm : Mm) : Option (Int32 × Mm) :=
  ((dX6_read mm).bind fun q4 => (if q4.1 < 0 then ((dX6_swap (gR q4.2 1 4) q4.2).bind fun q34 => some (1, (sR q34.2 1 4 q34.1))) else some (((-100) - q4.1), q4.2)))
def dX10_byteAt (mm : Mm) : Option (Int32 × Mm) :=
  (if (gI mm 58 16) ≤ (gI mm 58 15) then some (0, mm) else (if 0 ≤ (gI mm 58 14) then (if inB ((gI mm 58 14) + (gI mm 58 15)) 120 then some ((gI mm 66 (Int32.toNatClampNeg ((gI mm 58 14) + (gI mm 58 15)))), mm) else none) else (if inB (gI mm 58 15) 120 then some ((gI mm 65 (Int32.toNatClampNeg (gI mm 58 15))), mm) else none)))
def DX10_takes_15 (mm : Mm) : Option (Int32 × Mm) :=
  some (0, mm)
def dX10_takes (v1 : Int32) (mm : Mm) : Option (Int32 × Mm) :=
  (if 0 ≤ (gI mm 58 17) then DX10_takes_15 mm else ((dX10_byteAt mm).bind fun q8 => (if q8.1 = v1 then some (1, (sI q8.2 58 15 ((gI q8.2 58 15) + 1))) else DX10_takes_15 q8.2)))
def DX10_wrong_19 (s0 : Int32) (mm : Mm) : Option (Int32 × Mm) :=
  some (0, (sI mm 58 17 s0))
def dX10_wrong (mm : Mm) : Option (Int32 × Mm) :=
  (if 0 ≤ (gI mm 58 17) then DX10_wrong_19 (gI mm 58 17) mm else DX10_wrong_19 (gI mm 58 15) mm)
def dX10_nameOf (v0 : Int32) (mm : Mm) : Option (Int32 × Mm) :=
  (if v0 = 97 then some (2, mm) else (if v0 = 98 then some (5, mm) else (if v0 = 103 then some (4, mm) else (if v0 = 112 then some (0, mm) else (if v0 = 115 then some (3, mm) else (if v0 = 119 then some (1, mm) else some ((-1), mm)))))))
def DX10_either_32 (r_X10_either : Mm → Option (Int32 × Mm)) (r_X10_both : Mm → Option (Int32 × Mm)) (r_X10_compared : Mm → Option (Int32 × Mm)) (r_X10_sums : Mm → Option (Int32 × Mm)) (r_X10_product : Mm → Option (Int32 × Mm)) (r_X10_one : Mm → Option (Int32 × Mm)) (k5 : Int32 → Mm → Option (Int32 × Mm)) (s0 : Int32) (mm : Mm) : Option (Int32 × Mm) :=
  k5 s0 mm
def DX10_either_27 (r_X10_either : Mm → Option (Int32 × Mm)) (r_X10_both : Mm → Option (Int32 × Mm)) (r_X10_compared : Mm → Option (Int32 × Mm)) (r_X10_sums : Mm → Option (Int32 × Mm)) (r_X10_product : Mm → Option (Int32 × Mm)) (r_X10_one : Mm → Option (Int32 × Mm)) (k5 : Int32 → Mm → Option (Int32 × Mm)) (mm : Mm) : Option (Int32 × Mm) :=
  DX10_either_32 r_X10_either r_X10_both r_X10_compared r_X10_sums r_X10_product r_X10_one k5 1 mm
def BX10_either_5 (r_X10_either : Mm → Option (Int32 × Mm)) (r_X10_both : Mm → Option (Int32 × Mm)) (r_X10_compared : Mm → Option (Int32 × Mm)) (r_X10_sums : Mm → Option (Int32 × Mm)) (r_X10_product : Mm → Option (Int32 × Mm)) (r_X10_one : Mm → Option (Int32 × Mm)) (k5 : Int32 → Mm → Option (Int32 × Mm)) (v1 : Int32) (mm : Mm) : Option (Int32 × Mm) :=
  ((dX10_takes 124 mm).bind fun q8 => (if q8.1 = 0 then some (v1, q8.2) else ((r_X10_both q8.2).bind fun q15 => (if v1 = 0 then (if q15.1 = 0 then DX10_either_32 r_X10_either r_X10_both r_X10_compared r_X10_sums r_X10_product r_X10_one k5 0 q15.2 else DX10_either_27 r_X10_either r_X10_both r_X10_compared r_X10_sums r_X10_product r_X10_one k5 q15.2) else DX10_either_27 r_X10_either r_X10_both r_X10_compared r_X10_sums r_X10_product r_X10_one k5 q15.2))))
def DX10_either_5 (r_X10_either : Mm → Option (Int32 × Mm)) (r_X10_both : Mm → Option (Int32 × Mm)) (r_X10_compared : Mm → Option (Int32 × Mm)) (r_X10_sums : Mm → Option (Int32 × Mm)) (r_X10_product : Mm → Option (Int32 × Mm)) (r_X10_one : Mm → Option (Int32 × Mm)) : Nat → Int32 → Mm → Option (Int32 × Mm)
  | 0, _, _ => none
  | n + 1, v1, mm => BX10_either_5 r_X10_either r_X10_both r_X10_compared r_X10_sums r_X10_product r_X10_one (DX10_either_5 r_X10_either r_X10_both r_X10_compared r_X10_sums r_X10_product r_X10_one n) v1 mm
def bX10_either (r_X10_either : Mm → Option (Int32 × Mm)) (r_X10_both : Mm → Option (Int32 × Mm)) (r_X10_compared : Mm → Option (Int32 × Mm)) (r_X10_sums : Mm → Option (Int32 × Mm)) (r_X10_product : Mm → Option (Int32 × Mm)) (r_X10_one : Mm → Option (Int32 × Mm)) (mm : Mm) : Option (Int32 × Mm) :=
  ((r_X10_both mm).bind fun q1 => DX10_either_5 r_X10_either r_X10_both r_X10_compared r_X10_sums r_X10_product r_X10_one FU q1.1 q1.2)
def DX10_both_32 (r_X10_either : Mm → Option (Int32 × Mm)) (r_X10_both : Mm → Option (Int32 × Mm)) (r_X10_compared : Mm → Option (Int32 × Mm)) (r_X10_sums : Mm → Option (Int32 × Mm)) (r_X10_product : Mm → Option (Int32 × Mm)) (r_X10_one : Mm → Option (Int32 × Mm)) (k5 : Int32 → Mm → Option (Int32 × Mm)) (s0 : Int32) (mm : Mm) : Option (Int32 × Mm) :=
  k5 s0 mm
def DX10_both_31 (r_X10_either : Mm → Option (Int32 × Mm)) (r_X10_both : Mm → Option (Int32 × Mm)) (r_X10_compared : Mm → Option (Int32 × Mm)) (r_X10_sums : Mm → Option (Int32 × Mm)) (r_X10_product : Mm → Option (Int32 × Mm)) (r_X10_one : Mm → Option (Int32 × Mm)) (k5 : Int32 → Mm → Option (Int32 × Mm)) (mm : Mm) : Option (Int32 × Mm) :=
  DX10_both_32 r_X10_either r_X10_both r_X10_compared r_X10_sums r_X10_product r_X10_one k5 0 mm
def BX10_both_5 (r_X10_either : Mm → Option (Int32 × Mm)) (r_X10_both : Mm → Option (Int32 × Mm)) (r_X10_compared : Mm → Option (Int32 × Mm)) (r_X10_sums : Mm → Option (Int32 × Mm)) (r_X10_product : Mm → Option (Int32 × Mm)) (r_X10_one : Mm → Option (Int32 × Mm)) (k5 : Int32 → Mm → Option (Int32 × Mm)) (v1 : Int32) (mm : Mm) : Option (Int32 × Mm) :=
  ((dX10_takes 38 mm).bind fun q8 => (if q8.1 = 0 then some (v1, q8.2) else ((r_X10_compared q8.2).bind fun q15 => (if v1 = 0 then DX10_both_31 r_X10_either r_X10_both r_X10_compared r_X10_sums r_X10_product r_X10_one k5 q15.2 else (if q15.1 = 0 then DX10_both_31 r_X10_either r_X10_both r_X10_compared r_X10_sums r_X10_product r_X10_one k5 q15.2 else DX10_both_32 r_X10_either r_X10_both r_X10_compared r_X10_sums r_X10_product r_X10_one k5 1 q15.2)))))
def DX10_both_5 (r_X10_either : Mm → Option (Int32 × Mm)) (r_X10_both : Mm → Option (Int32 × Mm)) (r_X10_compared : Mm → Option (Int32 × Mm)) (r_X10_sums : Mm → Option (Int32 × Mm)) (r_X10_product : Mm → Option (Int32 × Mm)) (r_X10_one : Mm → Option (Int32 × Mm)) : Nat → Int32 → Mm → Option (Int32 × Mm)
  | 0, _, _ => none
  | n + 1, v1, mm => BX10_both_5 r_X10_either r_X10_both r_X10_compared r_X10_sums r_X10_product r_X10_one (DX10_both_5 r_X10_either r_X10_both r_X10_compared r_X10_sums r_X10_product r_X10_one n) v1 mm
def bX10_both (r_X10_either : Mm → Option (Int32 × Mm)) (r_X10_both : Mm → Option (Int32 × Mm)) (r_X10_compared : Mm → Option (Int32 × Mm)) (r_X10_sums : Mm → Option (Int32 × Mm)) (r_X10_product : Mm → Option (Int32 × Mm)) (r_X10_one : Mm → Option (Int32 × Mm)) (mm : Mm) : Option (Int32 × Mm) :=
  ((r_X10_compared mm).bind fun q1 => DX10_both_5 r_X10_either r_X10_both r_X10_compared r_X10_sums r_X10_product r_X10_one FU q1.1 q1.2)
def DX10_compared_35 (r_X10_either : Mm → Option (Int32 × Mm)) (r_X10_both : Mm → Option (Int32 × Mm)) (r_X10_compared : Mm → Option (Int32 × Mm)) (r_X10_sums : Mm → Option (Int32 × Mm)) (r_X10_product : Mm → Option (Int32 × Mm)) (r_X10_one : Mm → Option (Int32 × Mm)) (v1 : Int32) (mm : Mm) : Option (Int32 × Mm) :=
  some (v1, mm)
def DX10_compared_89 (r_X10_either : Mm → Option (Int32 × Mm)) (r_X10_both : Mm → Option (Int32 × Mm)) (r_X10_compared : Mm → Option (Int32 × Mm)) (r_X10_sums : Mm → Option (Int32 × Mm)) (r_X10_product : Mm → Option (Int32 × Mm)) (r_X10_one : Mm → Option (Int32 × Mm)) (mm : Mm) : Option (Int32 × Mm) :=
  some (0, mm)
def DX10_compared_85 (r_X10_either : Mm → Option (Int32 × Mm)) (r_X10_both : Mm → Option (Int32 × Mm)) (r_X10_compared : Mm → Option (Int32 × Mm)) (r_X10_sums : Mm → Option (Int32 × Mm)) (r_X10_product : Mm → Option (Int32 × Mm)) (r_X10_one : Mm → Option (Int32 × Mm)) (mm : Mm) : Option (Int32 × Mm) :=
  some (1, mm)
def DX10_compared_37 (r_X10_either : Mm → Option (Int32 × Mm)) (r_X10_both : Mm → Option (Int32 × Mm)) (r_X10_compared : Mm → Option (Int32 × Mm)) (r_X10_sums : Mm → Option (Int32 × Mm)) (r_X10_product : Mm → Option (Int32 × Mm)) (r_X10_one : Mm → Option (Int32 × Mm)) (v1 : Int32) (v2 : Int32) (mm : Mm) : Option (Int32 × Mm) :=
  ((r_X10_sums (sI mm 58 15 ((gI mm 58 15) + 1))).bind fun q48 => (if v2 = 60 then (if q48.1 ≤ v1 then DX10_compared_89 r_X10_either r_X10_both r_X10_compared r_X10_sums r_X10_product r_X10_one q48.2 else DX10_compared_85 r_X10_either r_X10_both r_X10_compared r_X10_sums r_X10_product r_X10_one q48.2) else (if v2 = 61 then (if v1 = q48.1 then DX10_compared_85 r_X10_either r_X10_both r_X10_compared r_X10_sums r_X10_product r_X10_one q48.2 else DX10_compared_89 r_X10_either r_X10_both r_X10_compared r_X10_sums r_X10_product r_X10_one q48.2) else (if v1 ≤ q48.1 then DX10_compared_89 r_X10_either r_X10_both r_X10_compared r_X10_sums r_X10_product r_X10_one q48.2 else DX10_compared_85 r_X10_either r_X10_both r_X10_compared r_X10_sums r_X10_product r_X10_one q48.2))))
def bX10_compared (r_X10_either : Mm → Option (Int32 × Mm)) (r_X10_both : Mm → Option (Int32 × Mm)) (r_X10_compared : Mm → Option (Int32 × Mm)) (r_X10_sums : Mm → Option (Int32 × Mm)) (r_X10_product : Mm → Option (Int32 × Mm)) (r_X10_one : Mm → Option (Int32 × Mm)) (mm : Mm) : Option (Int32 × Mm) :=
  ((r_X10_sums mm).bind fun q1 => ((dX10_byteAt q1.2).bind fun q6 => (if 0 ≤ (gI q6.2 58 17) then DX10_compared_35 r_X10_either r_X10_both r_X10_compared r_X10_sums r_X10_product r_X10_one q1.1 q6.2 else (if q6.1 = 60 then DX10_compared_37 r_X10_either r_X10_both r_X10_compared r_X10_sums r_X10_product r_X10_one q1.1 q6.1 q6.2 else (if q6.1 = 61 then DX10_compared_37 r_X10_either r_X10_both r_X10_compared r_X10_sums r_X10_product r_X10_one q1.1 q6.1 q6.2 else (if q6.1 = 62 then DX10_compared_37 r_X10_either r_X10_both r_X10_compared r_X10_sums r_X10_product r_X10_one q1.1 q6.1 q6.2 else DX10_compared_35 r_X10_either r_X10_both r_X10_compared r_X10_sums r_X10_product r_X10_one q1.1 q6.2))))))
def DX10_sums_77 (r_X10_either : Mm → Option (Int32 × Mm)) (r_X10_both : Mm → Option (Int32 × Mm)) (r_X10_compared : Mm → Option (Int32 × Mm)) (r_X10_sums : Mm → Option (Int32 × Mm)) (r_X10_product : Mm → Option (Int32 × Mm)) (r_X10_one : Mm → Option (Int32 × Mm)) (v1 : Int32) (mm : Mm) : Option (Int32 × Mm) :=
  some (v1, mm)
def DX10_sums_73 (r_X10_either : Mm → Option (Int32 × Mm)) (r_X10_both : Mm → Option (Int32 × Mm)) (r_X10_compared : Mm → Option (Int32 × Mm)) (r_X10_sums : Mm → Option (Int32 × Mm)) (r_X10_product : Mm → Option (Int32 × Mm)) (r_X10_one : Mm → Option (Int32 × Mm)) (k5 : Int32 → Mm → Option (Int32 × Mm)) (s0 : Int32) (mm : Mm) : Option (Int32 × Mm) :=
  k5 s0 mm
def DX10_sums_44 (r_X10_either : Mm → Option (Int32 × Mm)) (r_X10_both : Mm → Option (Int32 × Mm)) (r_X10_compared : Mm → Option (Int32 × Mm)) (r_X10_sums : Mm → Option (Int32 × Mm)) (r_X10_product : Mm → Option (Int32 × Mm)) (r_X10_one : Mm → Option (Int32 × Mm)) (k5 : Int32 → Mm → Option (Int32 × Mm)) (v1 : Int32) (s0 : Int32) (mm : Mm) : Option (Int32 × Mm) :=
  ((r_X10_product (sI mm 58 15 ((gI mm 58 15) + 1))).bind fun q56 => (if s0 = 0 then DX10_sums_73 r_X10_either r_X10_both r_X10_compared r_X10_sums r_X10_product r_X10_one k5 (v1 - q56.1) q56.2 else DX10_sums_73 r_X10_either r_X10_both r_X10_compared r_X10_sums r_X10_product r_X10_one k5 (v1 + q56.1) q56.2))
def DX10_sums_30 (r_X10_either : Mm → Option (Int32 × Mm)) (r_X10_both : Mm → Option (Int32 × Mm)) (r_X10_compared : Mm → Option (Int32 × Mm)) (r_X10_sums : Mm → Option (Int32 × Mm)) (r_X10_product : Mm → Option (Int32 × Mm)) (r_X10_one : Mm → Option (Int32 × Mm)) (k5 : Int32 → Mm → Option (Int32 × Mm)) (v1 : Int32) (mm : Mm) : Option (Int32 × Mm) :=
  ((dX10_byteAt mm).bind fun q31 => (if q31.1 = 43 then DX10_sums_44 r_X10_either r_X10_both r_X10_compared r_X10_sums r_X10_product r_X10_one k5 v1 1 q31.2 else DX10_sums_44 r_X10_either r_X10_both r_X10_compared r_X10_sums r_X10_product r_X10_one k5 v1 0 q31.2))
def BX10_sums_5 (r_X10_either : Mm → Option (Int32 × Mm)) (r_X10_both : Mm → Option (Int32 × Mm)) (r_X10_compared : Mm → Option (Int32 × Mm)) (r_X10_sums : Mm → Option (Int32 × Mm)) (r_X10_product : Mm → Option (Int32 × Mm)) (r_X10_one : Mm → Option (Int32 × Mm)) (k5 : Int32 → Mm → Option (Int32 × Mm)) (v1 : Int32) (mm : Mm) : Option (Int32 × Mm) :=
  (if 0 ≤ (gI mm 58 17) then DX10_sums_77 r_X10_either r_X10_both r_X10_compared r_X10_sums r_X10_product r_X10_one v1 mm else ((dX10_byteAt mm).bind fun q13 => (if q13.1 = 43 then DX10_sums_30 r_X10_either r_X10_both r_X10_compared r_X10_sums r_X10_product r_X10_one k5 v1 q13.2 else ((dX10_byteAt q13.2).bind fun q22 => (if q22.1 = 45 then DX10_sums_30 r_X10_either r_X10_both r_X10_compared r_X10_sums r_X10_product r_X10_one k5 v1 q22.2 else DX10_sums_77 r_X10_either r_X10_both r_X10_compared r_X10_sums r_X10_product r_X10_one v1 q22.2)))))
def DX10_sums_5 (r_X10_either : Mm → Option (Int32 × Mm)) (r_X10_both : Mm → Option (Int32 × Mm)) (r_X10_compared : Mm → Option (Int32 × Mm)) (r_X10_sums : Mm → Option (Int32 × Mm)) (r_X10_product : Mm → Option (Int32 × Mm)) (r_X10_one : Mm → Option (Int32 × Mm)) : Nat → Int32 → Mm → Option (Int32 × Mm)
  | 0, _, _ => none
  | n + 1, v1, mm => BX10_sums_5 r_X10_either r_X10_both r_X10_compared r_X10_sums r_X10_product r_X10_one (DX10_sums_5 r_X10_either r_X10_both r_X10_compared r_X10_sums r_X10_product r_X10_one n) v1 mm
def bX10_sums (r_X10_either : Mm → Option (Int32 × Mm)) (r_X10_both : Mm → Option (Int32 × Mm)) (r_X10_compared : Mm → Option (Int32 × Mm)) (r_X10_sums : Mm → Option (Int32 × Mm)) (r_X10_product : Mm → Option (Int32 × Mm)) (r_X10_one : Mm → Option (Int32 × Mm)) (mm : Mm) : Option (Int32 × Mm) :=
  ((r_X10_product mm).bind fun q1 => DX10_sums_5 r_X10_either r_X10_both r_X10_compared r_X10_sums r_X10_product r_X10_one FU q1.1 q1.2)
def DX10_product_94 (r_X10_either : Mm → Option (Int32 × Mm)) (r_X10_both : Mm → Option (Int32 × Mm)) (r_X10_compared : Mm → Option (Int32 × Mm)) (r_X10_sums : Mm → Option (Int32 × Mm)) (r_X10_product : Mm → Option (Int32 × Mm)) (r_X10_one : Mm → Option (Int32 × Mm)) (v1 : Int32) (mm : Mm) : Option (Int32 × Mm) :=
  some (v1, mm)
def DX10_product_85 (r_X10_either : Mm → Option (Int32 × Mm)) (r_X10_both : Mm → Option (Int32 × Mm)) (r_X10_compared : Mm → Option (Int32 × Mm)) (r_X10_sums : Mm → Option (Int32 × Mm)) (r_X10_product : Mm → Option (Int32 × Mm)) (r_X10_one : Mm → Option (Int32 × Mm)) (k10 : Int32 → Int32 → Mm → Option (Int32 × Mm)) (s0 : Int32) (mm : Mm) : Option (Int32 × Mm) :=
  ((dX10_byteAt mm).bind fun q87 => k10 s0 q87.1 q87.2)
def DX10_product_35 (r_X10_either : Mm → Option (Int32 × Mm)) (r_X10_both : Mm → Option (Int32 × Mm)) (r_X10_compared : Mm → Option (Int32 × Mm)) (r_X10_sums : Mm → Option (Int32 × Mm)) (r_X10_product : Mm → Option (Int32 × Mm)) (r_X10_one : Mm → Option (Int32 × Mm)) (k10 : Int32 → Int32 → Mm → Option (Int32 × Mm)) (v1 : Int32) (v2 : Int32) (mm : Mm) : Option (Int32 × Mm) :=
  ((r_X10_one (sI mm 58 15 ((gI mm 58 15) + 1))).bind fun q46 => (if v2 = 42 then DX10_product_85 r_X10_either r_X10_both r_X10_compared r_X10_sums r_X10_product r_X10_one k10 (v1 * q46.1) q46.2 else (if q46.1 = 0 then DX10_product_85 r_X10_either r_X10_both r_X10_compared r_X10_sums r_X10_product r_X10_one k10 0 q46.2 else (if v2 = 47 then (if q46.1 = 0 then none else DX10_product_85 r_X10_either r_X10_both r_X10_compared r_X10_sums r_X10_product r_X10_one k10 (v1 / q46.1) q46.2) else (if q46.1 = 0 then none else DX10_product_85 r_X10_either r_X10_both r_X10_compared r_X10_sums r_X10_product r_X10_one k10 (iRem v1 q46.1) q46.2)))))
def BX10_product_10 (r_X10_either : Mm → Option (Int32 × Mm)) (r_X10_both : Mm → Option (Int32 × Mm)) (r_X10_compared : Mm → Option (Int32 × Mm)) (r_X10_sums : Mm → Option (Int32 × Mm)) (r_X10_product : Mm → Option (Int32 × Mm)) (r_X10_one : Mm → Option (Int32 × Mm)) (k10 : Int32 → Int32 → Mm → Option (Int32 × Mm)) (v1 : Int32) (v2 : Int32) (mm : Mm) : Option (Int32 × Mm) :=
  (if 0 ≤ (gI mm 58 17) then DX10_product_94 r_X10_either r_X10_both r_X10_compared r_X10_sums r_X10_product r_X10_one v1 mm else (if v2 = 42 then DX10_product_35 r_X10_either r_X10_both r_X10_compared r_X10_sums r_X10_product r_X10_one k10 v1 v2 mm else (if v2 = 47 then DX10_product_35 r_X10_either r_X10_both r_X10_compared r_X10_sums r_X10_product r_X10_one k10 v1 v2 mm else (if v2 = 37 then DX10_product_35 r_X10_either r_X10_both r_X10_compared r_X10_sums r_X10_product r_X10_one k10 v1 v2 mm else DX10_product_94 r_X10_either r_X10_both r_X10_compared r_X10_sums r_X10_product r_X10_one v1 mm))))
def DX10_product_10 (r_X10_either : Mm → Option (Int32 × Mm)) (r_X10_both : Mm → Option (Int32 × Mm)) (r_X10_compared : Mm → Option (Int32 × Mm)) (r_X10_sums : Mm → Option (Int32 × Mm)) (r_X10_product : Mm → Option (Int32 × Mm)) (r_X10_one : Mm → Option (Int32 × Mm)) : Nat → Int32 → Int32 → Mm → Option (Int32 × Mm)
  | 0, _, _, _ => none
  | n + 1, v1, v2, mm => BX10_product_10 r_X10_either r_X10_both r_X10_compared r_X10_sums r_X10_product r_X10_one (DX10_product_10 r_X10_either r_X10_both r_X10_compared r_X10_sums r_X10_product r_X10_one n) v1 v2 mm
def bX10_product (r_X10_either : Mm → Option (Int32 × Mm)) (r_X10_both : Mm → Option (Int32 × Mm)) (r_X10_compared : Mm → Option (Int32 × Mm)) (r_X10_sums : Mm → Option (Int32 × Mm)) (r_X10_product : Mm → Option (Int32 × Mm)) (r_X10_one : Mm → Option (Int32 × Mm)) (mm : Mm) : Option (Int32 × Mm) :=
  ((r_X10_one mm).bind fun q1 => ((dX10_byteAt q1.2).bind fun q6 => DX10_product_10 r_X10_either r_X10_both r_X10_compared r_X10_sums r_X10_product r_X10_one FU q1.1 q6.1 q6.2))
def DX10_one_104 (r_X10_either : Mm → Option (Int32 × Mm)) (r_X10_both : Mm → Option (Int32 × Mm)) (r_X10_compared : Mm → Option (Int32 × Mm)) (r_X10_sums : Mm → Option (Int32 × Mm)) (r_X10_product : Mm → Option (Int32 × Mm)) (r_X10_one : Mm → Option (Int32 × Mm)) (v1 : Int32) (v2 : Int32) (mm : Mm) : Option (Int32 × Mm) :=
  (if v1 = 40 then some (v2, (sI mm 58 18 ((gI mm 58 18) - 1))) else (if v1 = 45 then some ((-v2), (sI mm 58 18 ((gI mm 58 18) - 1))) else (if v2 = 0 then some (1, (sI mm 58 18 ((gI mm 58 18) - 1))) else some (0, (sI mm 58 18 ((gI mm 58 18) - 1))))))
def DX10_one_83 (r_X10_either : Mm → Option (Int32 × Mm)) (r_X10_both : Mm → Option (Int32 × Mm)) (r_X10_compared : Mm → Option (Int32 × Mm)) (r_X10_sums : Mm → Option (Int32 × Mm)) (r_X10_product : Mm → Option (Int32 × Mm)) (r_X10_one : Mm → Option (Int32 × Mm)) (v1 : Int32) (s0 : Int32) (mm : Mm) : Option (Int32 × Mm) :=
  (if v1 = 40 then ((dX10_takes 41 mm).bind fun q93 => (if q93.1 = 0 then ((dX10_wrong q93.2).bind fun q100 => some (q100.1, q100.2)) else DX10_one_104 r_X10_either r_X10_both r_X10_compared r_X10_sums r_X10_product r_X10_one v1 s0 q93.2)) else DX10_one_104 r_X10_either r_X10_both r_X10_compared r_X10_sums r_X10_product r_X10_one v1 s0 mm)
def DX10_one_32 (r_X10_either : Mm → Option (Int32 × Mm)) (r_X10_both : Mm → Option (Int32 × Mm)) (r_X10_compared : Mm → Option (Int32 × Mm)) (r_X10_sums : Mm → Option (Int32 × Mm)) (r_X10_product : Mm → Option (Int32 × Mm)) (r_X10_one : Mm → Option (Int32 × Mm)) (v1 : Int32) (mm : Mm) : Option (Int32 × Mm) :=
  (if (gI mm 58 18) = 6 then ((dX10_wrong mm).bind fun q42 => some (q42.1, q42.2)) else (if v1 = 40 then ((r_X10_either (sI (sI mm 58 18 ((gI mm 58 18) + 1)) 58 15 ((gI (sI mm 58 18 ((gI mm 58 18) + 1)) 58 15) + 1))).bind fun q73 => DX10_one_83 r_X10_either r_X10_both r_X10_compared r_X10_sums r_X10_product r_X10_one v1 q73.1 q73.2) else ((r_X10_one (sI (sI mm 58 18 ((gI mm 58 18) + 1)) 58 15 ((gI (sI mm 58 18 ((gI mm 58 18) + 1)) 58 15) + 1))).bind fun q80 => DX10_one_83 r_X10_either r_X10_both r_X10_compared r_X10_sums r_X10_product r_X10_one v1 q80.1 q80.2)))
def DX10_one_229 (r_X10_either : Mm → Option (Int32 × Mm)) (r_X10_both : Mm → Option (Int32 × Mm)) (r_X10_compared : Mm → Option (Int32 × Mm)) (r_X10_sums : Mm → Option (Int32 × Mm)) (r_X10_product : Mm → Option (Int32 × Mm)) (r_X10_one : Mm → Option (Int32 × Mm)) (v3 : Int32) (v4 : Int32) (mm : Mm) : Option (Int32 × Mm) :=
  (if v4 = 0 then ((dX10_wrong mm).bind fun q235 => some (q235.1, q235.2)) else some (v3, mm))
def BX10_one_176 (r_X10_either : Mm → Option (Int32 × Mm)) (r_X10_both : Mm → Option (Int32 × Mm)) (r_X10_compared : Mm → Option (Int32 × Mm)) (r_X10_sums : Mm → Option (Int32 × Mm)) (r_X10_product : Mm → Option (Int32 × Mm)) (r_X10_one : Mm → Option (Int32 × Mm)) (k176 : Int32 → Int32 → Mm → Option (Int32 × Mm)) (v3 : Int32) (v4 : Int32) (mm : Mm) : Option (Int32 × Mm) :=
  (if 4 ≤ v4 then DX10_one_229 r_X10_either r_X10_both r_X10_compared r_X10_sums r_X10_product r_X10_one v3 v4 mm else ((dX10_byteAt mm).bind fun q183 => (if q183.1 < 48 then DX10_one_229 r_X10_either r_X10_both r_X10_compared r_X10_sums r_X10_product r_X10_one v3 v4 q183.2 else ((dX10_byteAt q183.2).bind fun q192 => (if 57 < q192.1 then DX10_one_229 r_X10_either r_X10_both r_X10_compared r_X10_sums r_X10_product r_X10_one v3 v4 q192.2 else ((dX10_byteAt q192.2).bind fun q205 => k176 (((10 * v3) + q205.1) - 48) (v4 + 1) (sI q205.2 58 15 ((gI q205.2 58 15) + 1))))))))
def DX10_one_176 (r_X10_either : Mm → Option (Int32 × Mm)) (r_X10_both : Mm → Option (Int32 × Mm)) (r_X10_compared : Mm → Option (Int32 × Mm)) (r_X10_sums : Mm → Option (Int32 × Mm)) (r_X10_product : Mm → Option (Int32 × Mm)) (r_X10_one : Mm → Option (Int32 × Mm)) : Nat → Int32 → Int32 → Mm → Option (Int32 × Mm)
  | 0, _, _, _ => none
  | n + 1, v3, v4, mm => BX10_one_176 r_X10_either r_X10_both r_X10_compared r_X10_sums r_X10_product r_X10_one (DX10_one_176 r_X10_either r_X10_both r_X10_compared r_X10_sums r_X10_product r_X10_one n) v3 v4 mm
def bX10_one (r_X10_either : Mm → Option (Int32 × Mm)) (r_X10_both : Mm → Option (Int32 × Mm)) (r_X10_compared : Mm → Option (Int32 × Mm)) (r_X10_sums : Mm → Option (Int32 × Mm)) (r_X10_product : Mm → Option (Int32 × Mm)) (r_X10_one : Mm → Option (Int32 × Mm)) (mm : Mm) : Option (Int32 × Mm) :=
  (if (gI mm 58 17) < 0 then ((dX10_byteAt mm).bind fun q10 => (if q10.1 = 33 then DX10_one_32 r_X10_either r_X10_both r_X10_compared r_X10_sums r_X10_product r_X10_one q10.1 q10.2 else (if q10.1 = 45 then DX10_one_32 r_X10_either r_X10_both r_X10_compared r_X10_sums r_X10_product r_X10_one q10.1 q10.2 else (if q10.1 = 40 then DX10_one_32 r_X10_either r_X10_both r_X10_compared r_X10_sums r_X10_product r_X10_one q10.1 q10.2 else ((dX10_nameOf q10.1 q10.2).bind fun q146 => (if q146.1 < 0 then DX10_one_176 r_X10_either r_X10_both r_X10_compared r_X10_sums r_X10_product r_X10_one FU 0 0 q146.2 else (if inB q146.1 6 then some ((gI (sI q146.2 58 15 ((gI q146.2 58 15) + 1)) 67 (Int32.toNatClampNeg q146.1)), (sI q146.2 58 15 ((gI q146.2 58 15) + 1))) else none))))))) else some (0, mm))
def gX10_either : Nat → (Mm → Option (Int32 × Mm)) × (Mm → Option (Int32 × Mm)) × (Mm → Option (Int32 × Mm)) × (Mm → Option (Int32 × Mm)) × (Mm → Option (Int32 × Mm)) × (Mm → Option (Int32 × Mm))
  | 0 => (fun _ => none, fun _ => none, fun _ => none, fun _ => none, fun _ => none, fun _ => none)
  | n + 1 => (bX10_either ((gX10_either n).1) ((gX10_either n).2.1) ((gX10_either n).2.2.1) ((gX10_either n).2.2.2.1) ((gX10_either n).2.2.2.2.1) ((gX10_either n).2.2.2.2.2), bX10_both ((gX10_either n).1) ((gX10_either n).2.1) ((gX10_either n).2.2.1) ((gX10_either n).2.2.2.1) ((gX10_either n).2.2.2.2.1) ((gX10_either n).2.2.2.2.2), bX10_compared ((gX10_either n).1) ((gX10_either n).2.1) ((gX10_either n).2.2.1) ((gX10_either n).2.2.2.1) ((gX10_either n).2.2.2.2.1) ((gX10_either n).2.2.2.2.2), bX10_sums ((gX10_either n).1) ((gX10_either n).2.1) ((gX10_either n).2.2.1) ((gX10_either n).2.2.2.1) ((gX10_either n).2.2.2.2.1) ((gX10_either n).2.2.2.2.2), bX10_product ((gX10_either n).1) ((gX10_either n).2.1) ((gX10_either n).2.2.1) ((gX10_either n).2.2.2.1) ((gX10_either n).2.2.2.2.1) ((gX10_either n).2.2.2.2.2), bX10_one ((gX10_either n).1) ((gX10_either n).2.1) ((gX10_either n).2.2.1) ((gX10_either n).2.2.2.1) ((gX10_either n).2.2.2.2.1) ((gX10_either n).2.2.2.2.2))
def dX10_either (n : Nat) : Mm → Option (Int32 × Mm) := (gX10_either n).1
def dX10_both (n : Nat) : Mm → Option (Int32 × Mm) := (gX10_either n).2.1
def dX10_compared (n : Nat) : Mm → Option (Int32 × Mm) := (gX10_either n).2.2.1
def dX10_sums (n : Nat) : Mm → Option (Int32 × Mm) := (gX10_either n).2.2.2.1
def dX10_product (n : Nat) : Mm → Option (Int32 × Mm) := (gX10_either n).2.2.2.2.1
def dX10_one (n : Nat) : Mm → Option (Int32 × Mm) := (gX10_either n).2.2.2.2.2
def DX10_workOut_130 (v4 : Int32) (mm : Mm) : Option (Int32 × Mm) :=
  some (v4, mm)
def DX10_workOut_96 (k33 : Int32 → Int32 → Int32 → Mm → Option (Int32 × Mm)) (v3 : Int32) (v4 : Int32) (mm : Mm) : Option (Int32 × Mm) :=
  ((dX10_takes 59 mm).bind fun q99 => k33 v3 v4 q99.1 q99.2)
def DX10_workOut_74 (k33 : Int32 → Int32 → Int32 → Mm → Option (Int32 × Mm)) (v3 : Int32) (v4 : Int32) (v6 : Int32) (v7 : Int32) (mm : Mm) : Option (Int32 × Mm) :=
  (if 0 ≤ (gI mm 58 17) then DX10_workOut_96 k33 v3 v4 mm else (if v7 = 0 then DX10_workOut_96 k33 v3 v4 mm else (if v3 = 0 then DX10_workOut_96 k33 1 v6 mm else DX10_workOut_96 k33 v3 v4 mm)))
def DX10_workOut_66 (k33 : Int32 → Int32 → Int32 → Mm → Option (Int32 × Mm)) (v3 : Int32) (v4 : Int32) (s0 : Int32) (mm : Mm) : Option (Int32 × Mm) :=
  ((dX10_either 100 mm).bind fun q69 => DX10_workOut_74 k33 v3 v4 q69.1 s0 q69.2)
def BX10_workOut_33 (k33 : Int32 → Int32 → Int32 → Mm → Option (Int32 × Mm)) (v3 : Int32) (v4 : Int32) (v5 : Int32) (mm : Mm) : Option (Int32 × Mm) :=
  (if v5 = 0 then (if 0 ≤ (gI mm 58 17) then DX10_workOut_130 v4 mm else (if (gI mm 58 16) ≤ (gI mm 58 15) then DX10_workOut_130 v4 mm else ((dX10_wrong mm).bind fun q126 => some (q126.1, q126.2)))) else ((dX10_either 100 mm).bind fun q39 => ((dX10_takes 63 q39.2).bind fun q50 => (if q50.1 = 0 then DX10_workOut_74 k33 v3 v4 q39.1 1 q50.2 else (if q39.1 = 0 then DX10_workOut_66 k33 v3 v4 0 q50.2 else DX10_workOut_66 k33 v3 v4 1 q50.2)))))
def DX10_workOut_33 : Nat → Int32 → Int32 → Int32 → Mm → Option (Int32 × Mm)
  | 0, _, _, _, _ => none
  | n + 1, v3, v4, v5, mm => BX10_workOut_33 (DX10_workOut_33 n) v3 v4 v5 mm
def dX10_workOut (v1 : Int32) (v2 : Int32) (mm : Mm) : Option (Int32 × Mm) :=
  DX10_workOut_33 FU 0 0 1 (sI (sI (sI (sI (sI mm 58 14 v1) 58 15 0) 58 16 v2) 58 17 (-1)) 58 18 0)
def BX10_law_37 (k37 : Int32 → Int32 → Mm → Option (Int32 × Mm)) (v2 : Int32) (v3 : Int32) (mm : Mm) : Option (Int32 × Mm) :=
  (if v2 ≤ v3 then some (1, (sI mm 58 13 v2)) else (if inB v3 120 then (if inB v3 120 then k37 v2 (v3 + 1) (sI mm 66 (Int32.toNatClampNeg v3) (gI mm 65 (Int32.toNatClampNeg v3))) else none) else none))
def DX10_law_37 : Nat → Int32 → Int32 → Mm → Option (Int32 × Mm)
  | 0, _, _, _ => none
  | n + 1, v2, v3, mm => BX10_law_37 (DX10_law_37 n) v2 v3 mm
def dX10_law (mm : Mm) : Option (Int32 × Mm) :=
  ((dX10_workOut (-1) (gI mm 58 11) mm).bind fun q6 => (if (gI (sI q6.2 58 11 0) 58 17) < 0 then DX10_law_37 FU (gI q6.2 58 11) 0 (sI q6.2 58 11 0) else some (((-100) - (gI (sI q6.2 58 11 0) 58 17)), (sI q6.2 58 11 0))))
def DX9_isSackAndGood_38 (mm : Mm) : Option (Int32 × Mm) :=
  some (0, mm)
def dX9_isSackAndGood (v1 : Int32) (mm : Mm) : Option (Int32 × Mm) :=
  (if v1 < 0 then DX9_isSackAndGood_38 mm else ((dX7_holds 4 (v1 / 10) mm).bind fun q13 => (if q13.1 = 0 then DX9_isSackAndGood_38 q13.2 else ((dX7_holds 0 (iRem v1 10) q13.2).bind fun q28 => (if q28.1 = 0 then DX9_isSackAndGood_38 q28.2 else some (1, q28.2))))))
def dX5_isTold (v0 : Nat) (mm : Mm) : Option (Int32 × Mm) :=
  (if v0 = 50 ∨ v0 = 54 then (if (gI mm v0 3) ≤ 0 then some (0, mm) else some (1, mm)) else none)
def DX7_soldNow_30 (k4 : Int32 → Int32 → Mm → Option (Int32 × Mm)) (v2 : Int32) (s0 : Int32) (s1 : Int32) (mm : Mm) : Option (Int32 × Mm) :=
  k4 (s1 + s0) (v2 + 1) mm
def BX7_soldNow_4 (k4 : Int32 → Int32 → Mm → Option (Int32 × Mm)) (v1 : Int32) (v2 : Int32) (mm : Mm) : Option (Int32 × Mm) :=
  (if (gI mm 1 2) ≤ v2 then some (v1, mm) else (if inB v2 10 then (if (gI mm 12 (Int32.toNatClampNeg v2)) < 0 then DX7_soldNow_30 k4 v2 0 v1 mm else DX7_soldNow_30 k4 v2 1 v1 mm) else none))
def DX7_soldNow_4 : Nat → Int32 → Int32 → Mm → Option (Int32 × Mm)
  | 0, _, _, _ => none
  | n + 1, v1, v2, mm => BX7_soldNow_4 (DX7_soldNow_4 n) v1 v2 mm
def dX7_soldNow (mm : Mm) : Option (Int32 × Mm) :=
  DX7_soldNow_4 FU 0 0 mm
def DX5_joined_118 (mm : Mm) : Option (Int32 × Mm) :=
  some (0, mm)
def DX5_joined_100 (mm : Mm) : Option (Int32 × Mm) :=
  some (1, mm)
def dX5_joined (v0 : Int32) (v1 : Int32) (v2 : Int32) (mm : Mm) : Option (Int32 × Mm) :=
  (if v0 = 37 then (if v2 = 0 then some (0, mm) else (if v2 = 0 then none else some ((iRem v1 v2), mm))) else (if v0 = 38 then (if v1 = 0 then DX5_joined_118 mm else (if v2 = 0 then DX5_joined_118 mm else some (1, mm))) else (if v0 = 42 then some ((v1 * v2), mm) else (if v0 = 43 then some ((v1 + v2), mm) else (if v0 = 45 then some ((v1 - v2), mm) else (if v0 = 47 then (if v2 = 0 then some (0, mm) else (if v2 = 0 then none else some ((v1 / v2), mm))) else (if v0 = 60 then (if v2 ≤ v1 then some (0, mm) else some (1, mm)) else (if v0 = 61 then (if v1 = v2 then some (1, mm) else some (0, mm)) else (if v0 = 62 then (if v1 ≤ v2 then some (0, mm) else some (1, mm)) else (if v0 = 124 then (if v1 = 0 then (if v2 = 0 then some (0, mm) else DX5_joined_100 mm) else DX5_joined_100 mm) else some (0, mm)))))))))))
def DX5_value_282 (mm : Mm) : Option (Int32 × Mm) :=
  some (0, mm)
def DX5_value_276 (k7 : Nat → Int32 → Int32 → Int32 → Mm → Option (Int32 × Mm)) (v0 : Nat) (v2 : Int32) (v3 : Int32) (v4 : Int32) (mm : Mm) : Option (Int32 × Mm) :=
  k7 v0 v2 v3 (v4 + 1) mm
def DX5_value_235 (k7 : Nat → Int32 → Int32 → Int32 → Mm → Option (Int32 × Mm)) (v0 : Nat) (v2 : Int32) (v3 : Int32) (v4 : Int32) (s0 : Int32) (s1 : Int32) (s2 : Nat) (mm : Mm) : Option (Int32 × Mm) :=
  (if inB s1 128 then DX5_value_276 k7 v0 v2 v3 v4 (sI mm s2 (Int32.toNatClampNeg s1) s0) else none)
def DX5_value_193 (k7 : Nat → Int32 → Int32 → Int32 → Mm → Option (Int32 × Mm)) (v0 : Nat) (v2 : Int32) (v3 : Int32) (v4 : Int32) (v5 : Int32) (mm : Mm) : Option (Int32 × Mm) :=
  (if v5 = 126 then (if inB (v2 - 1) 128 then DX5_value_235 k7 v0 v2 v3 v4 (-(gI mm (v0 + 3) (Int32.toNatClampNeg (v2 - 1)))) (v2 - 1) (v0 + 3) mm else none) else (if inB (v2 - 1) 128 then (if (gI mm (v0 + 3) (Int32.toNatClampNeg (v2 - 1))) = 0 then DX5_value_235 k7 v0 v2 v3 v4 1 (v2 - 1) (v0 + 3) mm else DX5_value_235 k7 v0 v2 v3 v4 0 (v2 - 1) (v0 + 3) mm) else none))
def DX5_value_175 (k7 : Nat → Int32 → Int32 → Int32 → Mm → Option (Int32 × Mm)) (v0 : Nat) (v2 : Int32) (v4 : Int32) (s0 : Int32) (mm : Mm) : Option (Int32 × Mm) :=
  DX5_value_276 k7 v0 v2 s0 v4 mm
def DX5_value_128 (k7 : Nat → Int32 → Int32 → Int32 → Mm → Option (Int32 × Mm)) (v0 : Nat) (v2 : Int32) (v3 : Int32) (v4 : Int32) (v5 : Int32) (mm : Mm) : Option (Int32 × Mm) :=
  (if 1 ≤ v2 then (if v5 = 59 then (if inB (v2 - 1) 128 then some ((gI mm (v0 + 3) (Int32.toNatClampNeg (v2 - 1))), mm) else none) else (if v5 = 63 then (if inB (v2 + (-1)) 128 then (if (gI mm (v0 + 3) (Int32.toNatClampNeg (v2 + (-1)))) = 0 then DX5_value_175 k7 v0 (v2 + (-1)) v4 1 mm else DX5_value_175 k7 v0 (v2 + (-1)) v4 0 mm) else none) else (if v5 = 33 then DX5_value_193 k7 v0 v2 v3 v4 v5 mm else (if v5 = 126 then DX5_value_193 k7 v0 v2 v3 v4 v5 mm else (if 2 ≤ v2 then (if inB ((v2 + (-1)) - 1) 128 then (if inB (v2 + (-1)) 128 then ((dX5_joined v5 (gI mm (v0 + 3) (Int32.toNatClampNeg ((v2 + (-1)) - 1))) (gI mm (v0 + 3) (Int32.toNatClampNeg (v2 + (-1)))) mm).bind fun q272 => (if inB ((v2 + (-1)) - 1) 128 then DX5_value_276 k7 v0 (v2 + (-1)) v3 v4 (sI q272.2 (v0 + 3) (Int32.toNatClampNeg ((v2 + (-1)) - 1)) q272.1) else none)) else none) else none) else some (0, mm)))))) else some (0, mm))
def DX5_value_48 (k7 : Nat → Int32 → Int32 → Int32 → Mm → Option (Int32 × Mm)) (v0 : Nat) (v2 : Int32) (v4 : Int32) (s0 : Int32) (mm : Mm) : Option (Int32 × Mm) :=
  DX5_value_276 k7 v0 v2 s0 v4 mm
def BX5_value_7 (k7 : Nat → Int32 → Int32 → Int32 → Mm → Option (Int32 × Mm)) (v0 : Nat) (v2 : Int32) (v3 : Int32) (v4 : Int32) (mm : Mm) : Option (Int32 × Mm) :=
  (if (gI mm v0 3) ≤ v4 then DX5_value_282 mm else (if 128 ≤ v2 then DX5_value_282 mm else (if inB v4 128 then (if v3 = 0 then (if (gI mm (v0 + 1) (Int32.toNatClampNeg v4)) = 35 then (if inB v4 128 then (if inB v2 128 then DX5_value_276 k7 v0 (v2 + 1) v3 v4 (sI mm (v0 + 3) (Int32.toNatClampNeg v2) (gI mm (v0 + 2) (Int32.toNatClampNeg v4))) else none) else none) else (if (gI mm (v0 + 1) (Int32.toNatClampNeg v4)) = 110 then (if inB v4 128 then (if (gI mm (v0 + 2) (Int32.toNatClampNeg v4)) < 0 then DX5_value_128 k7 v0 v2 v3 v4 (gI mm (v0 + 1) (Int32.toNatClampNeg v4)) mm else (if inB v4 128 then (if 6 ≤ (gI mm (v0 + 2) (Int32.toNatClampNeg v4)) then DX5_value_128 k7 v0 v2 v3 v4 (gI mm (v0 + 1) (Int32.toNatClampNeg v4)) mm else (if inB v4 128 then (if inB (gI mm (v0 + 2) (Int32.toNatClampNeg v4)) 6 then (if inB v2 128 then DX5_value_276 k7 v0 (v2 + 1) v3 v4 (sI mm (v0 + 3) (Int32.toNatClampNeg v2) (gI mm 14 (Int32.toNatClampNeg (gI mm (v0 + 2) (Int32.toNatClampNeg v4))))) else none) else none) else none)) else none)) else none) else DX5_value_128 k7 v0 v2 v3 v4 (gI mm (v0 + 1) (Int32.toNatClampNeg v4)) mm)) else (if (gI mm (v0 + 1) (Int32.toNatClampNeg v4)) = 59 then DX5_value_48 k7 v0 v2 v4 0 mm else DX5_value_48 k7 v0 v2 v4 1 mm)) else none)))
def DX5_value_7 : Nat → Nat → Int32 → Int32 → Int32 → Mm → Option (Int32 × Mm)
  | 0, _, _, _, _, _ => none
  | n + 1, v0, v2, v3, v4, mm => BX5_value_7 (DX5_value_7 n) v0 v2 v3 v4 mm
def dX5_value (v0 : Nat) (mm : Mm) : Option (Int32 × Mm) :=
  (if v0 = 50 ∨ v0 = 54 then DX5_value_7 FU v0 0 0 0 mm else none)
def DX7_worthTo_24 (v1 : Int32) (v2 : Int32) (v3 : Int32) (v4 : Int32) (s0 : Int32) (mm : Mm) : Option (Int32 × Mm) :=
  (if (gR mm 1 4) = 50 ∨ (gR mm 1 4) = 54 then ((dX5_isTold (gR mm 1 4) mm).bind fun q30 => (if q30.1 = 0 then some ((v4 + (v4 * s0)), q30.2) else ((dX7_soldNow (sI (sI (sI q30.2 14 0 v4) 14 1 s0) 14 2 v3)).bind fun q74 => (if (gR (sI (sI (sI q74.2 14 3 q74.1) 14 4 v2) 14 5 v1) 1 4) = 50 ∨ (gR (sI (sI (sI q74.2 14 3 q74.1) 14 4 v2) 14 5 v1) 1 4) = 54 then ((dX5_value (gR (sI (sI (sI q74.2 14 3 q74.1) 14 4 v2) 14 5 v1) 1 4) (sI (sI (sI q74.2 14 3 q74.1) 14 4 v2) 14 5 v1)).bind fun q104 => some ((iMax 0 (iMin 999 q104.1)), q104.2)) else none)))) else none)
def dX7_worthTo (v1 : Int32) (v2 : Int32) (v3 : Int32) (mm : Mm) : Option (Int32 × Mm) :=
  ((dX7_told 0 v2 mm).bind fun q3 => ((dX7_told 7 v1 q3.2).bind fun q12 => (if q12.1 = v2 then DX7_worthTo_24 v1 v2 v3 q3.1 1 q12.2 else DX7_worthTo_24 v1 v2 v3 q3.1 0 q12.2)))
def DX9_worthOf_21 (mm : Mm) : Option (Int32 × Mm) :=
  some ((-1), mm)
def dX9_worthOf (v1 : Int32) (v2 : Int32) (mm : Mm) : Option (Int32 × Mm) :=
  ((dX7_holds 6 v1 mm).bind fun q7 => (if q7.1 = 0 then DX9_worthOf_21 q7.2 else ((dX9_isSackAndGood v2 q7.2).bind fun q15 => (if q15.1 = 0 then DX9_worthOf_21 q15.2 else ((dX7_told 5 (v2 / 10) q15.2).bind fun q41 => ((dX7_worthTo v1 (iRem v2 10) q41.1 q41.2).bind fun q44 => some (q44.1, q44.2)))))))
def DX10_worthFor_142 (v6 : Int32) (mm : Mm) : Option (Int32 × Mm) :=
  (if 0 ≤ v6 then (if v6 ≤ 999 then some (v6, mm) else some (999, mm)) else some (0, mm))
def DX10_worthFor_77 (k51 : Int32 → Int32 → Int32 → Int32 → Int32 → Int32 → Int32 → Mm → Option (Int32 × Mm)) (v1 : Int32) (v2 : Int32) (v3 : Int32) (v4 : Int32) (v5 : Int32) (v8 : Int32) (s0 : Int32) (s1 : Int32) (mm : Mm) : Option (Int32 × Mm) :=
  k51 v1 v2 v3 v4 v5 (s1 + s0) (v8 + 1) mm
def BX10_worthFor_51 (k51 : Int32 → Int32 → Int32 → Int32 → Int32 → Int32 → Int32 → Mm → Option (Int32 × Mm)) (v1 : Int32) (v2 : Int32) (v3 : Int32) (v4 : Int32) (v5 : Int32) (v7 : Int32) (v8 : Int32) (mm : Mm) : Option (Int32 × Mm) :=
  (if (gI mm 58 6) ≤ v8 then ((dX10_workOut 0 (gI (sI (sI (sI (sI (sI (sI mm 67 0 v4) 67 1 v5) 67 2 v3) 67 3 v7) 67 4 v2) 67 5 v1) 58 13) (sI (sI (sI (sI (sI (sI mm 67 0 v4) 67 1 v5) 67 2 v3) 67 3 v7) 67 4 v2) 67 5 v1)).bind fun q137 => DX10_worthFor_142 q137.1 q137.2) else (if inB v8 10 then (if (gI mm 63 (Int32.toNatClampNeg v8)) < 0 then DX10_worthFor_77 k51 v1 v2 v3 v4 v5 v8 0 v7 mm else DX10_worthFor_77 k51 v1 v2 v3 v4 v5 v8 1 v7 mm) else none))
def DX10_worthFor_51 : Nat → Int32 → Int32 → Int32 → Int32 → Int32 → Int32 → Int32 → Mm → Option (Int32 × Mm)
  | 0, _, _, _, _, _, _, _, _ => none
  | n + 1, v1, v2, v3, v4, v5, v7, v8, mm => BX10_worthFor_51 (DX10_worthFor_51 n) v1 v2 v3 v4 v5 v7 v8 mm
def DX10_worthFor_26 (v1 : Int32) (v2 : Int32) (v3 : Int32) (v4 : Int32) (s0 : Int32) (mm : Mm) : Option (Int32 × Mm) :=
  (if (gI mm 58 13) < 0 then DX10_worthFor_142 (v4 + (s0 * v4)) mm else DX10_worthFor_51 FU v1 v2 v3 v4 s0 0 0 mm)
def dX10_worthFor (v1 : Int32) (v2 : Int32) (v3 : Int32) (mm : Mm) : Option (Int32 × Mm) :=
  (if inB v2 62 then (if inB (50 + v1) 62 then (if (gI mm 59 (Int32.toNatClampNeg (50 + v1))) = v2 then DX10_worthFor_26 v1 v2 v3 (gI mm 59 (Int32.toNatClampNeg v2)) 1 mm else DX10_worthFor_26 v1 v2 v3 (gI mm 59 (Int32.toNatClampNeg v2)) 0 mm) else none) else none)
def DX10_worthOf_60 (mm : Mm) : Option (Int32 × Mm) :=
  some ((-1), mm)
def dX10_worthOf (v1 : Int32) (v2 : Int32) (mm : Mm) : Option (Int32 × Mm) :=
  ((dX10_isBuyer (Int32.toInt64 v1) mm).bind fun q3 => (if q3.1 = 0 then DX10_worthOf_60 q3.2 else (if v2 < 0 then DX10_worthOf_60 q3.2 else ((dX10_isSack (Int32.toInt64 (v2 / 10)) q3.2).bind fun q19 => (if q19.1 = 0 then DX10_worthOf_60 q19.2 else ((dX10_isGood (Int32.toInt64 (iRem v2 10)) q19.2).bind fun q30 => (if q30.1 = 0 then DX10_worthOf_60 q30.2 else (if inB (34 + (v2 / 10)) 62 then ((dX10_worthFor v1 (iRem v2 10) (gI q30.2 59 (Int32.toNatClampNeg (34 + (v2 / 10)))) q30.2).bind fun q54 => some (q54.1, q54.2)) else none))))))))
def DX9_isPart_9 (mm : Mm) : Option (Int32 × Mm) :=
  some (1, mm)
def dX9_isPart (v0 : Int32) (mm : Mm) : Option (Int32 × Mm) :=
  (if v0 = 0 then DX9_isPart_9 mm else (if v0 = 1 then DX9_isPart_9 mm else some (0, mm)))
def DX9_isBuyerAndSack_39 (mm : Mm) : Option (Int32 × Mm) :=
  some (0, mm)
def dX9_isBuyerAndSack (v1 : Int32) (mm : Mm) : Option (Int32 × Mm) :=
  (if v1 < 0 then DX9_isBuyerAndSack_39 mm else ((dX7_holds 6 (v1 / 10) mm).bind fun q14 => (if q14.1 = 0 then DX9_isBuyerAndSack_39 q14.2 else ((dX7_holds 4 (iRem v1 10) q14.2).bind fun q29 => (if q29.1 = 0 then DX9_isBuyerAndSack_39 q29.2 else some (1, q29.2))))))
def DX9_looksRefusal_27 (mm : Mm) : Option (Int32 × Mm) :=
  some ((-1), mm)
def dX9_looksRefusal (v1 : Int32) (v2 : Int32) (mm : Mm) : Option (Int32 × Mm) :=
  ((dX9_isShelf v1 mm).bind fun q1 => (if q1.1 = 0 then DX9_looksRefusal_27 q1.2 else ((dX9_isBuyerAndSack v2 q1.2).bind fun q9 => (if q9.1 = 0 then DX9_looksRefusal_27 q9.2 else (if inB v1 6 then ((dX8_bytesRefusal (38 + (Int32.toNatClampNeg v1)) q9.2).bind fun q21 => some (q21.1, q21.2)) else none)))))
def dX7_isOpen (v1 : Int32) (mm : Mm) : Option (Int32 × Mm) :=
  ((dX7_told 10 v1 mm).bind fun q4 => (if q4.1 = 1 then some (1, q4.2) else some (0, q4.2)))
def DX0_know_23 (k2 : Int32 → Int32 → Mm → Option (Unit × Mm)) (v1 : Int32) (v2 : Int32) (s0 : Int64) (s1 : Int32) (mm : Mm) : Option (Unit × Mm) :=
  (if inB s1 6 then k2 v1 (v2 + 1) (sL mm 18 (Int32.toNatClampNeg s1) s0) else none)
def BX0_know_2 (k2 : Int32 → Int32 → Mm → Option (Unit × Mm)) (v1 : Int32) (v2 : Int32) (mm : Mm) : Option (Unit × Mm) :=
  (if 6 ≤ v2 then some ((), mm) else (if v2 = v1 then DX0_know_23 k2 v1 v2 1 v2 mm else DX0_know_23 k2 v1 v2 0 v2 mm))
def DX0_know_2 : Nat → Int32 → Int32 → Mm → Option (Unit × Mm)
  | 0, _, _, _ => none
  | n + 1, v1, v2, mm => BX0_know_2 (DX0_know_2 n) v1 v2 mm
def dX0_know (v1 : Int32) (mm : Mm) : Option (Unit × Mm) :=
  DX0_know_2 FU v1 0 mm
def dX0_seeming (v1 : Int32) (v2 : Int32) (v3 : Int32) (v4 : Int32) (mm : Mm) : Option (Int32 × Mm) :=
  ((dX7_told 8 v1 mm).bind fun q7 => ((dX7_told (1 + v3) v2 q7.2).bind fun q20 => (if q20.1 = v4 then some ((3 * q7.1), q20.2) else some ((12 - q7.1), q20.2))))
def BX0_learn_3 (k3 : Int32 → Int32 → Int32 → Int32 → Mm → Option (Unit × Mm)) (v1 : Int32) (v2 : Int32) (v3 : Int32) (v4 : Int32) (mm : Mm) : Option (Unit × Mm) :=
  (if 6 ≤ v4 then some ((), mm) else (if inB v4 6 then ((dX0_seeming v1 v4 v2 v3 mm).bind fun q24 => (if inB v4 6 then k3 v1 v2 v3 (v4 + 1) (sL q24.2 18 (Int32.toNatClampNeg v4) ((gL mm 18 (Int32.toNatClampNeg v4)) * (Int32.toInt64 q24.1))) else none)) else none))
def DX0_learn_3 : Nat → Int32 → Int32 → Int32 → Int32 → Mm → Option (Unit × Mm)
  | 0, _, _, _, _, _ => none
  | n + 1, v1, v2, v3, v4, mm => BX0_learn_3 (DX0_learn_3 n) v1 v2 v3 v4 mm
def dX0_learn (v1 : Int32) (v2 : Int32) (v3 : Int32) (mm : Mm) : Option (Unit × Mm) :=
  DX0_learn_3 FU v1 v2 v3 0 mm
def DX0_weigh_130 (k36 : Nat → Int32 → Int32 → Int32 → Mm → Option (Unit × Mm)) (v1 : Nat) (v2 : Int32) (v3 : Int32) (v4 : Int32) (mm : Mm) : Option (Unit × Mm) :=
  k36 v1 v2 v3 (v4 + 1) mm
def BX0_weigh_36 (k36 : Nat → Int32 → Int32 → Int32 → Mm → Option (Unit × Mm)) (v1 : Nat) (v2 : Int32) (v3 : Int32) (v4 : Int32) (mm : Mm) : Option (Unit × Mm) :=
  (if 6 ≤ v4 then some ((), mm) else ((dX8_byteAt v1 (3 * v4) mm).bind fun q48 => ((dX8_byteAt v1 ((3 * v4) + 1) q48.2).bind fun q60 => ((dX8_byteAt v1 ((3 * v4) + 2) q60.2).bind fun q72 => ((dX7_holds 4 q48.1 q72.2).bind fun q84 => (if q84.1 = 0 then some ((), q84.2) else (if q60.1 < 0 then some ((), q84.2) else (if 3 ≤ q60.1 then some ((), q84.2) else (if q72.1 < 0 then some ((), q84.2) else (if q72.1 < 4 then (if q48.1 = v3 then ((dX0_learn v2 q60.1 q72.1 q84.2).bind fun q127 => DX0_weigh_130 k36 v1 v2 v3 v4 q127.2) else DX0_weigh_130 k36 v1 v2 v3 v4 q84.2) else some ((), q84.2)))))))))))
def DX0_weigh_36 : Nat → Nat → Int32 → Int32 → Int32 → Mm → Option (Unit × Mm)
  | 0, _, _, _, _, _ => none
  | n + 1, v1, v2, v3, v4, mm => BX0_weigh_36 (DX0_weigh_36 n) v1 v2 v3 v4 mm
def dX0_weigh (v1 : Nat) (v2 : Int32) (v3 : Int32) (mm : Mm) : Option (Unit × Mm) :=
  (if 38 ≤ v1 ∧ v1 < 44 then ((dX7_isOpen v3 mm).bind fun q5 => (if q5.1 = 0 then DX0_weigh_36 FU v1 v2 v3 0 (flL q5.2 18 6 1) else ((dX7_told 4 v3 q5.2).bind fun q18 => ((dX0_know q18.1 q18.2).bind fun q21 => some ((), q21.2))))) else none)
def dX0_weight (v1 : Int32) (mm : Mm) : Option (Int64 × Mm) :=
  (if inB v1 6 then some ((gL mm 18 (Int32.toNatClampNeg v1)), mm) else none)
def BX0_total_4 (k4 : Int64 → Int32 → Mm → Option (Int64 × Mm)) (v1 : Int64) (v3 : Int32) (mm : Mm) : Option (Int64 × Mm) :=
  (if 6 ≤ v3 then some (v1, mm) else (if inB v3 6 then k4 (v1 + (gL mm 18 (Int32.toNatClampNeg v3))) (v3 + 1) mm else none))
def DX0_total_4 : Nat → Int64 → Int32 → Mm → Option (Int64 × Mm)
  | 0, _, _, _ => none
  | n + 1, v1, v3, mm => BX0_total_4 (DX0_total_4 n) v1 v3 mm
def dX0_total (mm : Mm) : Option (Int64 × Mm) :=
  DX0_total_4 FU 0 0 mm
def DX9_reduced_55 (v5 : Int64) (s0 : Int64) (mm : Mm) : Option (Int64 × Mm) :=
  (if v5 = 0 then some (s0, mm) else (if v5 = 0 then none else some ((s0 / v5), mm)))
def DX9_reduced_45 (v0 : Int64) (v2 : Int64) (v4 : Int32) (v5 : Int64) (mm : Mm) : Option (Int64 × Mm) :=
  (if v4 = 0 then DX9_reduced_55 v5 v0 mm else DX9_reduced_55 v5 v2 mm)
def BX9_reduced_9 (k9 : Int64 → Int64 → Int32 → Int64 → Int64 → Int32 → Mm → Option (Int64 × Mm)) (v0 : Int64) (v2 : Int64) (v4 : Int32) (v5 : Int64) (v7 : Int64) (v9 : Int32) (mm : Mm) : Option (Int64 × Mm) :=
  (if 200 ≤ v9 then DX9_reduced_45 v0 v2 v4 v5 mm else (if v7 = 0 then DX9_reduced_45 v0 v2 v4 v5 mm else (if v7 = 0 then none else k9 v0 v2 v4 v7 (lRem v5 v7) (v9 + 1) mm)))
def DX9_reduced_9 : Nat → Int64 → Int64 → Int32 → Int64 → Int64 → Int32 → Mm → Option (Int64 × Mm)
  | 0, _, _, _, _, _, _, _ => none
  | n + 1, v0, v2, v4, v5, v7, v9, mm => BX9_reduced_9 (DX9_reduced_9 n) v0 v2 v4 v5 v7 v9 mm
def dX9_reduced (v0 : Int64) (v2 : Int64) (v4 : Int32) (mm : Mm) : Option (Int64 × Mm) :=
  DX9_reduced_9 FU v0 v2 v4 v0 v2 0 mm
def DX9_belief_29 (mm : Mm) : Option (Int64 × Mm) :=
  some ((-9223372036854775808), mm)
def dX9_belief (v1 : Int32) (v2 : Int32) (v3 : Int32) (v4 : Int32) (mm : Mm) : Option (Int64 × Mm) :=
  ((dX7_holds 0 v3 mm).bind fun q6 => (if q6.1 = 0 then DX9_belief_29 q6.2 else ((dX9_isPart v4 q6.2).bind fun q14 => (if q14.1 = 0 then DX9_belief_29 q14.2 else ((dX9_looksRefusal v1 v2 q14.2).bind fun q23 => (if q23.1 = 0 then (if inB v1 6 then ((dX0_weigh (38 + (Int32.toNatClampNeg v1)) (v2 / 10) (iRem v2 10) q23.2).bind fun q51 => ((dX0_weight v3 q51.2).bind fun q59 => ((dX0_total q59.2).bind fun q66 => ((dX9_reduced q59.1 q66.1 v4 q66.2).bind fun q71 => some (q71.1, q71.2))))) else none) else DX9_belief_29 q23.2))))))
def dX10_bytesIs (v1 : Int32) (mm : Mm) : Option (Int32 × Mm) :=
  ((dX10_isShelf v1 mm).bind fun q1 => (if q1.1 = 0 then some ((-1), q1.2) else (if inB v1 6 then (if 0 ≤ (gI q1.2 79 (Int32.toNatClampNeg v1)) then (if inB v1 6 then (if (gI q1.2 79 (Int32.toNatClampNeg v1)) = 50 then some (1, q1.2) else some ((-12), q1.2)) else none) else some ((-11), q1.2)) else none)))
def DX10_isBs_32 (mm : Mm) : Option (Int32 × Mm) :=
  some (0, mm)
def dX10_isBs (v1 : Int32) (mm : Mm) : Option (Int32 × Mm) :=
  (if v1 < 0 then DX10_isBs_32 mm else ((dX10_isBuyer (Int32.toInt64 (v1 / 10)) mm).bind fun q10 => (if q10.1 = 0 then DX10_isBs_32 q10.2 else ((dX10_isSack (Int32.toInt64 (iRem v1 10)) q10.2).bind fun q22 => (if q22.1 = 0 then DX10_isBs_32 q22.2 else some (1, q22.2))))))
def dX10_chance (v1 : Int32) (v2 : Int32) (v3 : Int32) (v4 : Int64) (mm : Mm) : Option (Int64 × Mm) :=
  (if inB (56 + v1) 62 then (if inB ((6 + (6 * v3)) + v2) 62 then (if (Int32.toInt64 (gI mm 59 (Int32.toNatClampNeg ((6 + (6 * v3)) + v2)))) = v4 then some ((Int32.toInt64 (3 * (gI mm 59 (Int32.toNatClampNeg (56 + v1))))), mm) else some ((Int32.toInt64 (12 - (gI mm 59 (Int32.toNatClampNeg (56 + v1))))), mm)) else none) else none)
def DX10_weighs_241 (k74 : Int32 → Int32 → Int32 → Int32 → Int32 → Mm → Option (Unit × Mm)) (v1 : Int32) (v2 : Int32) (v3 : Int32) (v4 : Int32) (v5 : Int32) (mm : Mm) : Option (Unit × Mm) :=
  k74 v1 v2 v3 v4 (v5 + 1) mm
def BX10_weighs_174 (k74 : Int32 → Int32 → Int32 → Int32 → Int32 → Mm → Option (Unit × Mm)) (k174 : Int32 → Int32 → Int32 → Int32 → Int32 → Int32 → Int32 → Mm → Option (Unit × Mm)) (v1 : Int32) (v2 : Int32) (v3 : Int32) (v4 : Int32) (v5 : Int32) (v6 : Int32) (v7 : Int32) (mm : Mm) : Option (Unit × Mm) :=
  (if 6 ≤ v7 then DX10_weighs_241 k74 v1 v2 v3 v4 v5 mm else (if v4 = 0 then DX10_weighs_241 k74 v1 v2 v3 v4 v5 mm else (if inB v6 360 then (if (gL mm 81 (Int32.toNatClampNeg v6)) = (Int32.toInt64 v3) then (if inB v7 6 then (if inB (v6 + 1) 360 then (if inB (v6 + 2) 360 then ((dX10_chance v2 v7 (Int64.toInt32 (gL mm 81 (Int32.toNatClampNeg (v6 + 1)))) (gL mm 81 (Int32.toNatClampNeg (v6 + 2))) mm).bind fun q230 => (if inB v7 6 then k174 v1 v2 v3 v4 v5 v6 (v7 + 1) (sL q230.2 68 (Int32.toNatClampNeg v7) ((gL mm 68 (Int32.toNatClampNeg v7)) * q230.1)) else none)) else none) else none) else none) else DX10_weighs_241 k74 v1 v2 v3 v4 v5 mm) else none)))
def DX10_weighs_174 (k74 : Int32 → Int32 → Int32 → Int32 → Int32 → Mm → Option (Unit × Mm)) : Nat → Int32 → Int32 → Int32 → Int32 → Int32 → Int32 → Int32 → Mm → Option (Unit × Mm)
  | 0, _, _, _, _, _, _, _, _ => none
  | n + 1, v1, v2, v3, v4, v5, v6, v7, mm => BX10_weighs_174 k74 (DX10_weighs_174 k74 n) v1 v2 v3 v4 v5 v6 v7 mm
def DX10_weighs_169 (k74 : Int32 → Int32 → Int32 → Int32 → Int32 → Mm → Option (Unit × Mm)) (v1 : Int32) (v2 : Int32) (v3 : Int32) (v5 : Int32) (v6 : Int32) (s0 : Int32) (mm : Mm) : Option (Unit × Mm) :=
  DX10_weighs_174 k74 FU v1 v2 v3 s0 v5 v6 0 mm
def DX10_weighs_168 (k74 : Int32 → Int32 → Int32 → Int32 → Int32 → Mm → Option (Unit × Mm)) (v1 : Int32) (v2 : Int32) (v3 : Int32) (v5 : Int32) (v6 : Int32) (mm : Mm) : Option (Unit × Mm) :=
  DX10_weighs_169 k74 v1 v2 v3 v5 v6 0 mm
def BX10_weighs_74 (k74 : Int32 → Int32 → Int32 → Int32 → Int32 → Mm → Option (Unit × Mm)) (v1 : Int32) (v2 : Int32) (v3 : Int32) (v4 : Int32) (v5 : Int32) (mm : Mm) : Option (Unit × Mm) :=
  (if 6 ≤ v5 then some ((), mm) else (if v4 = 0 then some ((), mm) else (if inB v1 6 then (if (gI mm 80 (Int32.toNatClampNeg v1)) ≤ ((3 * v5) + 2) then DX10_weighs_168 k74 v1 v2 v3 v5 ((60 * v1) + (3 * v5)) mm else (if inB ((60 * v1) + (3 * v5)) 360 then ((dX10_isSack (gL mm 81 (Int32.toNatClampNeg ((60 * v1) + (3 * v5)))) mm).bind fun q120 => (if q120.1 = 0 then DX10_weighs_168 k74 v1 v2 v3 v5 ((60 * v1) + (3 * v5)) q120.2 else (if inB (((60 * v1) + (3 * v5)) + 1) 360 then ((dX10_within (gL q120.2 81 (Int32.toNatClampNeg (((60 * v1) + (3 * v5)) + 1))) 0 2 q120.2).bind fun q139 => (if q139.1 = 0 then DX10_weighs_168 k74 v1 v2 v3 v5 ((60 * v1) + (3 * v5)) q139.2 else (if inB (((60 * v1) + (3 * v5)) + 2) 360 then ((dX10_within (gL q139.2 81 (Int32.toNatClampNeg (((60 * v1) + (3 * v5)) + 2))) 0 3 q139.2).bind fun q158 => (if q158.1 = 0 then DX10_weighs_168 k74 v1 v2 v3 v5 ((60 * v1) + (3 * v5)) q158.2 else DX10_weighs_169 k74 v1 v2 v3 v5 ((60 * v1) + (3 * v5)) 1 q158.2)) else none))) else none))) else none)) else none)))
def DX10_weighs_74 : Nat → Int32 → Int32 → Int32 → Int32 → Int32 → Mm → Option (Unit × Mm)
  | 0, _, _, _, _, _, _ => none
  | n + 1, v1, v2, v3, v4, v5, mm => BX10_weighs_74 (DX10_weighs_74 n) v1 v2 v3 v4 v5 mm
def DX10_weighs_69 (v1 : Int32) (v2 : Int32) (v3 : Int32) (s0 : Int32) (mm : Mm) : Option (Unit × Mm) :=
  DX10_weighs_74 FU v1 v2 v3 s0 0 mm
def DX10_weighs_68 (v1 : Int32) (v2 : Int32) (v3 : Int32) (mm : Mm) : Option (Unit × Mm) :=
  DX10_weighs_69 v1 v2 v3 0 mm
def DX10_weighs_44 (k3 : Int32 → Int32 → Int32 → Int32 → Mm → Option (Unit × Mm)) (v1 : Int32) (v2 : Int32) (v3 : Int32) (v4 : Int32) (s0 : Int64) (s1 : Int32) (mm : Mm) : Option (Unit × Mm) :=
  (if inB s1 6 then k3 v1 v2 v3 (v4 + 1) (sL mm 68 (Int32.toNatClampNeg s1) s0) else none)
def DX10_weighs_39 (k3 : Int32 → Int32 → Int32 → Int32 → Mm → Option (Unit × Mm)) (v1 : Int32) (v2 : Int32) (v3 : Int32) (v4 : Int32) (s0 : Int32) (mm : Mm) : Option (Unit × Mm) :=
  DX10_weighs_44 k3 v1 v2 v3 v4 1 s0 mm
def BX10_weighs_3 (k3 : Int32 → Int32 → Int32 → Int32 → Mm → Option (Unit × Mm)) (v1 : Int32) (v2 : Int32) (v3 : Int32) (v4 : Int32) (mm : Mm) : Option (Unit × Mm) :=
  (if 6 ≤ v4 then (if v1 < 0 then DX10_weighs_68 v1 v2 v3 mm else (if inB v3 10 then (if (gI mm 64 (Int32.toNatClampNeg v3)) = 0 then DX10_weighs_69 v1 v2 v3 1 mm else DX10_weighs_68 v1 v2 v3 mm) else none)) else (if inB v3 10 then (if (gI mm 64 (Int32.toNatClampNeg v3)) = 0 then DX10_weighs_39 k3 v1 v2 v3 v4 v4 mm else (if inB (24 + v3) 62 then (if (gI mm 59 (Int32.toNatClampNeg (24 + v3))) = v4 then DX10_weighs_39 k3 v1 v2 v3 v4 v4 mm else DX10_weighs_44 k3 v1 v2 v3 v4 0 v4 mm) else none)) else none))
def DX10_weighs_3 : Nat → Int32 → Int32 → Int32 → Int32 → Mm → Option (Unit × Mm)
  | 0, _, _, _, _, _ => none
  | n + 1, v1, v2, v3, v4, mm => BX10_weighs_3 (DX10_weighs_3 n) v1 v2 v3 v4 mm
def dX10_weighs (v1 : Int32) (v2 : Int32) (v3 : Int32) (mm : Mm) : Option (Unit × Mm) :=
  DX10_weighs_3 FU v1 v2 v3 0 mm
def BX10_weightAll_4 (k4 : Int64 → Int32 → Mm → Option (Int64 × Mm)) (v1 : Int64) (v3 : Int32) (mm : Mm) : Option (Int64 × Mm) :=
  (if 6 ≤ v3 then some (v1, mm) else (if inB v3 6 then k4 (v1 + (gL mm 68 (Int32.toNatClampNeg v3))) (v3 + 1) mm else none))
def DX10_weightAll_4 : Nat → Int64 → Int32 → Mm → Option (Int64 × Mm)
  | 0, _, _, _ => none
  | n + 1, v1, v3, mm => BX10_weightAll_4 (DX10_weightAll_4 n) v1 v3 mm
def dX10_weightAll (mm : Mm) : Option (Int64 × Mm) :=
  DX10_weightAll_4 FU 0 0 mm
def BX10_partOf_16 (k16 : Int64 → Int64 → Int32 → Int64 → Int64 → Mm → Option (Int64 × Mm)) (v0 : Int64) (v2 : Int64) (v4 : Int32) (v5 : Int64) (v7 : Int64) (mm : Mm) : Option (Int64 × Mm) :=
  (if v7 = 0 then (if v4 = 0 then (if v5 = 0 then none else some ((v0 / v5), mm)) else (if v5 = 0 then none else some ((v2 / v5), mm))) else (if v7 = 0 then none else k16 v0 v2 v4 v7 (lRem v5 v7) mm))
def DX10_partOf_16 : Nat → Int64 → Int64 → Int32 → Int64 → Int64 → Mm → Option (Int64 × Mm)
  | 0, _, _, _, _, _, _ => none
  | n + 1, v0, v2, v4, v5, v7, mm => BX10_partOf_16 (DX10_partOf_16 n) v0 v2 v4 v5 v7 mm
def dX10_partOf (v0 : Int64) (v2 : Int64) (v4 : Int32) (mm : Mm) : Option (Int64 × Mm) :=
  (if v0 = 0 then some ((Int32.toInt64 v4), mm) else DX10_partOf_16 FU v0 v2 v4 v0 v2 mm)
def DX10_belief_35 (mm : Mm) : Option (Int64 × Mm) :=
  some ((-9223372036854775808), mm)
def dX10_belief (v1 : Int32) (v2 : Int32) (v3 : Int32) (v4 : Int32) (mm : Mm) : Option (Int64 × Mm) :=
  ((dX10_bytesIs v1 mm).bind fun q2 => (if q2.1 < 0 then DX10_belief_35 q2.2 else ((dX10_isBs v2 q2.2).bind fun q10 => (if q10.1 = 0 then DX10_belief_35 q10.2 else ((dX10_isGood (Int32.toInt64 v3) q10.2).bind fun q18 => (if q18.1 = 0 then DX10_belief_35 q18.2 else ((dX10_within (Int32.toInt64 v4) 0 1 q18.2).bind fun q29 => (if q29.1 = 0 then DX10_belief_35 q29.2 else ((dX10_weighs v1 (v2 / 10) (iRem v2 10) q29.2).bind fun q49 => (if inB v3 6 then ((dX10_weightAll q49.2).bind fun q59 => ((dX10_partOf (gL q49.2 68 (Int32.toNatClampNeg v3)) q59.1 v4 q59.2).bind fun q64 => some (q64.1, q64.2))) else none))))))))))
def DX0_mostLikely_31 (k4 : Int32 → Int32 → Mm → Option (Int32 × Mm)) (v2 : Int32) (s0 : Int32) (mm : Mm) : Option (Int32 × Mm) :=
  k4 s0 (v2 + 1) mm
def BX0_mostLikely_4 (k4 : Int32 → Int32 → Mm → Option (Int32 × Mm)) (v1 : Int32) (v2 : Int32) (mm : Mm) : Option (Int32 × Mm) :=
  (if 6 ≤ v2 then some (v1, mm) else (if inB v2 6 then (if inB v1 6 then (if (gL mm 18 (Int32.toNatClampNeg v2)) ≤ (gL mm 18 (Int32.toNatClampNeg v1)) then DX0_mostLikely_31 k4 v2 v1 mm else DX0_mostLikely_31 k4 v2 v2 mm) else none) else none))
def DX0_mostLikely_4 : Nat → Int32 → Int32 → Mm → Option (Int32 × Mm)
  | 0, _, _, _ => none
  | n + 1, v1, v2, mm => BX0_mostLikely_4 (DX0_mostLikely_4 n) v1 v2 mm
def dX0_mostLikely (mm : Mm) : Option (Int32 × Mm) :=
  DX0_mostLikely_4 FU 0 1 mm
def BX0_worthSum_16 (k16 : Int32 → Int64 → Int32 → Int32 → Mm → Option (Int64 × Mm)) (v1 : Int32) (v3 : Int64) (v5 : Int32) (v6 : Int32) (mm : Mm) : Option (Int64 × Mm) :=
  (if 6 ≤ v6 then some (v3, mm) else (if inB v6 6 then ((dX7_worthTo v1 v6 v5 mm).bind fun q40 => k16 v1 (v3 + ((gL mm 18 (Int32.toNatClampNeg v6)) * (Int32.toInt64 q40.1))) v5 (v6 + 1) q40.2) else none))
def DX0_worthSum_16 : Nat → Int32 → Int64 → Int32 → Int32 → Mm → Option (Int64 × Mm)
  | 0, _, _, _, _, _ => none
  | n + 1, v1, v3, v5, v6, mm => BX0_worthSum_16 (DX0_worthSum_16 n) v1 v3 v5 v6 mm
def dX0_worthSum (v1 : Int32) (v2 : Int32) (mm : Mm) : Option (Int64 × Mm) :=
  ((dX7_told 5 v2 mm).bind fun q8 => DX0_worthSum_16 FU v1 0 q8.1 0 q8.2)
def DX9_likeliest_17 (v1 : Int32) (v2 : Int32) (v3 : Int32) (s0 : Int32) (mm : Mm) : Option (Int32 × Mm) :=
  (if s0 = 0 then (if inB v1 6 then ((dX0_weigh (38 + (Int32.toNatClampNeg v1)) (v2 / 10) (iRem v2 10) mm).bind fun q53 => (if v3 = 0 then ((dX0_mostLikely q53.2).bind fun q64 => some (q64.1, q64.2)) else ((dX0_worthSum (v2 / 10) (iRem v2 10) q53.2).bind fun q76 => ((dX7_told 5 (iRem v2 10) q76.2).bind fun q86 => ((dX0_total q86.2).bind fun q94 => (if q76.1 ≤ ((Int32.toInt64 q86.1) * q94.1) then some (0, q94.2) else some (1, q94.2))))))) else none) else some (s0, mm))
def dX9_likeliest (v1 : Int32) (v2 : Int32) (v3 : Int32) (mm : Mm) : Option (Int32 × Mm) :=
  ((dX9_isPart v3 mm).bind fun q1 => (if q1.1 = 0 then DX9_likeliest_17 v1 v2 v3 (-1) q1.2 else ((dX9_looksRefusal v1 v2 q1.2).bind fun q10 => DX9_likeliest_17 v1 v2 v3 q10.1 q10.2)))
def DX10_heaviest_31 (k4 : Int32 → Int32 → Mm → Option (Int32 × Mm)) (v2 : Int32) (s0 : Int32) (mm : Mm) : Option (Int32 × Mm) :=
  k4 s0 (v2 + 1) mm
def BX10_heaviest_4 (k4 : Int32 → Int32 → Mm → Option (Int32 × Mm)) (v1 : Int32) (v2 : Int32) (mm : Mm) : Option (Int32 × Mm) :=
  (if 6 ≤ v2 then some (v1, mm) else (if inB v2 6 then (if inB v1 6 then (if (gL mm 68 (Int32.toNatClampNeg v2)) ≤ (gL mm 68 (Int32.toNatClampNeg v1)) then DX10_heaviest_31 k4 v2 v1 mm else DX10_heaviest_31 k4 v2 v2 mm) else none) else none))
def DX10_heaviest_4 : Nat → Int32 → Int32 → Mm → Option (Int32 × Mm)
  | 0, _, _, _ => none
  | n + 1, v1, v2, mm => BX10_heaviest_4 (DX10_heaviest_4 n) v1 v2 mm
def dX10_heaviest (mm : Mm) : Option (Int32 × Mm) :=
  DX10_heaviest_4 FU 0 1 mm
def BX10_worthAll_6 (k6 : Int32 → Int32 → Int64 → Int32 → Mm → Option (Int64 × Mm)) (v1 : Int32) (v3 : Int32) (v4 : Int64) (v6 : Int32) (mm : Mm) : Option (Int64 × Mm) :=
  (if 6 ≤ v6 then some (v4, mm) else (if inB v6 6 then ((dX10_worthFor v1 v6 v3 mm).bind fun q27 => k6 v1 v3 (v4 + ((gL mm 68 (Int32.toNatClampNeg v6)) * (Int32.toInt64 q27.1))) (v6 + 1) q27.2) else none))
def DX10_worthAll_6 : Nat → Int32 → Int32 → Int64 → Int32 → Mm → Option (Int64 × Mm)
  | 0, _, _, _, _, _ => none
  | n + 1, v1, v3, v4, v6, mm => BX10_worthAll_6 (DX10_worthAll_6 n) v1 v3 v4 v6 mm
def dX10_worthAll (v1 : Int32) (v2 : Int32) (v3 : Int32) (mm : Mm) : Option (Int64 × Mm) :=
  DX10_worthAll_6 FU v1 v3 0 0 mm
def DX10_likeliest_27 (mm : Mm) : Option (Int32 × Mm) :=
  some ((-1), mm)
def dX10_likeliest (v1 : Int32) (v2 : Int32) (v3 : Int32) (mm : Mm) : Option (Int32 × Mm) :=
  ((dX10_bytesIs v1 mm).bind fun q2 => (if q2.1 = (-1) then DX10_likeliest_27 q2.2 else ((dX10_isBs v2 q2.2).bind fun q11 => (if q11.1 = 0 then DX10_likeliest_27 q11.2 else ((dX10_within (Int32.toInt64 v3) 0 1 q11.2).bind fun q21 => (if q21.1 = 0 then DX10_likeliest_27 q21.2 else ((dX10_bytesIs v1 q21.2).bind fun q31 => (if 0 ≤ q31.1 then ((dX10_weighs v1 (v2 / 10) (iRem v2 10) q31.2).bind fun q53 => (if inB (34 + (iRem v2 10)) 62 then (if v3 = 0 then ((dX10_heaviest q53.2).bind fun q75 => some (q75.1, q75.2)) else ((dX10_worthAll (v2 / 10) (iRem v2 10) (gI q53.2 59 (Int32.toNatClampNeg (34 + (iRem v2 10)))) q53.2).bind fun q92 => ((dX10_weightAll q92.2).bind fun q99 => (if q92.1 ≤ ((Int32.toInt64 (gI q53.2 59 (Int32.toNatClampNeg (34 + (iRem v2 10))))) * q99.1) then some (0, q99.2) else some (1, q99.2))))) else none)) else ((dX10_bytesIs v1 q31.2).bind fun q39 => some (q39.1, q39.2))))))))))
def DX9_worth_16 (mm : Mm) : Option (Int64 × Mm) :=
  some ((-9223372036854775808), mm)
def dX9_worth (v1 : Int32) (v2 : Int32) (v3 : Int32) (mm : Mm) : Option (Int64 × Mm) :=
  ((dX9_isPart v3 mm).bind fun q1 => (if q1.1 = 0 then DX9_worth_16 q1.2 else ((dX9_looksRefusal v1 v2 q1.2).bind fun q10 => (if q10.1 = 0 then (if inB v1 6 then ((dX0_weigh (38 + (Int32.toNatClampNeg v1)) (v2 / 10) (iRem v2 10) q10.2).bind fun q38 => ((dX0_worthSum (v2 / 10) (iRem v2 10) q38.2).bind fun q53 => ((dX0_total q53.2).bind fun q60 => ((dX9_reduced q53.1 q60.1 v3 q60.2).bind fun q64 => some (q64.1, q64.2))))) else none) else DX9_worth_16 q10.2))))
def DX10_worth_26 (mm : Mm) : Option (Int64 × Mm) :=
  some ((-9223372036854775808), mm)
def dX10_worth (v1 : Int32) (v2 : Int32) (v3 : Int32) (mm : Mm) : Option (Int64 × Mm) :=
  ((dX10_bytesIs v1 mm).bind fun q2 => (if q2.1 < 0 then DX10_worth_26 q2.2 else ((dX10_isBs v2 q2.2).bind fun q10 => (if q10.1 = 0 then DX10_worth_26 q10.2 else ((dX10_within (Int32.toInt64 v3) 0 1 q10.2).bind fun q20 => (if q20.1 = 0 then DX10_worth_26 q20.2 else ((dX10_weighs v1 (v2 / 10) (iRem v2 10) q20.2).bind fun q40 => (if inB (34 + (iRem v2 10)) 62 then ((dX10_worthAll (v2 / 10) (iRem v2 10) (gI q40.2 59 (Int32.toNatClampNeg (34 + (iRem v2 10)))) q40.2).bind fun q64 => ((dX10_weightAll q64.2).bind fun q68 => ((dX10_partOf q64.1 q68.1 v3 q68.2).bind fun q72 => some (q72.1, q72.2)))) else none))))))))
def BX0_followed_36 (k24 : Int32 → Int32 → Int64 → Int32 → Mm → Option (Int64 × Mm)) (k36 : Int32 → Int32 → Int64 → Int32 → Int64 → Int32 → Mm → Option (Int64 × Mm)) (v1 : Int32) (v2 : Int32) (v3 : Int64) (v5 : Int32) (v6 : Int64) (v8 : Int32) (mm : Mm) : Option (Int64 × Mm) :=
  (if 6 ≤ v8 then k24 v1 v2 (v3 + v6) (v5 + 1) mm else (if inB v8 6 then ((dX0_seeming v1 v8 v2 v5 mm).bind fun q59 => k36 v1 v2 v3 v5 (lMax v6 ((gL mm 18 (Int32.toNatClampNeg v8)) * (Int32.toInt64 q59.1))) (v8 + 1) q59.2) else none))
def DX0_followed_36 (k24 : Int32 → Int32 → Int64 → Int32 → Mm → Option (Int64 × Mm)) : Nat → Int32 → Int32 → Int64 → Int32 → Int64 → Int32 → Mm → Option (Int64 × Mm)
  | 0, _, _, _, _, _, _, _ => none
  | n + 1, v1, v2, v3, v5, v6, v8, mm => BX0_followed_36 k24 (DX0_followed_36 k24 n) v1 v2 v3 v5 v6 v8 mm
def BX0_followed_24 (k24 : Int32 → Int32 → Int64 → Int32 → Mm → Option (Int64 × Mm)) (v1 : Int32) (v2 : Int32) (v3 : Int64) (v5 : Int32) (mm : Mm) : Option (Int64 × Mm) :=
  (if 4 ≤ v5 then some (v3, mm) else DX0_followed_36 k24 FU v1 v2 v3 v5 0 0 mm)
def DX0_followed_24 : Nat → Int32 → Int32 → Int64 → Int32 → Mm → Option (Int64 × Mm)
  | 0, _, _, _, _, _ => none
  | n + 1, v1, v2, v3, v5, mm => BX0_followed_24 (DX0_followed_24 n) v1 v2 v3 v5 mm
def dX0_followed (v1 : Int32) (v2 : Int32) (mm : Mm) : Option (Int64 × Mm) :=
  (if v2 = 3 then ((dX0_mostLikely mm).bind fun q13 => (if inB q13.1 6 then some ((36 * (gL q13.2 18 (Int32.toNatClampNeg q13.1))), q13.2) else none)) else DX0_followed_24 FU v1 v2 0 0 mm)
def DX0_bestLook_30 (k4 : Int32 → Int32 → Int32 → Mm → Option (Int32 × Mm)) (v1 : Int32) (v3 : Int32) (s0 : Int32) (mm : Mm) : Option (Int32 × Mm) :=
  k4 v1 s0 (v3 + 1) mm
def BX0_bestLook_4 (k4 : Int32 → Int32 → Int32 → Mm → Option (Int32 × Mm)) (v1 : Int32) (v2 : Int32) (v3 : Int32) (mm : Mm) : Option (Int32 × Mm) :=
  (if 3 ≤ v3 then some (v2, mm) else ((dX0_followed v1 v3 mm).bind fun q12 => ((dX0_followed v1 v2 q12.2).bind fun q18 => (if q12.1 ≤ q18.1 then DX0_bestLook_30 k4 v1 v3 v2 q18.2 else DX0_bestLook_30 k4 v1 v3 v3 q18.2))))
def DX0_bestLook_4 : Nat → Int32 → Int32 → Int32 → Mm → Option (Int32 × Mm)
  | 0, _, _, _, _ => none
  | n + 1, v1, v2, v3, mm => BX0_bestLook_4 (DX0_bestLook_4 n) v1 v2 v3 mm
def dX0_bestLook (v1 : Int32) (mm : Mm) : Option (Int32 × Mm) :=
  DX0_bestLook_4 FU v1 3 0 mm
def dX9_next (v1 : Int32) (v2 : Int32) (mm : Mm) : Option (Int32 × Mm) :=
  ((dX9_looksRefusal v1 v2 mm).bind fun q3 => (if q3.1 = 0 then ((dX7_isOpen (iRem v2 10) q3.2).bind fun q21 => (if q21.1 = 0 then (if inB v1 6 then ((dX0_weigh (38 + (Int32.toNatClampNeg v1)) (v2 / 10) (iRem v2 10) q21.2).bind fun q48 => ((dX0_bestLook (v2 / 10) q48.2).bind fun q59 => some (q59.1, q59.2))) else none) else some ((-5), q21.2))) else some (q3.1, q3.2)))
def DX10_rightBy_60 (k5 : Int32 → Int32 → Int64 → Int32 → Mm → Option (Int64 × Mm)) (k17 : Int32 → Int32 → Int64 → Int32 → Int64 → Int32 → Mm → Option (Int64 × Mm)) (v1 : Int32) (v2 : Int32) (v3 : Int64) (v5 : Int32) (v8 : Int32) (s0 : Int64) (mm : Mm) : Option (Int64 × Mm) :=
  k17 v1 v2 v3 v5 s0 (v8 + 1) mm
def BX10_rightBy_17 (k5 : Int32 → Int32 → Int64 → Int32 → Mm → Option (Int64 × Mm)) (k17 : Int32 → Int32 → Int64 → Int32 → Int64 → Int32 → Mm → Option (Int64 × Mm)) (v1 : Int32) (v2 : Int32) (v3 : Int64) (v5 : Int32) (v6 : Int64) (v8 : Int32) (mm : Mm) : Option (Int64 × Mm) :=
  (if 6 ≤ v8 then k5 v1 v2 (v3 + v6) (v5 + 1) mm else (if inB v8 6 then ((dX10_chance v1 v8 v2 (Int32.toInt64 v5) mm).bind fun q39 => (if ((gL mm 68 (Int32.toNatClampNeg v8)) * q39.1) ≤ v6 then DX10_rightBy_60 k5 k17 v1 v2 v3 v5 v8 v6 q39.2 else DX10_rightBy_60 k5 k17 v1 v2 v3 v5 v8 ((gL mm 68 (Int32.toNatClampNeg v8)) * q39.1) q39.2)) else none))
def DX10_rightBy_17 (k5 : Int32 → Int32 → Int64 → Int32 → Mm → Option (Int64 × Mm)) : Nat → Int32 → Int32 → Int64 → Int32 → Int64 → Int32 → Mm → Option (Int64 × Mm)
  | 0, _, _, _, _, _, _, _ => none
  | n + 1, v1, v2, v3, v5, v6, v8, mm => BX10_rightBy_17 k5 (DX10_rightBy_17 k5 n) v1 v2 v3 v5 v6 v8 mm
def BX10_rightBy_5 (k5 : Int32 → Int32 → Int64 → Int32 → Mm → Option (Int64 × Mm)) (v1 : Int32) (v2 : Int32) (v3 : Int64) (v5 : Int32) (mm : Mm) : Option (Int64 × Mm) :=
  (if 4 ≤ v5 then some (v3, mm) else DX10_rightBy_17 k5 FU v1 v2 v3 v5 0 0 mm)
def DX10_rightBy_5 : Nat → Int32 → Int32 → Int64 → Int32 → Mm → Option (Int64 × Mm)
  | 0, _, _, _, _, _ => none
  | n + 1, v1, v2, v3, v5, mm => BX10_rightBy_5 (DX10_rightBy_5 n) v1 v2 v3 v5 mm
def dX10_rightBy (v1 : Int32) (v2 : Int32) (mm : Mm) : Option (Int64 × Mm) :=
  DX10_rightBy_5 FU v1 v2 0 0 mm
def DX10_bestLook_48 (k19 : Int32 → Int32 → Int64 → Int32 → Mm → Option (Int32 × Mm)) (v1 : Int32) (v2 : Int32) (v3 : Int64) (v5 : Int32) (mm : Mm) : Option (Int32 × Mm) :=
  k19 v1 v2 v3 (v5 + 1) mm
def BX10_bestLook_19 (k19 : Int32 → Int32 → Int64 → Int32 → Mm → Option (Int32 × Mm)) (v1 : Int32) (v2 : Int32) (v3 : Int64) (v5 : Int32) (mm : Mm) : Option (Int32 × Mm) :=
  (if 3 ≤ v5 then some (v2, mm) else ((dX10_rightBy v1 v5 mm).bind fun q29 => (if q29.1 ≤ v3 then DX10_bestLook_48 k19 v1 v2 v3 v5 q29.2 else ((dX10_rightBy v1 v5 q29.2).bind fun q41 => DX10_bestLook_48 k19 v1 v5 q41.1 v5 q41.2))))
def DX10_bestLook_19 : Nat → Int32 → Int32 → Int64 → Int32 → Mm → Option (Int32 × Mm)
  | 0, _, _, _, _, _ => none
  | n + 1, v1, v2, v3, v5, mm => BX10_bestLook_19 (DX10_bestLook_19 n) v1 v2 v3 v5 mm
def dX10_bestLook (v1 : Int32) (mm : Mm) : Option (Int32 × Mm) :=
  ((dX10_heaviest mm).bind fun q10 => (if inB q10.1 6 then DX10_bestLook_19 FU v1 3 (36 * (gL q10.2 68 (Int32.toNatClampNeg q10.1))) 0 q10.2 else none))
def DX10_next_17 (mm : Mm) : Option (Int32 × Mm) :=
  some ((-1), mm)
def dX10_next (v1 : Int32) (v2 : Int32) (mm : Mm) : Option (Int32 × Mm) :=
  ((dX10_bytesIs v1 mm).bind fun q2 => (if q2.1 = (-1) then DX10_next_17 q2.2 else ((dX10_isBs v2 q2.2).bind fun q11 => (if q11.1 = 0 then DX10_next_17 q11.2 else ((dX10_bytesIs v1 q11.2).bind fun q21 => (if 0 ≤ q21.1 then (if inB (iRem v2 10) 10 then (if (gI q21.2 64 (Int32.toNatClampNeg (iRem v2 10))) = 0 then ((dX10_weighs v1 (v2 / 10) (iRem v2 10) q21.2).bind fun q58 => ((dX10_bestLook (v2 / 10) q58.2).bind fun q66 => some (q66.1, q66.2))) else some ((-5), q21.2)) else none) else ((dX10_bytesIs v1 q21.2).bind fun q29 => some (q29.1, q29.2))))))))
def DX9_right_16 (mm : Mm) : Option (Int64 × Mm) :=
  some ((-9223372036854775808), mm)
def dX9_right (v1 : Int32) (v2 : Int32) (v3 : Int32) (mm : Mm) : Option (Int64 × Mm) :=
  ((dX9_isPart v3 mm).bind fun q1 => (if q1.1 = 0 then DX9_right_16 q1.2 else ((dX9_looksRefusal v1 v2 q1.2).bind fun q10 => (if q10.1 = 0 then ((dX7_isOpen (iRem v2 10) q10.2).bind fun q28 => (if q28.1 = 0 then (if inB v1 6 then ((dX0_weigh (38 + (Int32.toNatClampNeg v1)) (v2 / 10) (iRem v2 10) q28.2).bind fun q58 => ((dX0_bestLook (v2 / 10) q58.2).bind fun q73 => ((dX0_followed (v2 / 10) q73.1 q73.2).bind fun q76 => ((dX0_total q76.2).bind fun q86 => ((dX9_reduced q76.1 (36 * q86.1) v3 q86.2).bind fun q91 => some (q91.1, q91.2)))))) else none) else some (1, q28.2))) else DX9_right_16 q10.2))))
def DX10_right_26 (mm : Mm) : Option (Int64 × Mm) :=
  some ((-9223372036854775808), mm)
def dX10_right (v1 : Int32) (v2 : Int32) (v3 : Int32) (mm : Mm) : Option (Int64 × Mm) :=
  ((dX10_bytesIs v1 mm).bind fun q2 => (if q2.1 < 0 then DX10_right_26 q2.2 else ((dX10_isBs v2 q2.2).bind fun q10 => (if q10.1 = 0 then DX10_right_26 q10.2 else ((dX10_within (Int32.toInt64 v3) 0 1 q10.2).bind fun q20 => (if q20.1 = 0 then DX10_right_26 q20.2 else ((dX10_weighs v1 (v2 / 10) (iRem v2 10) q20.2).bind fun q40 => (if inB (iRem v2 10) 10 then (if (gI q40.2 64 (Int32.toNatClampNeg (iRem v2 10))) = 0 then ((dX10_bestLook (v2 / 10) q40.2).bind fun q62 => (if q62.1 = 3 then ((dX10_heaviest q62.2).bind fun q78 => (if inB q78.1 6 then ((dX10_weightAll q78.2).bind fun q83 => ((dX10_partOf (gL q78.2 68 (Int32.toNatClampNeg q78.1)) q83.1 v3 q83.2).bind fun q87 => some (q87.1, q87.2))) else none)) else ((dX10_rightBy (v2 / 10) q62.1 q62.2).bind fun q100 => ((dX10_weightAll q100.2).bind fun q107 => ((dX10_partOf q100.1 (36 * q107.1) v3 q107.2).bind fun q112 => some (q112.1, q112.2)))))) else some (1, q40.2)) else none))))))))
def dX2_noOffers (mm : Mm) : Option (Unit × Mm) :=
  some ((), (flI mm 20 10 0))
def dX0_cutWorth (v1 : Int32) (v2 : Int32) (mm : Mm) : Option (Int32 × Mm) :=
  ((dX0_total mm).bind fun q1 => (if q1.1 = 0 then some (0, q1.2) else ((dX0_worthSum v1 v2 q1.2).bind fun q18 => (if q1.1 = 0 then none else some ((Int64.toInt32 (q18.1 / q1.1)), q18.2)))))
def DX7_isFree_22 (mm : Mm) : Option (Int32 × Mm) :=
  some (0, mm)
def dX7_isFree (v1 : Int32) (mm : Mm) : Option (Int32 × Mm) :=
  ((dX7_told 9 v1 mm).bind fun q4 => (if 0 ≤ q4.1 then DX7_isFree_22 q4.2 else ((dX7_isOpen v1 q4.2).bind fun q12 => (if q12.1 = 0 then some (1, q12.2) else DX7_isFree_22 q12.2))))
def dX2_offer (v1 : Int32) (v2 : Int32) (mm : Mm) : Option (Unit × Mm) :=
  ((dX7_isFree v1 mm).bind fun q5 => (if q5.1 = 0 then some ((), q5.2) else ((dX7_told 5 v1 q5.2).bind fun q23 => (if inB v1 10 then some ((), (sI q23.2 20 (Int32.toNatClampNeg v1) (v2 - q23.1))) else none))))
def dJ6_bitCount_0f7a4 (v0 : Int32) (mm : Mm) : Option (Int32 × Mm) :=
  some (((((((((v0 - ((iUshr v0 1) &&& 1431655765)) &&& 858993459) + ((iUshr (v0 - ((iUshr v0 1) &&& 1431655765)) 2) &&& 858993459)) + (iUshr (((v0 - ((iUshr v0 1) &&& 1431655765)) &&& 858993459) + ((iUshr (v0 - ((iUshr v0 1) &&& 1431655765)) 2) &&& 858993459)) 4)) &&& 252645135) + (iUshr (((((v0 - ((iUshr v0 1) &&& 1431655765)) &&& 858993459) + ((iUshr (v0 - ((iUshr v0 1) &&& 1431655765)) 2) &&& 858993459)) + (iUshr (((v0 - ((iUshr v0 1) &&& 1431655765)) &&& 858993459) + ((iUshr (v0 - ((iUshr v0 1) &&& 1431655765)) 2) &&& 858993459)) 4)) &&& 252645135) 8)) + (iUshr ((((((v0 - ((iUshr v0 1) &&& 1431655765)) &&& 858993459) + ((iUshr (v0 - ((iUshr v0 1) &&& 1431655765)) 2) &&& 858993459)) + (iUshr (((v0 - ((iUshr v0 1) &&& 1431655765)) &&& 858993459) + ((iUshr (v0 - ((iUshr v0 1) &&& 1431655765)) 2) &&& 858993459)) 4)) &&& 252645135) + (iUshr (((((v0 - ((iUshr v0 1) &&& 1431655765)) &&& 858993459) + ((iUshr (v0 - ((iUshr v0 1) &&& 1431655765)) 2) &&& 858993459)) + (iUshr (((v0 - ((iUshr v0 1) &&& 1431655765)) &&& 858993459) + ((iUshr (v0 - ((iUshr v0 1) &&& 1431655765)) 2) &&& 858993459)) 4)) &&& 252645135) 8)) 16)) &&& 63), mm)
def DX2_isBetter_51 (mm : Mm) : Option (Int32 × Mm) :=
  some (1, mm)
def DX2_isBetter_55 (mm : Mm) : Option (Int32 × Mm) :=
  some (0, mm)
def dX2_isBetter (v1 : Int32) (v2 : Int32) (mm : Mm) : Option (Int32 × Mm) :=
  (if v2 = (gI mm 19 5) then ((dJ6_bitCount_0f7a4 (gI mm 19 4) mm).bind fun q26 => ((dJ6_bitCount_0f7a4 v1 q26.2).bind fun q30 => (if 0 < (q26.1 - q30.1) then DX2_isBetter_51 q30.2 else (if (q26.1 - q30.1) = 0 then (if (gI q30.2 19 4) ≤ v1 then DX2_isBetter_55 q30.2 else DX2_isBetter_51 q30.2) else DX2_isBetter_55 q30.2)))) else (if v2 ≤ (gI mm 19 5) then some (0, mm) else some (1, mm)))
def bX2_choose_ (r_X2_choose_ : Int32 → Int32 → Int32 → Int32 → Mm → Option (Unit × Mm)) (v1 : Int32) (v2 : Int32) (v3 : Int32) (v4 : Int32) (mm : Mm) : Option (Unit × Mm) :=
  (if v1 < 10 then ((r_X2_choose_ (v1 + 1) v2 v3 v4 mm).bind fun q34 => (if inB v1 10 then (if (gI q34.2 20 (Int32.toNatClampNeg v1)) ≤ 0 then some ((), q34.2) else ((dX7_told 5 v1 q34.2).bind fun q52 => (if v4 < q52.1 then some ((), q52.2) else (if inB v1 10 then ((dX7_told 5 v1 q52.2).bind fun q85 => ((r_X2_choose_ (v1 + 1) (v2 ||| (iShl 1 v1)) (v3 + (gI q52.2 20 (Int32.toNatClampNeg v1))) (v4 - q85.1) q85.2).bind fun q89 => some ((), q89.2))) else none)))) else none)) else ((dX2_isBetter v2 v3 mm).bind fun q9 => (if q9.1 = 0 then some ((), q9.2) else some ((), (sI (sI q9.2 19 4 v2) 19 5 v3)))))
def gX2_choose_ : Nat → (Int32 → Int32 → Int32 → Int32 → Mm → Option (Unit × Mm))
  | 0 => (fun _ _ _ _ _ => none)
  | n + 1 => (bX2_choose_ ((gX2_choose_ n)))
def dX2_choose_ (n : Nat) : Int32 → Int32 → Int32 → Int32 → Mm → Option (Unit × Mm) := (gX2_choose_ n)
def dX2_choose (v1 : Int32) (mm : Mm) : Option (Unit × Mm) :=
  ((dX2_choose_ 100 0 0 0 v1 (sI (sI mm 19 4 0) 19 5 0)).bind fun q15 => some ((), q15.2))
def DX9_buys_27 (mm : Mm) : Option (Int32 × Mm) :=
  some ((-1), mm)
def BX9_buys_58 (k58 : Int32 → Int32 → Int32 → Int32 → Mm → Option (Int32 × Mm)) (v1 : Int32) (v2 : Int32) (v3 : Int32) (v5 : Int32) (mm : Mm) : Option (Int32 × Mm) :=
  (if (gI mm 1 2) ≤ v5 then ((dX7_told 6 v2 mm).bind fun q122 => ((dX2_choose q122.1 q122.2).bind fun q125 => (if v3 = 0 then some ((gI q125.2 19 5), q125.2) else some ((gI q125.2 19 4), q125.2)))) else (if inB v1 6 then ((dX0_weigh (38 + (Int32.toNatClampNeg v1)) v2 v5 mm).bind fun q83 => ((dX0_cutWorth v2 v5 q83.2).bind fun q99 => ((dX2_offer v5 q99.1 q99.2).bind fun q102 => k58 v1 v2 v3 (v5 + 1) q102.2))) else none))
def DX9_buys_58 : Nat → Int32 → Int32 → Int32 → Int32 → Mm → Option (Int32 × Mm)
  | 0, _, _, _, _, _ => none
  | n + 1, v1, v2, v3, v5, mm => BX9_buys_58 (DX9_buys_58 n) v1 v2 v3 v5 mm
def dX9_buys (v1 : Int32) (v2 : Int32) (v3 : Int32) (mm : Mm) : Option (Int32 × Mm) :=
  ((dX9_isShelf v1 mm).bind fun q1 => (if q1.1 = 0 then DX9_buys_27 q1.2 else ((dX7_holds 6 v2 q1.2).bind fun q14 => (if q14.1 = 0 then DX9_buys_27 q14.2 else ((dX9_isPart v3 q14.2).bind fun q21 => (if q21.1 = 0 then DX9_buys_27 q21.2 else (if inB v1 6 then ((dX8_bytesRefusal (38 + (Int32.toNatClampNeg v1)) q21.2).bind fun q35 => (if q35.1 = 0 then ((dX2_noOffers q35.2).bind fun q52 => DX9_buys_58 FU v1 v2 v3 0 q52.2) else some (q35.1, q35.2))) else none)))))))
def dX10_gainOf (v1 : Int32) (v2 : Int32) (v3 : Int32) (mm : Mm) : Option (Int32 × Mm) :=
  ((dX10_weighs v1 v2 v3 mm).bind fun q4 => (if inB (34 + v3) 62 then ((dX10_worthAll v2 v3 (gI q4.2 59 (Int32.toNatClampNeg (34 + v3))) q4.2).bind fun q23 => ((dX10_weightAll q23.2).bind fun q27 => (if q27.1 = 0 then none else some (((Int64.toInt32 (q23.1 / q27.1)) - (gI q4.2 59 (Int32.toNatClampNeg (34 + v3)))), q27.2)))) else none))
def dX10_isIn (v0 : Int32) (v1 : Int32) (mm : Mm) : Option (Int32 × Mm) :=
  (if ((iShr v0 v1) &&& 1) = 1 then some (1, mm) else some (0, mm))
def DX10_isFree_22 (mm : Mm) : Option (Int32 × Mm) :=
  some (0, mm)
def dX10_isFree (v1 : Int32) (mm : Mm) : Option (Int32 × Mm) :=
  (if inB v1 10 then (if 0 ≤ (gI mm 63 (Int32.toNatClampNeg v1)) then DX10_isFree_22 mm else (if inB v1 10 then (if (gI mm 64 (Int32.toNatClampNeg v1)) = 0 then some (1, mm) else DX10_isFree_22 mm) else none)) else none)
def BX10_bitsOf_4 (k4 : Int32 → Int32 → Int32 → Mm → Option (Int32 × Mm)) (v0 : Int32) (v1 : Int32) (v2 : Int32) (mm : Mm) : Option (Int32 × Mm) :=
  (if 10 ≤ v2 then some (v1, mm) else k4 v0 (v1 + ((iShr v0 v2) &&& 1)) (v2 + 1) mm)
def DX10_bitsOf_4 : Nat → Int32 → Int32 → Int32 → Mm → Option (Int32 × Mm)
  | 0, _, _, _, _ => none
  | n + 1, v0, v1, v2, mm => BX10_bitsOf_4 (DX10_bitsOf_4 n) v0 v1 v2 mm
def dX10_bitsOf (v0 : Int32) (mm : Mm) : Option (Int32 × Mm) :=
  DX10_bitsOf_4 FU v0 0 0 mm
def DX10_buys_28 (mm : Mm) : Option (Int32 × Mm) :=
  some ((-1), mm)
def DX10_buys_236 (k86 : Int32 → Int32 → Int32 → Int32 → Int32 → Mm → Option (Int32 × Mm)) (v2 : Int32) (v3 : Int32) (v4 : Int32) (v5 : Int32) (v6 : Int32) (mm : Mm) : Option (Int32 × Mm) :=
  k86 v2 v3 v4 v5 (v6 + 1) mm
def DX10_buys_228 (k86 : Int32 → Int32 → Int32 → Int32 → Int32 → Mm → Option (Int32 × Mm)) (v2 : Int32) (v3 : Int32) (v6 : Int32) (v8 : Int32) (mm : Mm) : Option (Int32 × Mm) :=
  DX10_buys_236 k86 v2 v3 v6 v8 v6 mm
def DX10_buys_176 (k86 : Int32 → Int32 → Int32 → Int32 → Int32 → Mm → Option (Int32 × Mm)) (k109 : Int32 → Int32 → Int32 → Int32 → Int32 → Int32 → Int32 → Int32 → Int32 → Mm → Option (Int32 × Mm)) (v2 : Int32) (v3 : Int32) (v4 : Int32) (v5 : Int32) (v6 : Int32) (v7 : Int32) (v8 : Int32) (v9 : Int32) (v10 : Int32) (mm : Mm) : Option (Int32 × Mm) :=
  k109 v2 v3 v4 v5 v6 v7 v8 v9 (v10 + 1) mm
def DX10_buys_147 (k86 : Int32 → Int32 → Int32 → Int32 → Int32 → Mm → Option (Int32 × Mm)) (k109 : Int32 → Int32 → Int32 → Int32 → Int32 → Int32 → Int32 → Int32 → Int32 → Mm → Option (Int32 × Mm)) (v2 : Int32) (v3 : Int32) (v4 : Int32) (v5 : Int32) (v6 : Int32) (v7 : Int32) (v8 : Int32) (v10 : Int32) (s0 : Int32) (mm : Mm) : Option (Int32 × Mm) :=
  (if inB (34 + v10) 62 then (if inB v10 10 then DX10_buys_176 k86 k109 v2 v3 v4 v5 v6 (v7 + (gI mm 59 (Int32.toNatClampNeg (34 + v10)))) (v8 + (gI mm 69 (Int32.toNatClampNeg v10))) s0 v10 mm else none) else none)
def DX10_buys_146 (k86 : Int32 → Int32 → Int32 → Int32 → Int32 → Mm → Option (Int32 × Mm)) (k109 : Int32 → Int32 → Int32 → Int32 → Int32 → Int32 → Int32 → Int32 → Int32 → Mm → Option (Int32 × Mm)) (v2 : Int32) (v3 : Int32) (v4 : Int32) (v5 : Int32) (v6 : Int32) (v7 : Int32) (v8 : Int32) (v10 : Int32) (mm : Mm) : Option (Int32 × Mm) :=
  DX10_buys_147 k86 k109 v2 v3 v4 v5 v6 v7 v8 v10 0 mm
def BX10_buys_109 (k86 : Int32 → Int32 → Int32 → Int32 → Int32 → Mm → Option (Int32 × Mm)) (k109 : Int32 → Int32 → Int32 → Int32 → Int32 → Int32 → Int32 → Int32 → Int32 → Mm → Option (Int32 × Mm)) (v2 : Int32) (v3 : Int32) (v4 : Int32) (v5 : Int32) (v6 : Int32) (v7 : Int32) (v8 : Int32) (v9 : Int32) (v10 : Int32) (mm : Mm) : Option (Int32 × Mm) :=
  (if (gI mm 58 6) ≤ v10 then (if v9 = 0 then DX10_buys_236 k86 v2 v3 v4 v5 v6 mm else (if inB (44 + v2) 62 then (if (gI mm 59 (Int32.toNatClampNeg (44 + v2))) < v7 then DX10_buys_236 k86 v2 v3 v4 v5 v6 mm else (if v5 < v8 then DX10_buys_228 k86 v2 v3 v6 v8 mm else (if v8 = v5 then ((dX10_bitsOf v6 mm).bind fun q217 => ((dX10_bitsOf v4 q217.2).bind fun q222 => (if q222.1 ≤ q217.1 then DX10_buys_236 k86 v2 v3 v4 v5 v6 q222.2 else DX10_buys_228 k86 v2 v3 v6 v8 q222.2))) else DX10_buys_236 k86 v2 v3 v4 v5 v6 mm))) else none)) else ((dX10_isIn v6 v10 mm).bind fun q122 => (if q122.1 = 0 then DX10_buys_176 k86 k109 v2 v3 v4 v5 v6 v7 v8 v9 v10 q122.2 else (if v9 = 0 then DX10_buys_146 k86 k109 v2 v3 v4 v5 v6 v7 v8 v10 q122.2 else ((dX10_isFree v10 q122.2).bind fun q136 => (if q136.1 = 0 then DX10_buys_146 k86 k109 v2 v3 v4 v5 v6 v7 v8 v10 q136.2 else DX10_buys_147 k86 k109 v2 v3 v4 v5 v6 v7 v8 v10 1 q136.2))))))
def DX10_buys_109 (k86 : Int32 → Int32 → Int32 → Int32 → Int32 → Mm → Option (Int32 × Mm)) : Nat → Int32 → Int32 → Int32 → Int32 → Int32 → Int32 → Int32 → Int32 → Int32 → Mm → Option (Int32 × Mm)
  | 0, _, _, _, _, _, _, _, _, _, _ => none
  | n + 1, v2, v3, v4, v5, v6, v7, v8, v9, v10, mm => BX10_buys_109 k86 (DX10_buys_109 k86 n) v2 v3 v4 v5 v6 v7 v8 v9 v10 mm
def BX10_buys_86 (k86 : Int32 → Int32 → Int32 → Int32 → Int32 → Mm → Option (Int32 × Mm)) (v2 : Int32) (v3 : Int32) (v4 : Int32) (v5 : Int32) (v6 : Int32) (mm : Mm) : Option (Int32 × Mm) :=
  (if (iShl 1 (gI mm 58 6)) ≤ v6 then (if v3 = 0 then some (v5, mm) else some (v4, mm)) else DX10_buys_109 k86 FU v2 v3 v4 v5 v6 0 0 1 0 mm)
def DX10_buys_86 : Nat → Int32 → Int32 → Int32 → Int32 → Int32 → Mm → Option (Int32 × Mm)
  | 0, _, _, _, _, _, _ => none
  | n + 1, v2, v3, v4, v5, v6, mm => BX10_buys_86 (DX10_buys_86 n) v2 v3 v4 v5 v6 mm
def BX10_buys_47 (k47 : Int32 → Int32 → Int32 → Int32 → Mm → Option (Int32 × Mm)) (v1 : Int32) (v2 : Int32) (v3 : Int32) (v4 : Int32) (mm : Mm) : Option (Int32 × Mm) :=
  (if (gI mm 58 6) ≤ v4 then DX10_buys_86 FU v2 v3 0 0 1 mm else ((dX10_gainOf v1 v2 v4 mm).bind fun q67 => (if inB v4 10 then k47 v1 v2 v3 (v4 + 1) (sI q67.2 69 (Int32.toNatClampNeg v4) q67.1) else none)))
def DX10_buys_47 : Nat → Int32 → Int32 → Int32 → Int32 → Mm → Option (Int32 × Mm)
  | 0, _, _, _, _, _ => none
  | n + 1, v1, v2, v3, v4, mm => BX10_buys_47 (DX10_buys_47 n) v1 v2 v3 v4 mm
def dX10_buys (v1 : Int32) (v2 : Int32) (v3 : Int32) (mm : Mm) : Option (Int32 × Mm) :=
  ((dX10_bytesIs v1 mm).bind fun q2 => (if q2.1 = (-1) then DX10_buys_28 q2.2 else ((dX10_isBuyer (Int32.toInt64 v2) q2.2).bind fun q12 => (if q12.1 = 0 then DX10_buys_28 q12.2 else ((dX10_within (Int32.toInt64 v3) 0 1 q12.2).bind fun q22 => (if q22.1 = 0 then DX10_buys_28 q22.2 else ((dX10_bytesIs v1 q22.2).bind fun q32 => (if 0 ≤ q32.1 then DX10_buys_47 FU v1 v2 v3 0 q32.2 else ((dX10_bytesIs v1 q32.2).bind fun q40 => some (q40.1, q40.2))))))))))
def BX7_plainWorth_5 (k5 : Int32 → Int32 → Int32 → Int32 → Mm → Option (Int32 × Mm)) (v1 : Int32) (v2 : Int32) (v3 : Int32) (v4 : Int32) (mm : Mm) : Option (Int32 × Mm) :=
  (if 6 ≤ v4 then some ((v3 / 6), mm) else ((dX7_worthTo v1 v4 v2 mm).bind fun q18 => k5 v1 v2 (v3 + q18.1) (v4 + 1) q18.2))
def DX7_plainWorth_5 : Nat → Int32 → Int32 → Int32 → Int32 → Mm → Option (Int32 × Mm)
  | 0, _, _, _, _, _ => none
  | n + 1, v1, v2, v3, v4, mm => BX7_plainWorth_5 (DX7_plainWorth_5 n) v1 v2 v3 v4 mm
def dX7_plainWorth (v1 : Int32) (v2 : Int32) (mm : Mm) : Option (Int32 × Mm) :=
  DX7_plainWorth_5 FU v1 v2 0 0 mm
def DX2_dealOne_172 (k54 : Int32 → Int32 → Mm → Option (Unit × Mm)) (v1 : Int32) (v3 : Int32) (mm : Mm) : Option (Unit × Mm) :=
  k54 v1 (v3 + (-1)) mm
def DX2_dealOne_166 (k54 : Int32 → Int32 → Mm → Option (Unit × Mm)) (k61 : Int32 → Int32 → Int32 → Mm → Option (Unit × Mm)) (v1 : Int32) (v3 : Int32) (v4 : Int32) (mm : Mm) : Option (Unit × Mm) :=
  k61 v1 v3 (v4 + 1) mm
def BX2_dealOne_61 (k54 : Int32 → Int32 → Mm → Option (Unit × Mm)) (k61 : Int32 → Int32 → Int32 → Mm → Option (Unit × Mm)) (v1 : Int32) (v3 : Int32) (v4 : Int32) (mm : Mm) : Option (Unit × Mm) :=
  (if (gI mm 1 3) ≤ v4 then DX2_dealOne_172 k54 v1 v3 mm else (if inB v3 64 then (if (gL mm 21 (Int32.toNatClampNeg v3)) = (-1) then DX2_dealOne_172 k54 v1 v3 mm else (if ((iShr v3 v4) &&& 1) = 0 then (if inB v4 10 then (if (gI mm 20 (Int32.toNatClampNeg v4)) < 0 then DX2_dealOne_166 k54 k61 v1 v3 v4 mm else (if inB v3 64 then (if inB v4 10 then (if inB v4 6 then (if inB (v3 ||| (iShl 1 v4)) 64 then (if inB (v3 ||| (iShl 1 v4)) 64 then DX2_dealOne_166 k54 k61 v1 v3 v4 (sL mm 21 (Int32.toNatClampNeg (v3 ||| (iShl 1 v4))) (lMax (gL mm 21 (Int32.toNatClampNeg (v3 ||| (iShl 1 v4)))) (((gL mm 21 (Int32.toNatClampNeg v3)) + ((Int32.toInt64 (gI mm 20 (Int32.toNatClampNeg v4))) * 1771561)) + (Int32.toInt64 ((10 - v1) * (tbPLACES (Int32.toNatClampNeg v4))))))) else none) else none) else none) else none) else none)) else none) else DX2_dealOne_166 k54 k61 v1 v3 v4 mm)) else none))
def DX2_dealOne_61 (k54 : Int32 → Int32 → Mm → Option (Unit × Mm)) : Nat → Int32 → Int32 → Int32 → Mm → Option (Unit × Mm)
  | 0, _, _, _, _ => none
  | n + 1, v1, v3, v4, mm => BX2_dealOne_61 k54 (DX2_dealOne_61 k54 n) v1 v3 v4 mm
def BX2_dealOne_54 (k54 : Int32 → Int32 → Mm → Option (Unit × Mm)) (v1 : Int32) (v3 : Int32) (mm : Mm) : Option (Unit × Mm) :=
  (if v3 < 0 then some ((), mm) else DX2_dealOne_61 k54 FU v1 v3 0 mm)
def DX2_dealOne_54 : Nat → Int32 → Int32 → Mm → Option (Unit × Mm)
  | 0, _, _, _ => none
  | n + 1, v1, v3, mm => BX2_dealOne_54 (DX2_dealOne_54 n) v1 v3 mm
def BX2_dealOne_12 (k12 : Int32 → Int32 → Int32 → Mm → Option (Unit × Mm)) (v1 : Int32) (v2 : Int32) (v3 : Int32) (mm : Mm) : Option (Unit × Mm) :=
  (if (gI mm 1 3) ≤ v3 then DX2_dealOne_54 FU v1 (64 - 1) mm else ((dX7_plainWorth v3 v2 mm).bind fun q34 => (if inB v3 10 then k12 v1 v2 (v3 + 1) (sI q34.2 20 (Int32.toNatClampNeg v3) (q34.1 - v2)) else none)))
def DX2_dealOne_12 : Nat → Int32 → Int32 → Int32 → Mm → Option (Unit × Mm)
  | 0, _, _, _, _ => none
  | n + 1, v1, v2, v3, mm => BX2_dealOne_12 (DX2_dealOne_12 n) v1 v2 v3 mm
def dX2_dealOne (v1 : Int32) (mm : Mm) : Option (Unit × Mm) :=
  ((dX7_told 5 v1 mm).bind fun q6 => DX2_dealOne_12 FU v1 q6.1 0 q6.2)
def BX2_bestDeal_56 (k56 : Int64 → Int32 → Mm → Option (Int64 × Mm)) (v1 : Int64) (v3 : Int32) (mm : Mm) : Option (Int64 × Mm) :=
  (if 64 ≤ v3 then some (v1, mm) else (if inB v3 64 then k56 (lMax v1 (gL mm 21 (Int32.toNatClampNeg v3))) (v3 + 1) mm else none))
def DX2_bestDeal_56 : Nat → Int64 → Int32 → Mm → Option (Int64 × Mm)
  | 0, _, _, _ => none
  | n + 1, v1, v3, mm => BX2_bestDeal_56 (DX2_bestDeal_56 n) v1 v3 mm
def DX2_bestDeal_46 (k19 : Int32 → Mm → Option (Int64 × Mm)) (v1 : Int32) (mm : Mm) : Option (Int64 × Mm) :=
  k19 (v1 + 1) mm
def BX2_bestDeal_19 (k19 : Int32 → Mm → Option (Int64 × Mm)) (v1 : Int32) (mm : Mm) : Option (Int64 × Mm) :=
  (if (gI mm 1 2) ≤ v1 then DX2_bestDeal_56 FU 0 0 mm else ((dX7_isFree v1 mm).bind fun q35 => (if q35.1 = 0 then DX2_bestDeal_46 k19 v1 q35.2 else ((dX2_dealOne v1 q35.2).bind fun q43 => DX2_bestDeal_46 k19 v1 q43.2))))
def DX2_bestDeal_19 : Nat → Int32 → Mm → Option (Int64 × Mm)
  | 0, _, _ => none
  | n + 1, v1, mm => BX2_bestDeal_19 (DX2_bestDeal_19 n) v1 mm
def dX2_bestDeal (mm : Mm) : Option (Int64 × Mm) :=
  DX2_bestDeal_19 FU 0 (sL (flL mm 21 64 (-1)) 21 0 0)
def dX2_dealtWorth (v1 : Int64) (mm : Mm) : Option (Int32 × Mm) :=
  some ((Int64.toInt32 (v1 / 1771561)), mm)
def BX2_dealtSack_8 (k8 : Int64 → Int32 → Mm → Option (Int32 × Mm)) (v4 : Int64) (v6 : Int32) (mm : Mm) : Option (Int32 × Mm) :=
  (if 6 ≤ v6 then (if (Int64.toInt32 (lRem v4 11)) = 0 then some ((-2), mm) else some ((10 - (Int64.toInt32 (lRem v4 11))), mm)) else k8 (v4 / 11) (v6 + 1) mm)
def DX2_dealtSack_8 : Nat → Int64 → Int32 → Mm → Option (Int32 × Mm)
  | 0, _, _, _ => none
  | n + 1, v4, v6, mm => BX2_dealtSack_8 (DX2_dealtSack_8 n) v4 v6 mm
def dX2_dealtSack (v1 : Int64) (v3 : Int32) (mm : Mm) : Option (Int32 × Mm) :=
  DX2_dealtSack_8 FU v1 (v3 + 1) mm
def DX9_dealt_20 (v1 : Int32) (mm : Mm) : Option (Int32 × Mm) :=
  ((dX2_bestDeal mm).bind fun q24 => (if v1 = (-1) then ((dX2_dealtWorth q24.1 q24.2).bind fun q38 => some (q38.1, q38.2)) else ((dX2_dealtSack q24.1 v1 q24.2).bind fun q50 => some (q50.1, q50.2))))
def dX9_dealt (v1 : Int32) (mm : Mm) : Option (Int32 × Mm) :=
  (if v1 = (-1) then DX9_dealt_20 v1 mm else ((dX7_holds 6 v1 mm).bind fun q12 => (if q12.1 = 0 then some ((-1), q12.2) else DX9_dealt_20 v1 q12.2)))
def dX10_dealAt (v1 : Int32) (v2 : Int32) (mm : Mm) : Option (Int32 × Mm) :=
  some (((iShl v1 10) + v2), mm)
def DX10_dealt_387 (k253 : Int32 → Int32 → Int32 → Int32 → Mm → Option (Int32 × Mm)) (v1 : Int32) (v3 : Int32) (v4 : Int32) (s0 : Int32) (s1 : Int32) (mm : Mm) : Option (Int32 × Mm) :=
  k253 v1 (s1 ||| s0) v3 (v4 + 1) mm
def DX10_dealt_375 (k253 : Int32 → Int32 → Int32 → Int32 → Mm → Option (Int32 × Mm)) (v1 : Int32) (v2 : Int32) (v3 : Int32) (v4 : Int32) (mm : Mm) : Option (Int32 × Mm) :=
  (if 0 ≤ v3 then DX10_dealt_387 k253 v1 v3 v4 (iShl 1 v3) v2 mm else DX10_dealt_387 k253 v1 v3 v4 0 v2 mm)
def DX10_dealt_368 (k253 : Int32 → Int32 → Int32 → Int32 → Mm → Option (Int32 × Mm)) (k265 : Int32 → Int32 → Int32 → Int32 → Int32 → Mm → Option (Int32 × Mm)) (v1 : Int32) (v2 : Int32) (v4 : Int32) (v5 : Int32) (s0 : Int32) (mm : Mm) : Option (Int32 × Mm) :=
  k265 v1 v2 s0 v4 (v5 + 1) mm
def DX10_dealt_354 (k253 : Int32 → Int32 → Int32 → Int32 → Mm → Option (Int32 × Mm)) (k265 : Int32 → Int32 → Int32 → Int32 → Int32 → Mm → Option (Int32 × Mm)) (v1 : Int32) (v2 : Int32) (v4 : Int32) (v5 : Int32) (s0 : Int32) (mm : Mm) : Option (Int32 × Mm) :=
  (if s0 = 0 then DX10_dealt_368 k253 k265 v1 v2 v4 v5 (-2) mm else DX10_dealt_368 k253 k265 v1 v2 v4 v5 v5 mm)
def DX10_dealt_353 (k253 : Int32 → Int32 → Int32 → Int32 → Mm → Option (Int32 × Mm)) (k265 : Int32 → Int32 → Int32 → Int32 → Int32 → Mm → Option (Int32 × Mm)) (v1 : Int32) (v2 : Int32) (v4 : Int32) (v5 : Int32) (mm : Mm) : Option (Int32 × Mm) :=
  DX10_dealt_354 k253 k265 v1 v2 v4 v5 0 mm
def BX10_dealt_265 (k253 : Int32 → Int32 → Int32 → Int32 → Mm → Option (Int32 × Mm)) (k265 : Int32 → Int32 → Int32 → Int32 → Int32 → Mm → Option (Int32 × Mm)) (v1 : Int32) (v2 : Int32) (v3 : Int32) (v4 : Int32) (v5 : Int32) (mm : Mm) : Option (Int32 × Mm) :=
  (if (gI mm 58 6) ≤ v5 then DX10_dealt_375 k253 v1 v2 v3 v4 mm else (if 0 ≤ v3 then DX10_dealt_375 k253 v1 v2 v3 v4 mm else ((dX10_gainOf (-1) v4 v5 mm).bind fun q284 => ((dX10_isFree v5 q284.2).bind fun q292 => (if q292.1 = 0 then DX10_dealt_353 k253 k265 v1 v2 v4 v5 q292.2 else ((dX10_isIn v2 v5 q292.2).bind fun q301 => (if q301.1 = 0 then (if q284.1 < 0 then DX10_dealt_353 k253 k265 v1 v2 v4 v5 q301.2 else ((dX10_dealAt (v4 + 1) (v2 ||| (iShl 1 v5)) q301.2).bind fun q329 => (if inB q329.1 7168 then ((dX10_dealAt v4 v2 q329.2).bind fun q342 => (if inB q342.1 7168 then (if (q284.1 + (gI q329.2 70 (Int32.toNatClampNeg q329.1))) = (gI q342.2 70 (Int32.toNatClampNeg q342.1)) then DX10_dealt_354 k253 k265 v1 v2 v4 v5 1 q342.2 else DX10_dealt_353 k253 k265 v1 v2 v4 v5 q342.2) else none)) else none))) else DX10_dealt_353 k253 k265 v1 v2 v4 v5 q301.2)))))))
def DX10_dealt_265 (k253 : Int32 → Int32 → Int32 → Int32 → Mm → Option (Int32 × Mm)) : Nat → Int32 → Int32 → Int32 → Int32 → Int32 → Mm → Option (Int32 × Mm)
  | 0, _, _, _, _, _, _ => none
  | n + 1, v1, v2, v3, v4, v5, mm => BX10_dealt_265 k253 (DX10_dealt_265 k253 n) v1 v2 v3 v4 v5 mm
def BX10_dealt_253 (k253 : Int32 → Int32 → Int32 → Int32 → Mm → Option (Int32 × Mm)) (v1 : Int32) (v2 : Int32) (v3 : Int32) (v4 : Int32) (mm : Mm) : Option (Int32 × Mm) :=
  (if v1 < v4 then some (v3, mm) else DX10_dealt_265 k253 FU v1 v2 (-2) v4 0 mm)
def DX10_dealt_253 : Nat → Int32 → Int32 → Int32 → Int32 → Mm → Option (Int32 × Mm)
  | 0, _, _, _, _, _ => none
  | n + 1, v1, v2, v3, v4, mm => BX10_dealt_253 (DX10_dealt_253 n) v1 v2 v3 v4 mm
def DX10_dealt_197 (k53 : Int32 → Int32 → Mm → Option (Int32 × Mm)) (k88 : Int32 → Int32 → Int32 → Mm → Option (Int32 × Mm)) (k116 : Int32 → Int32 → Int32 → Int32 → Int32 → Mm → Option (Int32 × Mm)) (v1 : Int32) (v2 : Int32) (v3 : Int32) (v4 : Int32) (v5 : Int32) (mm : Mm) : Option (Int32 × Mm) :=
  k116 v1 v2 v3 v4 (v5 + 1) mm
def DX10_dealt_195 (k53 : Int32 → Int32 → Mm → Option (Int32 × Mm)) (k88 : Int32 → Int32 → Int32 → Mm → Option (Int32 × Mm)) (k116 : Int32 → Int32 → Int32 → Int32 → Int32 → Mm → Option (Int32 × Mm)) (v1 : Int32) (v2 : Int32) (v3 : Int32) (v5 : Int32) (s0 : Int32) (mm : Mm) : Option (Int32 × Mm) :=
  DX10_dealt_197 k53 k88 k116 v1 v2 v3 s0 v5 mm
def BX10_dealt_116 (k53 : Int32 → Int32 → Mm → Option (Int32 × Mm)) (k88 : Int32 → Int32 → Int32 → Mm → Option (Int32 × Mm)) (k116 : Int32 → Int32 → Int32 → Int32 → Int32 → Mm → Option (Int32 × Mm)) (v1 : Int32) (v2 : Int32) (v3 : Int32) (v4 : Int32) (v5 : Int32) (mm : Mm) : Option (Int32 × Mm) :=
  (if (gI mm 58 6) ≤ v5 then ((dX10_dealAt v2 v3 mm).bind fun q210 => (if inB q210.1 7168 then k88 v1 v2 (v3 + 1) (sI q210.2 70 (Int32.toNatClampNeg q210.1) v4) else none)) else ((dX10_isFree v5 mm).bind fun q128 => (if q128.1 = 0 then DX10_dealt_197 k53 k88 k116 v1 v2 v3 v4 v5 q128.2 else ((dX10_isIn v3 v5 q128.2).bind fun q137 => (if q137.1 = 0 then (if inB v5 10 then (if (gI q137.2 69 (Int32.toNatClampNeg v5)) < 0 then DX10_dealt_197 k53 k88 k116 v1 v2 v3 v4 v5 q137.2 else (if inB v5 10 then ((dX10_dealAt (v2 + 1) (v3 ||| (iShl 1 v5)) q137.2).bind fun q174 => (if inB q174.1 7168 then (if ((gI q137.2 69 (Int32.toNatClampNeg v5)) + (gI q174.2 70 (Int32.toNatClampNeg q174.1))) ≤ v4 then DX10_dealt_195 k53 k88 k116 v1 v2 v3 v5 v4 q174.2 else DX10_dealt_195 k53 k88 k116 v1 v2 v3 v5 ((gI q137.2 69 (Int32.toNatClampNeg v5)) + (gI q174.2 70 (Int32.toNatClampNeg q174.1))) q174.2) else none)) else none)) else none) else DX10_dealt_197 k53 k88 k116 v1 v2 v3 v4 v5 q137.2)))))
def DX10_dealt_116 (k53 : Int32 → Int32 → Mm → Option (Int32 × Mm)) (k88 : Int32 → Int32 → Int32 → Mm → Option (Int32 × Mm)) : Nat → Int32 → Int32 → Int32 → Int32 → Int32 → Mm → Option (Int32 × Mm)
  | 0, _, _, _, _, _, _ => none
  | n + 1, v1, v2, v3, v4, v5, mm => BX10_dealt_116 k53 k88 (DX10_dealt_116 k53 k88 n) v1 v2 v3 v4 v5 mm
def BX10_dealt_88 (k53 : Int32 → Int32 → Mm → Option (Int32 × Mm)) (k88 : Int32 → Int32 → Int32 → Mm → Option (Int32 × Mm)) (v1 : Int32) (v2 : Int32) (v3 : Int32) (mm : Mm) : Option (Int32 × Mm) :=
  (if (iShl 1 (gI mm 58 6)) ≤ v3 then k53 v1 (v2 + (-1)) mm else ((dX10_dealAt (v2 + 1) v3 mm).bind fun q107 => (if inB q107.1 7168 then DX10_dealt_116 k53 k88 FU v1 v2 v3 (gI q107.2 70 (Int32.toNatClampNeg q107.1)) 0 q107.2 else none)))
def DX10_dealt_88 (k53 : Int32 → Int32 → Mm → Option (Int32 × Mm)) : Nat → Int32 → Int32 → Int32 → Mm → Option (Int32 × Mm)
  | 0, _, _, _, _ => none
  | n + 1, v1, v2, v3, mm => BX10_dealt_88 k53 (DX10_dealt_88 k53 n) v1 v2 v3 mm
def BX10_dealt_59 (k53 : Int32 → Int32 → Mm → Option (Int32 × Mm)) (k59 : Int32 → Int32 → Int32 → Mm → Option (Int32 × Mm)) (v1 : Int32) (v2 : Int32) (v3 : Int32) (mm : Mm) : Option (Int32 × Mm) :=
  (if (gI mm 58 6) ≤ v3 then DX10_dealt_88 k53 FU v1 v2 0 mm else ((dX10_gainOf (-1) v2 v3 mm).bind fun q76 => (if inB v3 10 then k59 v1 v2 (v3 + 1) (sI q76.2 69 (Int32.toNatClampNeg v3) q76.1) else none)))
def DX10_dealt_59 (k53 : Int32 → Int32 → Mm → Option (Int32 × Mm)) : Nat → Int32 → Int32 → Int32 → Mm → Option (Int32 × Mm)
  | 0, _, _, _, _ => none
  | n + 1, v1, v2, v3, mm => BX10_dealt_59 k53 (DX10_dealt_59 k53 n) v1 v2 v3 mm
def BX10_dealt_53 (k53 : Int32 → Int32 → Mm → Option (Int32 × Mm)) (v1 : Int32) (v2 : Int32) (mm : Mm) : Option (Int32 × Mm) :=
  (if v2 < 0 then (if v1 = (-1) then ((dX10_dealAt 0 0 mm).bind fun q240 => (if inB q240.1 7168 then some ((gI q240.2 70 (Int32.toNatClampNeg q240.1)), q240.2) else none)) else DX10_dealt_253 FU v1 0 (-2) 0 mm) else DX10_dealt_59 k53 FU v1 v2 0 mm)
def DX10_dealt_53 : Nat → Int32 → Int32 → Mm → Option (Int32 × Mm)
  | 0, _, _, _ => none
  | n + 1, v1, v2, mm => BX10_dealt_53 (DX10_dealt_53 n) v1 v2 mm
def BX10_dealt_18 (k18 : Int32 → Int32 → Mm → Option (Int32 × Mm)) (v1 : Int32) (v2 : Int32) (mm : Mm) : Option (Int32 × Mm) :=
  (if 1024 ≤ v2 then DX10_dealt_53 FU v1 ((gI mm 58 7) - 1) mm else ((dX10_dealAt (gI mm 58 7) v2 mm).bind fun q35 => (if inB q35.1 7168 then k18 v1 (v2 + 1) (sI q35.2 70 (Int32.toNatClampNeg q35.1) 0) else none)))
def DX10_dealt_18 : Nat → Int32 → Int32 → Mm → Option (Int32 × Mm)
  | 0, _, _, _ => none
  | n + 1, v1, v2, mm => BX10_dealt_18 (DX10_dealt_18 n) v1 v2 mm
def DX10_dealt_16 (v1 : Int32) (mm : Mm) : Option (Int32 × Mm) :=
  DX10_dealt_18 FU v1 0 mm
def dX10_dealt (v1 : Int32) (mm : Mm) : Option (Int32 × Mm) :=
  (if v1 = (-1) then DX10_dealt_16 v1 mm else ((dX10_isBuyer (Int32.toInt64 v1) mm).bind fun q8 => (if q8.1 = 0 then some ((-1), q8.2) else DX10_dealt_16 v1 q8.2)))
def DX7_groans_37 (mm : Mm) : Option (Int32 × Mm) :=
  some (0, mm)
def dX7_groans (v1 : Int32) (v2 : Int32) (mm : Mm) : Option (Int32 × Mm) :=
  ((dX7_told 9 v1 mm).bind fun q4 => ((dX7_told 5 v1 q4.2).bind fun q11 => (if q4.1 < 0 then DX7_groans_37 q11.2 else ((dX7_worthTo q4.1 v2 q11.1 q11.2).bind fun q25 => (if q11.1 ≤ q25.1 then DX7_groans_37 q25.2 else some (1, q25.2))))))
def DX9_groansTold_124 (v2 : Int32) (v3 : Int32) (v4 : Int32) (v5 : Int32) (mm : Mm) : Option (Int32 × Mm) :=
  (if v2 = 0 then some (v3, mm) else (if v2 = 1 then some (v4, mm) else some (v5, mm)))
def DX9_groansTold_118 (k12 : Nat → Int32 → Int32 → Int32 → Int32 → Int32 → Mm → Option (Int32 × Mm)) (v1 : Nat) (v2 : Int32) (v3 : Int32) (v4 : Int32) (v5 : Int32) (v6 : Int32) (mm : Mm) : Option (Int32 × Mm) :=
  k12 v1 v2 v3 v4 v5 (v6 + 1) mm
def DX9_groansTold_101 (k12 : Nat → Int32 → Int32 → Int32 → Int32 → Int32 → Mm → Option (Int32 × Mm)) (v1 : Nat) (v2 : Int32) (v3 : Int32) (v4 : Int32) (v5 : Int32) (v6 : Int32) (v7 : Int32) (v8 : Int32) (mm : Mm) : Option (Int32 × Mm) :=
  ((dX7_groans v7 v8 mm).bind fun q109 => (if q109.1 = 0 then DX9_groansTold_118 k12 v1 v2 v3 v4 v5 v6 q109.2 else DX9_groansTold_118 k12 v1 v2 v3 (v4 + 1) v5 v6 q109.2))
def DX9_groansTold_96 (k12 : Nat → Int32 → Int32 → Int32 → Int32 → Int32 → Mm → Option (Int32 × Mm)) (v1 : Nat) (v2 : Int32) (v3 : Int32) (v4 : Int32) (v6 : Int32) (v7 : Int32) (v8 : Int32) (s0 : Int32) (mm : Mm) : Option (Int32 × Mm) :=
  DX9_groansTold_101 k12 v1 v2 (v3 + 1) v4 s0 v6 v7 v8 mm
def BX9_groansTold_12 (k12 : Nat → Int32 → Int32 → Int32 → Int32 → Int32 → Mm → Option (Int32 × Mm)) (v1 : Nat) (v2 : Int32) (v3 : Int32) (v4 : Int32) (v5 : Int32) (v6 : Int32) (mm : Mm) : Option (Int32 × Mm) :=
  (if 10 ≤ v6 then DX9_groansTold_124 v2 v3 v4 v5 mm else ((dX8_byteAt v1 (2 * v6) mm).bind fun q24 => ((dX8_byteAt v1 ((2 * v6) + 1) q24.2).bind fun q36 => ((dX7_holds 4 q24.1 q36.2).bind fun q48 => (if q48.1 = 0 then DX9_groansTold_124 v2 v3 v4 v5 q48.2 else ((dX7_holds 0 q36.1 q48.2).bind fun q61 => (if q61.1 = 0 then DX9_groansTold_124 v2 v3 v4 v5 q61.2 else ((dX7_told 4 q24.1 q61.2).bind fun q79 => (if q36.1 = q79.1 then DX9_groansTold_101 k12 v1 v2 v3 v4 v5 v6 q24.1 q36.1 q79.2 else (if v3 = 0 then DX9_groansTold_96 k12 v1 v2 v3 v4 v6 q24.1 q36.1 q24.1 q79.2 else DX9_groansTold_96 k12 v1 v2 v3 v4 v6 q24.1 q36.1 v5 q79.2))))))))))
def DX9_groansTold_12 : Nat → Nat → Int32 → Int32 → Int32 → Int32 → Int32 → Mm → Option (Int32 × Mm)
  | 0, _, _, _, _, _, _, _ => none
  | n + 1, v1, v2, v3, v4, v5, v6, mm => BX9_groansTold_12 (DX9_groansTold_12 n) v1 v2 v3 v4 v5 v6 mm
def dX9_groansTold (v1 : Nat) (v2 : Int32) (mm : Mm) : Option (Int32 × Mm) :=
  (if 38 ≤ v1 ∧ v1 < 44 then DX9_groansTold_12 FU v1 v2 0 0 (-2) 0 mm else none)
def DX9_groan_16 (mm : Mm) : Option (Int32 × Mm) :=
  some ((-1), mm)
def dX9_groan (v1 : Int32) (v2 : Int32) (mm : Mm) : Option (Int32 × Mm) :=
  ((dX9_isShelf v1 mm).bind fun q1 => (if q1.1 = 0 then DX9_groan_16 q1.2 else (if v2 < 0 then DX9_groan_16 q1.2 else (if v2 ≤ 2 then (if inB v1 6 then ((dX8_bytesRefusal (38 + (Int32.toNatClampNeg v1)) q1.2).bind fun q24 => (if q24.1 = 0 then (if inB v1 6 then ((dX9_groansTold (38 + (Int32.toNatClampNeg v1)) v2 q24.2).bind fun q44 => some (q44.1, q44.2)) else none) else some (q24.1, q24.2))) else none) else DX9_groan_16 q1.2))))
def DX10_groan_21 (mm : Mm) : Option (Int32 × Mm) :=
  some ((-1), mm)
def DX10_groan_246 (v2 : Int32) (v3 : Int32) (v4 : Int32) (v5 : Int32) (mm : Mm) : Option (Int32 × Mm) :=
  (if v2 = 0 then some (v3, mm) else (if v2 = 1 then some (v4, mm) else some (v5, mm)))
def DX10_groan_240 (k52 : Int32 → Int32 → Int32 → Int32 → Int32 → Int32 → Int32 → Mm → Option (Int32 × Mm)) (v1 : Int32) (v2 : Int32) (v3 : Int32) (v4 : Int32) (v5 : Int32) (v6 : Int32) (v7 : Int32) (mm : Mm) : Option (Int32 × Mm) :=
  k52 v1 v2 v3 v4 v5 v6 (v7 + 1) mm
def DX10_groan_237 (k52 : Int32 → Int32 → Int32 → Int32 → Int32 → Int32 → Int32 → Mm → Option (Int32 × Mm)) (v1 : Int32) (v2 : Int32) (v3 : Int32) (v5 : Int32) (v6 : Int32) (v7 : Int32) (s0 : Int32) (s1 : Int32) (mm : Mm) : Option (Int32 × Mm) :=
  DX10_groan_240 k52 v1 v2 v3 (s1 + s0) v5 v6 v7 mm
def DX10_groan_236 (k52 : Int32 → Int32 → Int32 → Int32 → Int32 → Int32 → Int32 → Mm → Option (Int32 × Mm)) (v1 : Int32) (v2 : Int32) (v3 : Int32) (v5 : Int32) (v6 : Int32) (v7 : Int32) (s0 : Int32) (mm : Mm) : Option (Int32 × Mm) :=
  DX10_groan_237 k52 v1 v2 v3 v5 v6 v7 0 s0 mm
def DX10_groan_184 (k52 : Int32 → Int32 → Int32 → Int32 → Int32 → Int32 → Int32 → Mm → Option (Int32 × Mm)) (v1 : Int32) (v2 : Int32) (v3 : Int32) (v4 : Int32) (v5 : Int32) (v6 : Int32) (v7 : Int32) (v9 : Int32) (v10 : Int32) (mm : Mm) : Option (Int32 × Mm) :=
  (if inB v9 10 then (if (gI mm 63 (Int32.toNatClampNeg v9)) < 0 then DX10_groan_236 k52 v1 v2 v3 v5 v6 v7 v4 mm else (if inB v9 10 then (if inB (34 + v9) 62 then ((dX10_worthFor (gI mm 63 (Int32.toNatClampNeg v9)) v10 (gI mm 59 (Int32.toNatClampNeg (34 + v9))) mm).bind fun q216 => (if inB (34 + v9) 62 then (if (gI q216.2 59 (Int32.toNatClampNeg (34 + v9))) ≤ q216.1 then DX10_groan_236 k52 v1 v2 v3 v5 v6 v7 v4 q216.2 else DX10_groan_237 k52 v1 v2 v3 v5 v6 v7 1 v4 q216.2) else none)) else none) else none)) else none)
def DX10_groan_179 (k52 : Int32 → Int32 → Int32 → Int32 → Int32 → Int32 → Int32 → Mm → Option (Int32 × Mm)) (v1 : Int32) (v2 : Int32) (v3 : Int32) (v4 : Int32) (v6 : Int32) (v7 : Int32) (v9 : Int32) (v10 : Int32) (s0 : Int32) (mm : Mm) : Option (Int32 × Mm) :=
  DX10_groan_184 k52 v1 v2 (v3 + 1) v4 s0 v6 v7 v9 v10 mm
def DX10_groan_124 (k52 : Int32 → Int32 → Int32 → Int32 → Int32 → Int32 → Int32 → Mm → Option (Int32 × Mm)) (v1 : Int32) (v2 : Int32) (v3 : Int32) (v4 : Int32) (v5 : Int32) (v7 : Int32) (v8 : Int32) (s0 : Int32) (mm : Mm) : Option (Int32 × Mm) :=
  (if s0 = 0 then DX10_groan_240 k52 v1 v2 v3 v4 v5 s0 v7 mm else (if inB v8 360 then (if inB (v8 + 1) 360 then (if inB (24 + (Int64.toInt32 (gL mm 81 (Int32.toNatClampNeg v8)))) 62 then (if (Int64.toInt32 (gL mm 81 (Int32.toNatClampNeg (v8 + 1)))) = (gI mm 59 (Int32.toNatClampNeg (24 + (Int64.toInt32 (gL mm 81 (Int32.toNatClampNeg v8)))))) then DX10_groan_184 k52 v1 v2 v3 v4 v5 s0 v7 (Int64.toInt32 (gL mm 81 (Int32.toNatClampNeg v8))) (Int64.toInt32 (gL mm 81 (Int32.toNatClampNeg (v8 + 1)))) mm else (if v3 = 0 then DX10_groan_179 k52 v1 v2 v3 v4 s0 v7 (Int64.toInt32 (gL mm 81 (Int32.toNatClampNeg v8))) (Int64.toInt32 (gL mm 81 (Int32.toNatClampNeg (v8 + 1)))) (Int64.toInt32 (gL mm 81 (Int32.toNatClampNeg v8))) mm else DX10_groan_179 k52 v1 v2 v3 v4 s0 v7 (Int64.toInt32 (gL mm 81 (Int32.toNatClampNeg v8))) (Int64.toInt32 (gL mm 81 (Int32.toNatClampNeg (v8 + 1)))) v5 mm)) else none) else none) else none))
def DX10_groan_123 (k52 : Int32 → Int32 → Int32 → Int32 → Int32 → Int32 → Int32 → Mm → Option (Int32 × Mm)) (v1 : Int32) (v2 : Int32) (v3 : Int32) (v4 : Int32) (v5 : Int32) (v7 : Int32) (v8 : Int32) (mm : Mm) : Option (Int32 × Mm) :=
  DX10_groan_124 k52 v1 v2 v3 v4 v5 v7 v8 0 mm
def BX10_groan_52 (k52 : Int32 → Int32 → Int32 → Int32 → Int32 → Int32 → Int32 → Mm → Option (Int32 × Mm)) (v1 : Int32) (v2 : Int32) (v3 : Int32) (v4 : Int32) (v5 : Int32) (v6 : Int32) (v7 : Int32) (mm : Mm) : Option (Int32 × Mm) :=
  (if 10 ≤ v7 then DX10_groan_246 v2 v3 v4 v5 mm else (if v6 = 0 then DX10_groan_246 v2 v3 v4 v5 mm else (if inB v1 6 then (if (gI mm 80 (Int32.toNatClampNeg v1)) ≤ ((2 * v7) + 1) then DX10_groan_123 k52 v1 v2 v3 v4 v5 v7 ((60 * v1) + (2 * v7)) mm else (if inB ((60 * v1) + (2 * v7)) 360 then ((dX10_isSack (gL mm 81 (Int32.toNatClampNeg ((60 * v1) + (2 * v7)))) mm).bind fun q98 => (if q98.1 = 0 then DX10_groan_123 k52 v1 v2 v3 v4 v5 v7 ((60 * v1) + (2 * v7)) q98.2 else (if inB (((60 * v1) + (2 * v7)) + 1) 360 then ((dX10_isGood (gL q98.2 81 (Int32.toNatClampNeg (((60 * v1) + (2 * v7)) + 1))) q98.2).bind fun q113 => (if q113.1 = 0 then DX10_groan_123 k52 v1 v2 v3 v4 v5 v7 ((60 * v1) + (2 * v7)) q113.2 else DX10_groan_124 k52 v1 v2 v3 v4 v5 v7 ((60 * v1) + (2 * v7)) 1 q113.2)) else none))) else none)) else none)))
def DX10_groan_52 : Nat → Int32 → Int32 → Int32 → Int32 → Int32 → Int32 → Int32 → Mm → Option (Int32 × Mm)
  | 0, _, _, _, _, _, _, _, _ => none
  | n + 1, v1, v2, v3, v4, v5, v6, v7, mm => BX10_groan_52 (DX10_groan_52 n) v1 v2 v3 v4 v5 v6 v7 mm
def dX10_groan (v1 : Int32) (v2 : Int32) (mm : Mm) : Option (Int32 × Mm) :=
  ((dX10_bytesIs v1 mm).bind fun q2 => (if q2.1 = (-1) then DX10_groan_21 q2.2 else ((dX10_within (Int32.toInt64 v2) 0 2 q2.2).bind fun q15 => (if q15.1 = 0 then DX10_groan_21 q15.2 else ((dX10_bytesIs v1 q15.2).bind fun q25 => (if 0 ≤ q25.1 then DX10_groan_52 FU v1 v2 0 0 (-2) 1 0 q25.2 else ((dX10_bytesIs v1 q25.2).bind fun q33 => some (q33.1, q33.2))))))))
def DX7_openWith_36 (k4 : Int32 → Int32 → Int32 → Mm → Option (Int32 × Mm)) (v1 : Int32) (v3 : Int32) (s0 : Int32) (s1 : Int32) (mm : Mm) : Option (Int32 × Mm) :=
  k4 v1 (s1 + s0) (v3 + 1) mm
def DX7_openWith_35 (k4 : Int32 → Int32 → Int32 → Mm → Option (Int32 × Mm)) (v1 : Int32) (v3 : Int32) (s0 : Int32) (mm : Mm) : Option (Int32 × Mm) :=
  DX7_openWith_36 k4 v1 v3 0 s0 mm
def BX7_openWith_4 (k4 : Int32 → Int32 → Int32 → Mm → Option (Int32 × Mm)) (v1 : Int32) (v2 : Int32) (v3 : Int32) (mm : Mm) : Option (Int32 × Mm) :=
  (if (gI mm 1 2) ≤ v3 then some (v2, mm) else ((dX7_isOpen v3 mm).bind fun q15 => (if q15.1 = 0 then DX7_openWith_35 k4 v1 v3 v2 q15.2 else ((dX7_told 4 v3 q15.2).bind fun q24 => (if q24.1 = v1 then DX7_openWith_36 k4 v1 v3 1 v2 q24.2 else DX7_openWith_35 k4 v1 v3 v2 q24.2)))))
def DX7_openWith_4 : Nat → Int32 → Int32 → Int32 → Mm → Option (Int32 × Mm)
  | 0, _, _, _, _ => none
  | n + 1, v1, v2, v3, mm => BX7_openWith_4 (DX7_openWith_4 n) v1 v2 v3 mm
def dX7_openWith (v1 : Int32) (mm : Mm) : Option (Int32 × Mm) :=
  DX7_openWith_4 FU v1 0 0 mm
def DX2_stocked_50 (mm : Mm) : Option (Int32 × Mm) :=
  some (0, mm)
def BX2_stocked_13 (k13 : Nat → Int32 → Mm → Option (Int32 × Mm)) (v1 : Nat) (v2 : Int32) (mm : Mm) : Option (Int32 × Mm) :=
  (if 6 ≤ v2 then some (1, mm) else ((dX8_byteAt v1 v2 mm).bind fun q26 => (if inB v2 6 then (if inB v2 6 then (if (gI (sI q26.2 22 (Int32.toNatClampNeg v2) q26.1) 22 (Int32.toNatClampNeg v2)) < 0 then DX2_stocked_50 (sI q26.2 22 (Int32.toNatClampNeg v2) q26.1) else (if inB v2 6 then (if (gI (sI q26.2 22 (Int32.toNatClampNeg v2) q26.1) 22 (Int32.toNatClampNeg v2)) ≤ 9 then (if inB v2 6 then ((dX7_openWith v2 (sI q26.2 22 (Int32.toNatClampNeg v2) q26.1)).bind fun q64 => (if inB v2 6 then k13 v1 (v2 + 1) (sI q64.2 22 (Int32.toNatClampNeg v2) ((gI (sI q26.2 22 (Int32.toNatClampNeg v2) q26.1) 22 (Int32.toNatClampNeg v2)) - q64.1)) else none)) else none) else DX2_stocked_50 (sI q26.2 22 (Int32.toNatClampNeg v2) q26.1)) else none)) else none) else none)))
def DX2_stocked_13 : Nat → Nat → Int32 → Mm → Option (Int32 × Mm)
  | 0, _, _, _ => none
  | n + 1, v1, v2, mm => BX2_stocked_13 (DX2_stocked_13 n) v1 v2 mm
def dX2_stocked (v1 : Nat) (mm : Mm) : Option (Int32 × Mm) :=
  (if 38 ≤ v1 ∧ v1 < 44 then (if (gI mm v1 4) = 6 then DX2_stocked_13 FU v1 0 mm else some (0, mm)) else none)
def DX2_tied_32 (k4 : Int32 → Int32 → Mm → Option (Int32 × Mm)) (v2 : Int32) (s0 : Int32) (s1 : Int32) (mm : Mm) : Option (Int32 × Mm) :=
  k4 (s1 + s0) (v2 + 1) mm
def BX2_tied_4 (k4 : Int32 → Int32 → Mm → Option (Int32 × Mm)) (v1 : Int32) (v2 : Int32) (mm : Mm) : Option (Int32 × Mm) :=
  (if (gI mm 1 2) ≤ v2 then some (v1, mm) else ((dX7_isOpen v2 mm).bind fun q21 => (if q21.1 = 0 then DX2_tied_32 k4 v2 1 v1 q21.2 else DX2_tied_32 k4 v2 0 v1 q21.2)))
def DX2_tied_4 : Nat → Int32 → Int32 → Mm → Option (Int32 × Mm)
  | 0, _, _, _ => none
  | n + 1, v1, v2, mm => BX2_tied_4 (DX2_tied_4 n) v1 v2 mm
def dX2_tied (mm : Mm) : Option (Int32 × Mm) :=
  DX2_tied_4 FU 0 0 mm
def DX2_waysOf_37 (mm : Mm) : Option (Int64 × Mm) :=
  some (0, mm)
def BX2_waysOf_42 (k8 : Int64 → Int32 → Int32 → Mm → Option (Int64 × Mm)) (k42 : Int64 → Int32 → Int32 → Int32 → Mm → Option (Int64 × Mm)) (v2 : Int64) (v4 : Int32) (v5 : Int32) (v6 : Int32) (mm : Mm) : Option (Int64 × Mm) :=
  (if inB v5 6 then (if (gI mm 22 (Int32.toNatClampNeg v5)) < v6 then (if inB v5 6 then k8 v2 (v4 - (gI mm 22 (Int32.toNatClampNeg v5))) (v5 + 1) mm else none) else (if (Int32.toInt64 v6) = 0 then none else k42 ((v2 * (Int32.toInt64 ((v4 - v6) + 1))) / (Int32.toInt64 v6)) v4 v5 (v6 + 1) mm)) else none)
def DX2_waysOf_42 (k8 : Int64 → Int32 → Int32 → Mm → Option (Int64 × Mm)) : Nat → Int64 → Int32 → Int32 → Int32 → Mm → Option (Int64 × Mm)
  | 0, _, _, _, _, _ => none
  | n + 1, v2, v4, v5, v6, mm => BX2_waysOf_42 k8 (DX2_waysOf_42 k8 n) v2 v4 v5 v6 mm
def BX2_waysOf_8 (k8 : Int64 → Int32 → Int32 → Mm → Option (Int64 × Mm)) (v2 : Int64) (v4 : Int32) (v5 : Int32) (mm : Mm) : Option (Int64 × Mm) :=
  (if 6 ≤ v5 then (if v4 = 0 then some (v2, mm) else some (0, mm)) else (if inB v5 6 then (if (gI mm 22 (Int32.toNatClampNeg v5)) < 0 then DX2_waysOf_37 mm else (if inB v5 6 then (if (gI mm 22 (Int32.toNatClampNeg v5)) ≤ v4 then DX2_waysOf_42 k8 FU v2 v4 v5 1 mm else DX2_waysOf_37 mm) else none)) else none))
def DX2_waysOf_8 : Nat → Int64 → Int32 → Int32 → Mm → Option (Int64 × Mm)
  | 0, _, _, _, _ => none
  | n + 1, v2, v4, v5, mm => BX2_waysOf_8 (DX2_waysOf_8 n) v2 v4 v5 mm
def dX2_waysOf (v1 : Int32) (mm : Mm) : Option (Int64 × Mm) :=
  DX2_waysOf_8 FU 1 v1 0 mm
def dX2_ways (mm : Mm) : Option (Int64 × Mm) :=
  ((dX2_tied mm).bind fun q2 => ((dX2_waysOf q2.1 q2.2).bind fun q5 => some (q5.1, q5.2)))
def dX2_waysWith (v1 : Int32) (v2 : Int32) (mm : Mm) : Option (Int64 × Mm) :=
  ((dX7_isOpen v1 mm).bind fun q5 => (if q5.1 = 0 then (if inB v2 6 then (if inB v2 6 then ((dX2_tied (sI q5.2 22 (Int32.toNatClampNeg v2) ((gI q5.2 22 (Int32.toNatClampNeg v2)) - 1))).bind fun q45 => ((dX2_waysOf (q45.1 - 1) q45.2).bind fun q50 => some (q50.1, q50.2))) else none) else none) else ((dX7_told 4 v1 q5.2).bind fun q17 => (if q17.1 = v2 then ((dX2_ways q17.2).bind fun q25 => some (q25.1, q25.2)) else some (0, q17.2)))))
def DX9_stock_20 (mm : Mm) : Option (Int64 × Mm) :=
  some ((-9223372036854775808), mm)
def DX9_stock_52 (mm : Mm) : Option (Int64 × Mm) :=
  some ((-9223372036854775808), mm)
def DX9_stock_24 (v1 : Int32) (v2 : Int32) (mm : Mm) : Option (Int64 × Mm) :=
  (if inB v1 6 then ((dX8_bytesRefusal (38 + (Int32.toNatClampNeg v1)) mm).bind fun q30 => (if q30.1 = 0 then (if inB v1 6 then ((dX2_stocked (38 + (Int32.toNatClampNeg v1)) q30.2).bind fun q46 => (if q46.1 = 0 then DX9_stock_52 q46.2 else (if v2 = (-1) then ((dX2_ways q46.2).bind fun q65 => some (q65.1, q65.2)) else ((dX2_waysWith (v2 / 10) (iRem v2 10) q46.2).bind fun q83 => some (q83.1, q83.2))))) else none) else DX9_stock_52 q30.2)) else none)
def dX9_stock (v1 : Int32) (v2 : Int32) (mm : Mm) : Option (Int64 × Mm) :=
  ((dX9_isShelf v1 mm).bind fun q1 => (if q1.1 = 0 then DX9_stock_20 q1.2 else (if v2 = (-1) then DX9_stock_24 v1 v2 q1.2 else ((dX9_isSackAndGood v2 q1.2).bind fun q14 => (if q14.1 = 0 then DX9_stock_20 q14.2 else DX9_stock_24 v1 v2 q14.2)))))
def DX10_stock_51 (mm : Mm) : Option (Int64 × Mm) :=
  some ((-9223372036854775808), mm)
def BX10_stock_258 (k248 : Int32 → Int32 → Int64 → Int32 → Int32 → Mm → Option (Int64 × Mm)) (k258 : Int32 → Int32 → Int64 → Int32 → Int32 → Int32 → Mm → Option (Int64 × Mm)) (v2 : Int32) (v4 : Int32) (v5 : Int64) (v7 : Int32) (v8 : Int32) (v9 : Int32) (mm : Mm) : Option (Int64 × Mm) :=
  (if inB v8 6 then (if (gI mm 71 (Int32.toNatClampNeg v8)) < v9 then k248 v2 v4 v5 v7 (v8 + 1) mm else (if (Int32.toInt64 v9) = 0 then none else k258 v2 v4 ((v5 * (Int32.toInt64 (v7 + 1))) / (Int32.toInt64 v9)) (v7 + 1) v8 (v9 + 1) mm)) else none)
def DX10_stock_258 (k248 : Int32 → Int32 → Int64 → Int32 → Int32 → Mm → Option (Int64 × Mm)) : Nat → Int32 → Int32 → Int64 → Int32 → Int32 → Int32 → Mm → Option (Int64 × Mm)
  | 0, _, _, _, _, _, _, _ => none
  | n + 1, v2, v4, v5, v7, v8, v9, mm => BX10_stock_258 k248 (DX10_stock_258 k248 n) v2 v4 v5 v7 v8 v9 mm
def BX10_stock_248 (k248 : Int32 → Int32 → Int64 → Int32 → Int32 → Mm → Option (Int64 × Mm)) (v2 : Int32) (v4 : Int32) (v5 : Int64) (v7 : Int32) (v8 : Int32) (mm : Mm) : Option (Int64 × Mm) :=
  (if 6 ≤ v8 then (if v2 = (-1) then some (v5, mm) else (if inB (v2 / 10) 10 then (if (gI mm 64 (Int32.toNatClampNeg (v2 / 10))) = 0 then (if inB (iRem v2 10) 6 then (if (Int32.toInt64 v4) = 0 then none else some (((v5 * (Int32.toInt64 (gI mm 71 (Int32.toNatClampNeg (iRem v2 10))))) / (Int32.toInt64 v4)), mm)) else none) else (if inB (24 + (v2 / 10)) 62 then (if (gI mm 59 (Int32.toNatClampNeg (24 + (v2 / 10)))) = (iRem v2 10) then some (v5, mm) else some (0, mm)) else none)) else none)) else DX10_stock_258 k248 FU v2 v4 v5 v7 v8 1 mm)
def DX10_stock_248 : Nat → Int32 → Int32 → Int64 → Int32 → Int32 → Mm → Option (Int64 × Mm)
  | 0, _, _, _, _, _, _ => none
  | n + 1, v2, v4, v5, v7, v8, mm => BX10_stock_248 (DX10_stock_248 n) v2 v4 v5 v7 v8 mm
def BX10_stock_196 (k196 : Int32 → Int32 → Int32 → Int32 → Mm → Option (Int64 × Mm)) (v2 : Int32) (v3 : Int32) (v4 : Int32) (v5 : Int32) (mm : Mm) : Option (Int64 × Mm) :=
  (if 6 ≤ v5 then (if v3 = v4 then DX10_stock_248 FU v2 v4 1 0 0 mm else some (0, mm)) else (if inB v5 6 then (if inB v5 6 then (if 0 ≤ (gI mm 71 (Int32.toNatClampNeg v5)) then k196 v2 (v3 + (gI mm 71 (Int32.toNatClampNeg v5))) v4 (v5 + 1) mm else some (0, mm)) else none) else none))
def DX10_stock_196 : Nat → Int32 → Int32 → Int32 → Int32 → Mm → Option (Int64 × Mm)
  | 0, _, _, _, _, _ => none
  | n + 1, v2, v3, v4, v5, mm => BX10_stock_196 (DX10_stock_196 n) v2 v3 v4 v5 mm
def DX10_stock_184 (k125 : Int32 → Int32 → Int32 → Int32 → Mm → Option (Int64 × Mm)) (v2 : Int32) (v3 : Int32) (v5 : Int32) (s0 : Int32) (s1 : Int32) (mm : Mm) : Option (Int64 × Mm) :=
  k125 v2 v3 (s1 + s0) (v5 + 1) mm
def DX10_stock_165 (k125 : Int32 → Int32 → Int32 → Int32 → Mm → Option (Int64 × Mm)) (v2 : Int32) (v3 : Int32) (v4 : Int32) (v5 : Int32) (s0 : Int32) (s1 : Int32) (s2 : Int32) (mm : Mm) : Option (Int64 × Mm) :=
  (if inB s2 6 then (if inB v5 10 then (if (gI (sI mm 71 (Int32.toNatClampNeg s2) (s1 - s0)) 64 (Int32.toNatClampNeg v5)) = 0 then DX10_stock_184 k125 v2 v3 v5 1 v4 (sI mm 71 (Int32.toNatClampNeg s2) (s1 - s0)) else DX10_stock_184 k125 v2 v3 v5 0 v4 (sI mm 71 (Int32.toNatClampNeg s2) (s1 - s0))) else none) else none)
def BX10_stock_125 (k125 : Int32 → Int32 → Int32 → Int32 → Mm → Option (Int64 × Mm)) (v2 : Int32) (v3 : Int32) (v4 : Int32) (v5 : Int32) (mm : Mm) : Option (Int64 × Mm) :=
  (if (gI mm 58 6) ≤ v5 then DX10_stock_196 FU v2 v3 v4 0 mm else (if inB (24 + v5) 62 then (if inB (gI mm 59 (Int32.toNatClampNeg (24 + v5))) 6 then (if inB v5 10 then (if (gI mm 64 (Int32.toNatClampNeg v5)) = 0 then DX10_stock_165 k125 v2 v3 v4 v5 0 (gI mm 71 (Int32.toNatClampNeg (gI mm 59 (Int32.toNatClampNeg (24 + v5))))) (gI mm 59 (Int32.toNatClampNeg (24 + v5))) mm else DX10_stock_165 k125 v2 v3 v4 v5 1 (gI mm 71 (Int32.toNatClampNeg (gI mm 59 (Int32.toNatClampNeg (24 + v5))))) (gI mm 59 (Int32.toNatClampNeg (24 + v5))) mm) else none) else none) else none))
def DX10_stock_125 : Nat → Int32 → Int32 → Int32 → Int32 → Mm → Option (Int64 × Mm)
  | 0, _, _, _, _, _ => none
  | n + 1, v2, v3, v4, v5, mm => BX10_stock_125 (DX10_stock_125 n) v2 v3 v4 v5 mm
def BX10_stock_60 (k60 : Int32 → Int32 → Int32 → Int32 → Mm → Option (Int64 × Mm)) (v1 : Int32) (v2 : Int32) (v3 : Int32) (v4 : Int32) (mm : Mm) : Option (Int64 × Mm) :=
  (if 6 ≤ v4 then DX10_stock_125 FU v2 v3 0 0 mm else (if inB ((60 * v1) + v4) 360 then ((dX10_within (gL mm 81 (Int32.toNatClampNeg ((60 * v1) + v4))) 0 9 mm).bind fun q83 => (if q83.1 = 0 then some ((-9223372036854775808), q83.2) else (if inB ((60 * v1) + v4) 360 then (if inB v4 6 then k60 v1 v2 v3 (v4 + 1) (sI q83.2 71 (Int32.toNatClampNeg v4) (Int64.toInt32 (gL q83.2 81 (Int32.toNatClampNeg ((60 * v1) + v4))))) else none) else none))) else none))
def DX10_stock_60 : Nat → Int32 → Int32 → Int32 → Int32 → Mm → Option (Int64 × Mm)
  | 0, _, _, _, _, _ => none
  | n + 1, v1, v2, v3, v4, mm => BX10_stock_60 (DX10_stock_60 n) v1 v2 v3 v4 mm
def DX10_stock_55 (v1 : Int32) (v2 : Int32) (mm : Mm) : Option (Int64 × Mm) :=
  DX10_stock_60 FU v1 v2 0 0 mm
def dX10_stock (v1 : Int32) (v2 : Int32) (mm : Mm) : Option (Int64 × Mm) :=
  ((dX10_bytesIs v1 mm).bind fun q2 => (if q2.1 < 0 then DX10_stock_51 q2.2 else (if inB v1 6 then (if (gI q2.2 80 (Int32.toNatClampNeg v1)) = 6 then (if v2 = (-1) then DX10_stock_55 v1 v2 q2.2 else (if v2 < 0 then DX10_stock_51 q2.2 else ((dX10_isSack (Int32.toInt64 (v2 / 10)) q2.2).bind fun q34 => (if q34.1 = 0 then DX10_stock_51 q34.2 else ((dX10_isGood (Int32.toInt64 (iRem v2 10)) q34.2).bind fun q45 => (if q45.1 = 0 then DX10_stock_51 q45.2 else DX10_stock_55 v1 v2 q45.2)))))) else DX10_stock_51 q2.2) else none)))
def DX7_sameBy_42 (k3 : Int32 → Int32 → Int32 → Int32 → Mm → Option (Int32 × Mm)) (v1 : Int32) (v2 : Int32) (v3 : Int32) (v4 : Int32) (mm : Mm) : Option (Int32 × Mm) :=
  k3 v1 v2 v3 (v4 + 1) mm
def BX7_sameBy_3 (k3 : Int32 → Int32 → Int32 → Int32 → Mm → Option (Int32 × Mm)) (v1 : Int32) (v2 : Int32) (v3 : Int32) (v4 : Int32) (mm : Mm) : Option (Int32 × Mm) :=
  (if 3 ≤ v4 then some (1, mm) else (if ((iShr v1 v4) &&& 1) = 1 then ((dX7_told (1 + v4) v2 mm).bind fun q25 => ((dX7_told (1 + v4) v3 q25.2).bind fun q34 => (if q25.1 = q34.1 then DX7_sameBy_42 k3 v1 v2 v3 v4 q34.2 else some (0, q34.2)))) else DX7_sameBy_42 k3 v1 v2 v3 v4 mm))
def DX7_sameBy_3 : Nat → Int32 → Int32 → Int32 → Int32 → Mm → Option (Int32 × Mm)
  | 0, _, _, _, _, _ => none
  | n + 1, v1, v2, v3, v4, mm => BX7_sameBy_3 (DX7_sameBy_3 n) v1 v2 v3 v4 mm
def dX7_sameBy (v1 : Int32) (v2 : Int32) (v3 : Int32) (mm : Mm) : Option (Int32 × Mm) :=
  DX7_sameBy_3 FU v1 v2 v3 0 mm
def DX7_alike_67 (k4 : Int32 → Int32 → Int32 → Mm → Option (Int32 × Mm)) (v1 : Int32) (v3 : Int32) (s0 : Int32) (s1 : Int32) (mm : Mm) : Option (Int32 × Mm) :=
  k4 v1 (s1 + s0) (v3 + 1) mm
def DX7_alike_47 (k4 : Int32 → Int32 → Int32 → Mm → Option (Int32 × Mm)) (k16 : Int32 → Int32 → Int32 → Int32 → Int32 → Mm → Option (Int32 × Mm)) (v1 : Int32) (v2 : Int32) (v3 : Int32) (v5 : Int32) (s0 : Int32) (s1 : Int32) (mm : Mm) : Option (Int32 × Mm) :=
  k16 v1 v2 v3 (s1 ||| s0) (v5 + 1) mm
def DX7_alike_46 (k4 : Int32 → Int32 → Int32 → Mm → Option (Int32 × Mm)) (k16 : Int32 → Int32 → Int32 → Int32 → Int32 → Mm → Option (Int32 × Mm)) (v1 : Int32) (v2 : Int32) (v3 : Int32) (v5 : Int32) (s0 : Int32) (mm : Mm) : Option (Int32 × Mm) :=
  DX7_alike_47 k4 k16 v1 v2 v3 v5 0 s0 mm
def BX7_alike_16 (k4 : Int32 → Int32 → Int32 → Mm → Option (Int32 × Mm)) (k16 : Int32 → Int32 → Int32 → Int32 → Int32 → Mm → Option (Int32 × Mm)) (v1 : Int32) (v2 : Int32) (v3 : Int32) (v4 : Int32) (v5 : Int32) (mm : Mm) : Option (Int32 × Mm) :=
  (if 6 ≤ v5 then (if v4 = 0 then DX7_alike_67 k4 v1 v3 0 v2 mm else DX7_alike_67 k4 v1 v3 1 v2 mm) else (if v5 = v3 then DX7_alike_46 k4 k16 v1 v2 v3 v5 v4 mm else ((dX7_sameBy v1 v3 v5 mm).bind fun q36 => (if q36.1 = 0 then DX7_alike_46 k4 k16 v1 v2 v3 v5 v4 q36.2 else DX7_alike_47 k4 k16 v1 v2 v3 v5 1 v4 q36.2))))
def DX7_alike_16 (k4 : Int32 → Int32 → Int32 → Mm → Option (Int32 × Mm)) : Nat → Int32 → Int32 → Int32 → Int32 → Int32 → Mm → Option (Int32 × Mm)
  | 0, _, _, _, _, _, _ => none
  | n + 1, v1, v2, v3, v4, v5, mm => BX7_alike_16 k4 (DX7_alike_16 k4 n) v1 v2 v3 v4 v5 mm
def BX7_alike_4 (k4 : Int32 → Int32 → Int32 → Mm → Option (Int32 × Mm)) (v1 : Int32) (v2 : Int32) (v3 : Int32) (mm : Mm) : Option (Int32 × Mm) :=
  (if 6 ≤ v3 then some (v2, mm) else DX7_alike_16 k4 FU v1 v2 v3 0 0 mm)
def DX7_alike_4 : Nat → Int32 → Int32 → Int32 → Mm → Option (Int32 × Mm)
  | 0, _, _, _, _ => none
  | n + 1, v1, v2, v3, mm => BX7_alike_4 (DX7_alike_4 n) v1 v2 v3 mm
def dX7_alike (v1 : Int32) (mm : Mm) : Option (Int32 × Mm) :=
  DX7_alike_4 FU v1 0 0 mm
def DX7_tellingBits_36 (k5 : Int32 → Int32 → Mm → Option (Int32 × Mm)) (v1 : Int32) (v2 : Int32) (mm : Mm) : Option (Int32 × Mm) :=
  k5 v1 (v2 + 1) mm
def DX7_tellingBits_34 (k5 : Int32 → Int32 → Mm → Option (Int32 × Mm)) (v2 : Int32) (mm : Mm) : Option (Int32 × Mm) :=
  DX7_tellingBits_36 k5 v2 v2 mm
def BX7_tellingBits_5 (k5 : Int32 → Int32 → Mm → Option (Int32 × Mm)) (v1 : Int32) (v2 : Int32) (mm : Mm) : Option (Int32 × Mm) :=
  (if 8 ≤ v2 then some (v1, mm) else ((dX7_alike v2 mm).bind fun q13 => (if q13.1 = 0 then (if v1 < 0 then DX7_tellingBits_34 k5 v2 q13.2 else ((dJ6_bitCount_0f7a4 v2 q13.2).bind fun q24 => ((dJ6_bitCount_0f7a4 v1 q24.2).bind fun q28 => (if q28.1 ≤ q24.1 then DX7_tellingBits_36 k5 v1 v2 q28.2 else DX7_tellingBits_34 k5 v2 q28.2)))) else DX7_tellingBits_36 k5 v1 v2 q13.2)))
def DX7_tellingBits_5 : Nat → Int32 → Int32 → Mm → Option (Int32 × Mm)
  | 0, _, _, _ => none
  | n + 1, v1, v2, mm => BX7_tellingBits_5 (DX7_tellingBits_5 n) v1 v2 mm
def dX7_tellingBits (mm : Mm) : Option (Int32 × Mm) :=
  DX7_tellingBits_5 FU (-2) 0 mm
def dX9_tells (v1 : Int32) (mm : Mm) : Option (Int32 × Mm) :=
  ((dX9_isPart v1 mm).bind fun q1 => (if q1.1 = 0 then some ((-1), q1.2) else (if v1 = 0 then ((dX7_alike 7 q1.2).bind fun q19 => some (q19.1, q19.2)) else ((dX7_tellingBits q1.2).bind fun q29 => some (q29.1, q29.2)))))
def DX10_areAlike_64 (k6 : Int32 → Int32 → Int32 → Int32 → Int32 → Mm → Option (Int32 × Mm)) (v1 : Int32) (v2 : Int32) (v3 : Int32) (v5 : Int32) (s0 : Int32) (mm : Mm) : Option (Int32 × Mm) :=
  k6 v1 v2 v3 s0 (v5 + 1) mm
def DX10_areAlike_63 (k6 : Int32 → Int32 → Int32 → Int32 → Int32 → Mm → Option (Int32 × Mm)) (v1 : Int32) (v2 : Int32) (v3 : Int32) (v5 : Int32) (mm : Mm) : Option (Int32 × Mm) :=
  DX10_areAlike_64 k6 v1 v2 v3 v5 0 mm
def DX10_areAlike_59 (k6 : Int32 → Int32 → Int32 → Int32 → Int32 → Mm → Option (Int32 × Mm)) (v1 : Int32) (v2 : Int32) (v3 : Int32) (v5 : Int32) (mm : Mm) : Option (Int32 × Mm) :=
  DX10_areAlike_64 k6 v1 v2 v3 v5 1 mm
def BX10_areAlike_6 (k6 : Int32 → Int32 → Int32 → Int32 → Int32 → Mm → Option (Int32 × Mm)) (v1 : Int32) (v2 : Int32) (v3 : Int32) (v4 : Int32) (v5 : Int32) (mm : Mm) : Option (Int32 × Mm) :=
  (if 3 ≤ v5 then (if v4 = 0 ∨ v4 = 1 then some (v4, mm) else none) else (if v4 = 0 then DX10_areAlike_63 k6 v1 v2 v3 v5 mm else ((dX10_isIn v3 v5 mm).bind fun q20 => (if q20.1 = 0 then DX10_areAlike_59 k6 v1 v2 v3 v5 q20.2 else (if inB ((6 + (6 * v5)) + v1) 62 then (if inB ((6 + (6 * v5)) + v2) 62 then (if (gI q20.2 59 (Int32.toNatClampNeg ((6 + (6 * v5)) + v1))) = (gI q20.2 59 (Int32.toNatClampNeg ((6 + (6 * v5)) + v2))) then DX10_areAlike_59 k6 v1 v2 v3 v5 q20.2 else DX10_areAlike_63 k6 v1 v2 v3 v5 q20.2) else none) else none)))))
def DX10_areAlike_6 : Nat → Int32 → Int32 → Int32 → Int32 → Int32 → Mm → Option (Int32 × Mm)
  | 0, _, _, _, _, _, _ => none
  | n + 1, v1, v2, v3, v4, v5, mm => BX10_areAlike_6 (DX10_areAlike_6 n) v1 v2 v3 v4 v5 mm
def dX10_areAlike (v1 : Int32) (v2 : Int32) (v3 : Int32) (mm : Mm) : Option (Int32 × Mm) :=
  DX10_areAlike_6 FU v1 v2 v3 1 0 mm
def DX10_alikeBy_69 (k4 : Int32 → Int32 → Int32 → Mm → Option (Int32 × Mm)) (v1 : Int32) (v3 : Int32) (s0 : Int32) (s1 : Int32) (mm : Mm) : Option (Int32 × Mm) :=
  k4 v1 (s1 + s0) (v3 + 1) mm
def DX10_alikeBy_50 (k4 : Int32 → Int32 → Int32 → Mm → Option (Int32 × Mm)) (k16 : Int32 → Int32 → Int32 → Int32 → Int32 → Mm → Option (Int32 × Mm)) (v1 : Int32) (v2 : Int32) (v3 : Int32) (v5 : Int32) (s0 : Int32) (mm : Mm) : Option (Int32 × Mm) :=
  k16 v1 v2 v3 s0 (v5 + 1) mm
def DX10_alikeBy_45 (k4 : Int32 → Int32 → Int32 → Mm → Option (Int32 × Mm)) (k16 : Int32 → Int32 → Int32 → Int32 → Int32 → Mm → Option (Int32 × Mm)) (v1 : Int32) (v2 : Int32) (v3 : Int32) (v5 : Int32) (mm : Mm) : Option (Int32 × Mm) :=
  DX10_alikeBy_50 k4 k16 v1 v2 v3 v5 1 mm
def DX10_alikeBy_49 (k4 : Int32 → Int32 → Int32 → Mm → Option (Int32 × Mm)) (k16 : Int32 → Int32 → Int32 → Int32 → Int32 → Mm → Option (Int32 × Mm)) (v1 : Int32) (v2 : Int32) (v3 : Int32) (v5 : Int32) (mm : Mm) : Option (Int32 × Mm) :=
  DX10_alikeBy_50 k4 k16 v1 v2 v3 v5 0 mm
def BX10_alikeBy_16 (k4 : Int32 → Int32 → Int32 → Mm → Option (Int32 × Mm)) (k16 : Int32 → Int32 → Int32 → Int32 → Int32 → Mm → Option (Int32 × Mm)) (v1 : Int32) (v2 : Int32) (v3 : Int32) (v4 : Int32) (v5 : Int32) (mm : Mm) : Option (Int32 × Mm) :=
  (if 6 ≤ v5 then (if v4 = 0 then DX10_alikeBy_69 k4 v1 v3 0 v2 mm else DX10_alikeBy_69 k4 v1 v3 1 v2 mm) else (if v4 = 0 then (if v5 = v3 then DX10_alikeBy_49 k4 k16 v1 v2 v3 v5 mm else ((dX10_areAlike v3 v5 v1 mm).bind fun q39 => (if q39.1 = 0 then DX10_alikeBy_49 k4 k16 v1 v2 v3 v5 q39.2 else DX10_alikeBy_45 k4 k16 v1 v2 v3 v5 q39.2))) else DX10_alikeBy_45 k4 k16 v1 v2 v3 v5 mm))
def DX10_alikeBy_16 (k4 : Int32 → Int32 → Int32 → Mm → Option (Int32 × Mm)) : Nat → Int32 → Int32 → Int32 → Int32 → Int32 → Mm → Option (Int32 × Mm)
  | 0, _, _, _, _, _, _ => none
  | n + 1, v1, v2, v3, v4, v5, mm => BX10_alikeBy_16 k4 (DX10_alikeBy_16 k4 n) v1 v2 v3 v4 v5 mm
def BX10_alikeBy_4 (k4 : Int32 → Int32 → Int32 → Mm → Option (Int32 × Mm)) (v1 : Int32) (v2 : Int32) (v3 : Int32) (mm : Mm) : Option (Int32 × Mm) :=
  (if 6 ≤ v3 then some (v2, mm) else DX10_alikeBy_16 k4 FU v1 v2 v3 0 0 mm)
def DX10_alikeBy_4 : Nat → Int32 → Int32 → Int32 → Mm → Option (Int32 × Mm)
  | 0, _, _, _, _ => none
  | n + 1, v1, v2, v3, mm => BX10_alikeBy_4 (DX10_alikeBy_4 n) v1 v2 v3 mm
def dX10_alikeBy (v1 : Int32) (mm : Mm) : Option (Int32 × Mm) :=
  DX10_alikeBy_4 FU v1 0 0 mm
def DX10_tells_62 (k28 : Int32 → Int32 → Mm → Option (Int32 × Mm)) (v3 : Int32) (s0 : Int32) (mm : Mm) : Option (Int32 × Mm) :=
  k28 s0 (v3 + 1) mm
def DX10_tells_61 (k28 : Int32 → Int32 → Mm → Option (Int32 × Mm)) (v2 : Int32) (v3 : Int32) (mm : Mm) : Option (Int32 × Mm) :=
  DX10_tells_62 k28 v3 v2 mm
def DX10_tells_57 (k28 : Int32 → Int32 → Mm → Option (Int32 × Mm)) (v3 : Int32) (mm : Mm) : Option (Int32 × Mm) :=
  DX10_tells_62 k28 v3 v3 mm
def BX10_tells_28 (k28 : Int32 → Int32 → Mm → Option (Int32 × Mm)) (v2 : Int32) (v3 : Int32) (mm : Mm) : Option (Int32 × Mm) :=
  (if 8 ≤ v3 then some (v2, mm) else ((dX10_alikeBy v3 mm).bind fun q36 => (if q36.1 = 0 then (if v2 < 0 then DX10_tells_57 k28 v3 q36.2 else ((dX10_bitsOf v3 q36.2).bind fun q47 => ((dX10_bitsOf v2 q47.2).bind fun q51 => (if q51.1 ≤ q47.1 then DX10_tells_61 k28 v2 v3 q51.2 else DX10_tells_57 k28 v3 q51.2)))) else DX10_tells_61 k28 v2 v3 q36.2)))
def DX10_tells_28 : Nat → Int32 → Int32 → Mm → Option (Int32 × Mm)
  | 0, _, _, _ => none
  | n + 1, v2, v3, mm => BX10_tells_28 (DX10_tells_28 n) v2 v3 mm
def dX10_tells (v1 : Int32) (mm : Mm) : Option (Int32 × Mm) :=
  ((dX10_within (Int32.toInt64 v1) 0 1 mm).bind fun q4 => (if q4.1 = 0 then some ((-1), q4.2) else (if v1 = 0 then ((dX10_alikeBy 7 q4.2).bind fun q19 => some (q19.1, q19.2)) else DX10_tells_28 FU (-2) 0 q4.2)))
def DX2_sale_41 (mm : Mm) : Option (Int32 × Mm) :=
  some (0, mm)
def dX2_sale (v1 : Int32) (v2 : Int32) (mm : Mm) : Option (Int32 × Mm) :=
  ((dX7_plainWorth v1 v2 mm).bind fun q6 => (if q6.1 < v2 then DX2_sale_41 q6.2 else ((dX7_told 6 v1 q6.2).bind fun q22 => (if q22.1 < v2 then DX2_sale_41 q22.2 else some ((((v2 * 1000) + q6.1) - v2), q22.2)))))
def dX2_moved (v0 : Int32) (v1 : Int32) (mm : Mm) : Option (Int32 × Mm) :=
  (if v1 = 0 then some ((iMax 0 (v0 - 10)), mm) else some ((iMin (tbMOST (Int32.toNatClampNeg 5)) (v0 + 10)), mm))
def dX2_paid (v0 : Int32) (mm : Mm) : Option (Int32 × Mm) :=
  some ((v0 / 1000), mm)
def dX2_gained (v0 : Int32) (mm : Mm) : Option (Int32 × Mm) :=
  some ((iRem v0 1000), mm)
def DX2_outcome_11 (r_X2_outcome : Int32 → Int32 → Int32 → Int32 → Mm → Option (Int32 × Mm)) (v1 : Int32) (v2 : Int32) (mm : Mm) : Option (Int32 × Mm) :=
  ((dX2_sale v1 v2 mm).bind fun q14 => some (q14.1, q14.2))
def DX2_outcome_106 (r_X2_outcome : Int32 → Int32 → Int32 → Int32 → Mm → Option (Int32 × Mm)) (v6 : Int32) (v7 : Int32) (s0 : Int32) (mm : Mm) : Option (Int32 × Mm) :=
  (if s0 = 0 then some (v6, mm) else some (v7, mm))
def DX2_outcome_29 (r_X2_outcome : Int32 → Int32 → Int32 → Int32 → Mm → Option (Int32 × Mm)) (v1 : Int32) (v2 : Int32) (v3 : Int32) (v4 : Int32) (s0 : Int32) (mm : Mm) : Option (Int32 × Mm) :=
  ((r_X2_outcome v1 v2 (v3 + 1) v4 mm).bind fun q39 => ((dX2_moved v2 s0 q39.2).bind fun q49 => ((r_X2_outcome v1 q49.1 (v3 + 1) v4 q49.2).bind fun q57 => (if s0 = 0 then ((dX2_gained q57.1 q57.2).bind fun q90 => ((dX2_gained q39.1 q90.2).bind fun q95 => (if q90.1 ≤ q95.1 then DX2_outcome_106 r_X2_outcome q39.1 q57.1 0 q95.2 else DX2_outcome_106 r_X2_outcome q39.1 q57.1 1 q95.2))) else ((dX2_paid q57.1 q57.2).bind fun q69 => ((dX2_paid q39.1 q69.2).bind fun q74 => (if q69.1 ≤ q74.1 then DX2_outcome_106 r_X2_outcome q39.1 q57.1 0 q74.2 else DX2_outcome_106 r_X2_outcome q39.1 q57.1 1 q74.2)))))))
def bX2_outcome (r_X2_outcome : Int32 → Int32 → Int32 → Int32 → Mm → Option (Int32 × Mm)) (v1 : Int32) (v2 : Int32) (v3 : Int32) (v4 : Int32) (mm : Mm) : Option (Int32 × Mm) :=
  (if v4 ≤ v3 then DX2_outcome_11 r_X2_outcome v1 v2 mm else (if v3 < 4 then (if (iRem v3 2) = 0 then DX2_outcome_29 r_X2_outcome v1 v2 v3 v4 1 mm else DX2_outcome_29 r_X2_outcome v1 v2 v3 v4 0 mm) else DX2_outcome_11 r_X2_outcome v1 v2 mm))
def gX2_outcome : Nat → (Int32 → Int32 → Int32 → Int32 → Mm → Option (Int32 × Mm))
  | 0 => (fun _ _ _ _ _ => none)
  | n + 1 => (bX2_outcome ((gX2_outcome n)))
def dX2_outcome (n : Nat) : Int32 → Int32 → Int32 → Int32 → Mm → Option (Int32 × Mm) := (gX2_outcome n)
def dX2_turnsPaid (v1 : Int32) (v2 : Int32) (v3 : Int32) (mm : Mm) : Option (Int32 × Mm) :=
  ((dX7_told 5 v2 mm).bind fun q8 => ((dX2_outcome 100 v1 q8.1 0 v3 q8.2).bind fun q13 => ((dX2_paid q13.1 q13.2).bind fun q16 => some (q16.1, q16.2))))
def dX2_turnsRaised (v1 : Int32) (v2 : Int32) (v3 : Int32) (mm : Mm) : Option (Int32 × Mm) :=
  ((dX7_told 5 v2 mm).bind fun q6 => ((dX2_outcome 100 v1 q6.1 1 v3 q6.2).bind fun q17 => ((dX2_moved q6.1 1 q17.2).bind fun q27 => ((dX2_outcome 100 v1 q27.1 1 v3 q27.2).bind fun q32 => ((dX2_paid q32.1 q32.2).bind fun q39 => ((dX2_paid q17.1 q39.2).bind fun q44 => (if q39.1 ≤ q44.1 then some (0, q44.2) else some (1, q44.2))))))))
def DX9_byTurns_25 (mm : Mm) : Option (Int32 × Mm) :=
  some ((-1), mm)
def dX9_byTurns (v1 : Int32) (v2 : Int32) (v3 : Int32) (mm : Mm) : Option (Int32 × Mm) :=
  ((dX9_isBuyerAndSack v1 mm).bind fun q2 => (if q2.1 = 0 then DX9_byTurns_25 q2.2 else (if v2 < 1 then DX9_byTurns_25 q2.2 else (if 4 < v2 then DX9_byTurns_25 q2.2 else ((dX9_isPart v3 q2.2).bind fun q19 => (if q19.1 = 0 then DX9_byTurns_25 q19.2 else ((dX7_isFree (iRem v1 10) q19.2).bind fun q35 => (if q35.1 = 0 then some ((-5), q35.2) else (if v3 = 0 then ((dX2_turnsPaid (v1 / 10) (iRem v1 10) v2 q35.2).bind fun q61 => some (q61.1, q61.2)) else ((dX2_turnsRaised (v1 / 10) (iRem v1 10) v2 q35.2).bind fun q80 => some (q80.1, q80.2)))))))))))
def dX10_movedBy (v0 : Int32) (v1 : Int32) (mm : Mm) : Option (Int32 × Mm) :=
  (if (iRem v0 2) = 0 then (if (v1 + 10) ≤ 99 then some ((v1 + 10), mm) else some (99, mm)) else (if 10 ≤ v1 then some ((v1 - 10), mm) else some (0, mm)))
def DX10_paidAt_46 (mm : Mm) : Option (Int32 × Mm) :=
  some ((-1), mm)
def dX10_paidAt (v1 : Int32) (v2 : Int32) (v3 : Int32) (mm : Mm) : Option (Int32 × Mm) :=
  ((dX10_weighs (-1) v1 v2 mm).bind fun q4 => ((dX10_worthAll v1 v2 v3 q4.2).bind fun q11 => ((dX10_weightAll q11.2).bind fun q15 => (if q15.1 = 0 then none else (if (q11.1 / q15.1) < (Int32.toInt64 v3) then DX10_paidAt_46 q15.2 else (if inB (44 + v1) 62 then (if (gI q15.2 59 (Int32.toNatClampNeg (44 + v1))) < v3 then DX10_paidAt_46 q15.2 else some (v3, q15.2)) else none))))))
def dX10_hasOf (v1 : Int32) (v2 : Int32) (v3 : Int32) (v4 : Int32) (mm : Mm) : Option (Int64 × Mm) :=
  ((dX10_paidAt v1 v2 v4 mm).bind fun q5 => (if (iRem v3 2) = 0 then (if 0 ≤ q5.1 then some ((Int32.toInt64 q5.1), q5.2) else some (0, q5.2)) else (if 0 ≤ q5.1 then ((dX10_worthAll v1 v2 v4 q5.2).bind fun q43 => ((dX10_weightAll q43.2).bind fun q47 => (if q47.1 = 0 then none else some (((q43.1 / q47.1) - (Int32.toInt64 q5.1)), q47.2)))) else some (0, q5.2))))
def bX10_askedFrom (r_X10_askedFrom : Int32 → Int32 → Int32 → Int32 → Int32 → Mm → Option (Int32 × Mm)) (v1 : Int32) (v2 : Int32) (v3 : Int32) (v4 : Int32) (v5 : Int32) (mm : Mm) : Option (Int32 × Mm) :=
  (if v3 = v4 then some (v5, mm) else ((r_X10_askedFrom v1 v2 (v3 + 1) v4 v5 mm).bind fun q19 => ((dX10_movedBy v3 v5 q19.2).bind fun q35 => ((r_X10_askedFrom v1 v2 (v3 + 1) v4 q35.1 q35.2).bind fun q38 => ((dX10_hasOf v1 v2 v3 q38.1 q38.2).bind fun q49 => ((dX10_hasOf v1 v2 v3 q19.1 q49.2).bind fun q58 => (if q49.1 ≤ q58.1 then some (q19.1, q58.2) else some (q38.1, q58.2))))))))
def gX10_askedFrom : Nat → (Int32 → Int32 → Int32 → Int32 → Int32 → Mm → Option (Int32 × Mm))
  | 0 => (fun _ _ _ _ _ _ => none)
  | n + 1 => (bX10_askedFrom ((gX10_askedFrom n)))
def dX10_askedFrom (n : Nat) : Int32 → Int32 → Int32 → Int32 → Int32 → Mm → Option (Int32 × Mm) := (gX10_askedFrom n)
def DX10_byTurns_30 (mm : Mm) : Option (Int32 × Mm) :=
  some ((-1), mm)
def dX10_byTurns (v1 : Int32) (v2 : Int32) (v3 : Int32) (mm : Mm) : Option (Int32 × Mm) :=
  ((dX10_isBs v1 mm).bind fun q2 => (if q2.1 = 0 then DX10_byTurns_30 q2.2 else ((dX10_within (Int32.toInt64 v2) 1 4 q2.2).bind fun q14 => (if q14.1 = 0 then DX10_byTurns_30 q14.2 else ((dX10_within (Int32.toInt64 v3) 0 1 q14.2).bind fun q24 => (if q24.1 = 0 then DX10_byTurns_30 q24.2 else ((dX10_isFree (iRem v1 10) q24.2).bind fun q47 => (if q47.1 = 0 then some ((-5), q47.2) else (if inB (34 + (iRem v1 10)) 62 then (if v3 = 0 then ((dX10_askedFrom 100 (v1 / 10) (iRem v1 10) 0 v2 (gI q47.2 59 (Int32.toNatClampNeg (34 + (iRem v1 10)))) q47.2).bind fun q86 => ((dX10_paidAt (v1 / 10) (iRem v1 10) q86.1 q86.2).bind fun q89 => (if 0 ≤ q89.1 then some (q89.1, q89.2) else some (0, q89.2)))) else ((dX10_askedFrom 100 (v1 / 10) (iRem v1 10) 1 v2 (gI q47.2 59 (Int32.toNatClampNeg (34 + (iRem v1 10)))) q47.2).bind fun q115 => ((dX10_movedBy 0 (gI q47.2 59 (Int32.toNatClampNeg (34 + (iRem v1 10)))) q115.2).bind fun q130 => ((dX10_askedFrom 100 (v1 / 10) (iRem v1 10) 1 v2 q130.1 q130.2).bind fun q133 => ((dX10_hasOf (v1 / 10) (iRem v1 10) 0 q133.1 q133.2).bind fun q146 => ((dX10_hasOf (v1 / 10) (iRem v1 10) 0 q115.1 q146.2).bind fun q157 => (if q146.1 ≤ q157.1 then some (0, q157.2) else some (1, q157.2)))))))) else none)))))))))
def DX2_days_151 (k12 : Int32 → Int32 → Int32 → Int32 → Int32 → Int32 → Int32 → Mm → Option (Int32 × Mm)) (k33 : Int32 → Int32 → Int32 → Int32 → Int32 → Int32 → Int32 → Int32 → Int32 → Mm → Option (Int32 × Mm)) (v2 : Int32) (v3 : Int32) (v4 : Int32) (v5 : Int32) (v6 : Int32) (v7 : Int32) (v8 : Int32) (v9 : Int32) (v10 : Int32) (mm : Mm) : Option (Int32 × Mm) :=
  k33 v2 v3 v4 v5 v6 v7 v8 v9 (v10 + 1) mm
def BX2_days_33 (k12 : Int32 → Int32 → Int32 → Int32 → Int32 → Int32 → Int32 → Mm → Option (Int32 × Mm)) (k33 : Int32 → Int32 → Int32 → Int32 → Int32 → Int32 → Int32 → Int32 → Int32 → Mm → Option (Int32 × Mm)) (v2 : Int32) (v3 : Int32) (v4 : Int32) (v5 : Int32) (v6 : Int32) (v7 : Int32) (v8 : Int32) (v9 : Int32) (v10 : Int32) (mm : Mm) : Option (Int32 × Mm) :=
  (if (gI mm 1 2) ≤ v10 then k12 v2 v3 v4 v5 v6 v7 (v8 + 1) mm else ((dX7_isFree v10 mm).bind fun q51 => (if q51.1 = 0 then DX2_days_151 k12 k33 v2 v3 v4 v5 v6 v7 v8 v9 v10 q51.2 else ((dX7_told 5 v10 q51.2).bind fun q78 => (if v9 < q78.1 then DX2_days_151 k12 k33 v2 v3 v4 ((v5 * 1103515245) + 12345) v6 v7 v8 v9 v10 q78.2 else ((dX7_worthTo v3 (iRem (iUshr ((v5 * 1103515245) + 12345) 8) 6) q78.1 q78.2).bind fun q105 => (if q105.1 < q78.1 then DX2_days_151 k12 k33 v2 v3 v4 ((v5 * 1103515245) + 12345) v6 v7 v8 v9 v10 q105.2 else ((dX7_told 4 v10 q105.2).bind fun q137 => ((dX7_worthTo v3 q137.1 q78.1 q137.2).bind fun q142 => DX2_days_151 k12 k33 v2 v3 v4 ((v5 * 1103515245) + 12345) (v6 + 1) (v7 + (q142.1 - q78.1)) v8 (v9 - q78.1) v10 q142.2)))))))))
def DX2_days_33 (k12 : Int32 → Int32 → Int32 → Int32 → Int32 → Int32 → Int32 → Mm → Option (Int32 × Mm)) : Nat → Int32 → Int32 → Int32 → Int32 → Int32 → Int32 → Int32 → Int32 → Int32 → Mm → Option (Int32 × Mm)
  | 0, _, _, _, _, _, _, _, _, _, _ => none
  | n + 1, v2, v3, v4, v5, v6, v7, v8, v9, v10, mm => BX2_days_33 k12 (DX2_days_33 k12 n) v2 v3 v4 v5 v6 v7 v8 v9 v10 mm
def BX2_days_12 (k12 : Int32 → Int32 → Int32 → Int32 → Int32 → Int32 → Int32 → Mm → Option (Int32 × Mm)) (v2 : Int32) (v3 : Int32) (v4 : Int32) (v5 : Int32) (v6 : Int32) (v7 : Int32) (v8 : Int32) (mm : Mm) : Option (Int32 × Mm) :=
  (if v2 ≤ v8 then (if v4 = 0 then some (v6, mm) else some (v7, mm)) else ((dX7_told 6 v3 mm).bind fun q25 => DX2_days_33 k12 FU v2 v3 v4 v5 v6 v7 v8 q25.1 0 q25.2))
def DX2_days_12 : Nat → Int32 → Int32 → Int32 → Int32 → Int32 → Int32 → Int32 → Mm → Option (Int32 × Mm)
  | 0, _, _, _, _, _, _, _, _ => none
  | n + 1, v2, v3, v4, v5, v6, v7, v8, mm => BX2_days_12 (DX2_days_12 n) v2 v3 v4 v5 v6 v7 v8 mm
def dX2_days (v1 : Int32) (v2 : Int32) (v3 : Int32) (v4 : Int32) (mm : Mm) : Option (Int32 × Mm) :=
  DX2_days_12 FU v2 v3 v4 v1 0 0 0 mm
def DX9_drawn_32 (mm : Mm) : Option (Int32 × Mm) :=
  some ((-2000000000), mm)
def dX9_drawn (v1 : Int32) (v2 : Int32) (v3 : Int32) (v4 : Int32) (mm : Mm) : Option (Int32 × Mm) :=
  (if v2 < 1 then DX9_drawn_32 mm else (if 30 < v2 then DX9_drawn_32 mm else ((dX7_holds 6 v3 mm).bind fun q18 => (if q18.1 = 0 then DX9_drawn_32 q18.2 else ((dX9_isPart v4 q18.2).bind fun q26 => (if q26.1 = 0 then DX9_drawn_32 q26.2 else ((dX2_days v1 v2 v3 v4 q26.2).bind fun q44 => some (q44.1, q44.2))))))))
def DX10_drawn_32 (mm : Mm) : Option (Int32 × Mm) :=
  some ((-2000000000), mm)
def DX10_drawn_171 (k47 : Int32 → Int32 → Int32 → Int32 → Int32 → Int32 → Int32 → Mm → Option (Int32 × Mm)) (k67 : Int32 → Int32 → Int32 → Int32 → Int32 → Int32 → Int32 → Int32 → Int32 → Mm → Option (Int32 × Mm)) (v2 : Int32) (v3 : Int32) (v4 : Int32) (v5 : Int32) (v6 : Int32) (v7 : Int32) (v8 : Int32) (v9 : Int32) (v10 : Int32) (mm : Mm) : Option (Int32 × Mm) :=
  k67 v2 v3 v4 v5 v6 v7 v8 v9 (v10 + 1) mm
def BX10_drawn_67 (k47 : Int32 → Int32 → Int32 → Int32 → Int32 → Int32 → Int32 → Mm → Option (Int32 × Mm)) (k67 : Int32 → Int32 → Int32 → Int32 → Int32 → Int32 → Int32 → Int32 → Int32 → Mm → Option (Int32 × Mm)) (v2 : Int32) (v3 : Int32) (v4 : Int32) (v5 : Int32) (v6 : Int32) (v7 : Int32) (v8 : Int32) (v9 : Int32) (v10 : Int32) (mm : Mm) : Option (Int32 × Mm) :=
  (if (gI mm 58 6) ≤ v10 then k47 v2 v3 v4 v5 v6 v7 (v8 + 1) mm else ((dX10_isFree v10 mm).bind fun q79 => (if q79.1 = 0 then DX10_drawn_171 k47 k67 v2 v3 v4 v5 v6 v7 v8 v9 v10 q79.2 else (if inB (34 + v10) 62 then ((dX10_worthFor v3 (iRem (iUshr ((v5 * 1103515245) + 12345) 8) 6) (gI q79.2 59 (Int32.toNatClampNeg (34 + v10))) q79.2).bind fun q121 => (if q121.1 < (gI q79.2 59 (Int32.toNatClampNeg (34 + v10))) then DX10_drawn_171 k47 k67 v2 v3 v4 ((v5 * 1103515245) + 12345) v6 v7 v8 v9 v10 q121.2 else (if v9 < (gI q79.2 59 (Int32.toNatClampNeg (34 + v10))) then DX10_drawn_171 k47 k67 v2 v3 v4 ((v5 * 1103515245) + 12345) v6 v7 v8 v9 v10 q121.2 else (if inB (24 + v10) 62 then ((dX10_worthFor v3 (gI q121.2 59 (Int32.toNatClampNeg (24 + v10))) (gI q79.2 59 (Int32.toNatClampNeg (34 + v10))) q121.2).bind fun q162 => DX10_drawn_171 k47 k67 v2 v3 v4 ((v5 * 1103515245) + 12345) (v6 + 1) (v7 + (q162.1 - (gI q79.2 59 (Int32.toNatClampNeg (34 + v10))))) v8 (v9 - (gI q79.2 59 (Int32.toNatClampNeg (34 + v10)))) v10 q162.2) else none)))) else none))))
def DX10_drawn_67 (k47 : Int32 → Int32 → Int32 → Int32 → Int32 → Int32 → Int32 → Mm → Option (Int32 × Mm)) : Nat → Int32 → Int32 → Int32 → Int32 → Int32 → Int32 → Int32 → Int32 → Int32 → Mm → Option (Int32 × Mm)
  | 0, _, _, _, _, _, _, _, _, _, _ => none
  | n + 1, v2, v3, v4, v5, v6, v7, v8, v9, v10, mm => BX10_drawn_67 k47 (DX10_drawn_67 k47 n) v2 v3 v4 v5 v6 v7 v8 v9 v10 mm
def BX10_drawn_47 (k47 : Int32 → Int32 → Int32 → Int32 → Int32 → Int32 → Int32 → Mm → Option (Int32 × Mm)) (v2 : Int32) (v3 : Int32) (v4 : Int32) (v5 : Int32) (v6 : Int32) (v7 : Int32) (v8 : Int32) (mm : Mm) : Option (Int32 × Mm) :=
  (if v2 ≤ v8 then (if v4 = 0 then some (v6, mm) else some (v7, mm)) else (if inB (44 + v3) 62 then DX10_drawn_67 k47 FU v2 v3 v4 v5 v6 v7 v8 (gI mm 59 (Int32.toNatClampNeg (44 + v3))) 0 mm else none))
def DX10_drawn_47 : Nat → Int32 → Int32 → Int32 → Int32 → Int32 → Int32 → Int32 → Mm → Option (Int32 × Mm)
  | 0, _, _, _, _, _, _, _, _ => none
  | n + 1, v2, v3, v4, v5, v6, v7, v8, mm => BX10_drawn_47 (DX10_drawn_47 n) v2 v3 v4 v5 v6 v7 v8 mm
def dX10_drawn (v1 : Int32) (v2 : Int32) (v3 : Int32) (v4 : Int32) (mm : Mm) : Option (Int32 × Mm) :=
  ((dX10_within (Int32.toInt64 v2) 1 30 mm).bind fun q6 => (if q6.1 = 0 then DX10_drawn_32 q6.2 else ((dX10_isBuyer (Int32.toInt64 v3) q6.2).bind fun q15 => (if q15.1 = 0 then DX10_drawn_32 q15.2 else ((dX10_within (Int32.toInt64 v4) 0 1 q15.2).bind fun q26 => (if q26.1 = 0 then DX10_drawn_32 q26.2 else DX10_drawn_47 FU v2 v3 v4 v1 0 0 0 q26.2))))))
def dX3_handOver (v1 : Int32) (v2 : Int32) (mm : Mm) : Option (Int32 × Mm) :=
  ((dX7_told 5 v1 mm).bind fun q6 => ((dX7_told 6 v2 q6.2).bind fun q17 => ((dX7_set 6 v2 (q17.1 - q6.1) q17.2).bind fun q33 => ((dX7_set 9 v1 v2 q33.2).bind fun q44 => some ((q17.1 - q6.1), (sI (sI q44.2 24 0 ((gI q44.2 24 0) + 1)) 24 1 ((gI (sI q44.2 24 0 ((gI q44.2 24 0) + 1)) 24 1) + q6.1)))))))
def DX9_sell_25 (mm : Mm) : Option (Int32 × Mm) :=
  some ((-1), mm)
def DX9_sell_60 (mm : Mm) : Option (Int32 × Mm) :=
  some ((-5), mm)
def dX9_sell (v1 : Int32) (v2 : Int32) (mm : Mm) : Option (Int32 × Mm) :=
  ((dX7_holds 4 v1 mm).bind fun q6 => (if q6.1 = 0 then DX9_sell_25 q6.2 else ((dX7_holds 6 v2 q6.2).bind fun q19 => (if q19.1 = 0 then DX9_sell_25 q19.2 else ((dX7_isFree v1 q19.2).bind fun q32 => (if q32.1 = 0 then DX9_sell_60 q32.2 else ((dX7_told 6 v2 q32.2).bind fun q45 => ((dX7_told 5 v1 q45.2).bind fun q54 => (if q54.1 ≤ q45.1 then ((dX3_handOver v1 v2 q54.2).bind fun q69 => some (q69.1, q69.2)) else DX9_sell_60 q54.2)))))))))
def DX10_sell_18 (mm : Mm) : Option (Int32 × Mm) :=
  some ((-1), mm)
def DX10_sell_51 (mm : Mm) : Option (Int32 × Mm) :=
  some ((-5), mm)
def dX10_sell (v1 : Int32) (v2 : Int32) (mm : Mm) : Option (Int32 × Mm) :=
  ((dX10_isSack (Int32.toInt64 v1) mm).bind fun q3 => (if q3.1 = 0 then DX10_sell_18 q3.2 else ((dX10_isBuyer (Int32.toInt64 v2) q3.2).bind fun q12 => (if q12.1 = 0 then DX10_sell_18 q12.2 else (if inB (34 + v1) 62 then ((dX10_isFree v1 q12.2).bind fun q32 => (if q32.1 = 0 then DX10_sell_51 q32.2 else (if inB (44 + v2) 62 then (if (gI q12.2 59 (Int32.toNatClampNeg (34 + v1))) ≤ (gI q32.2 59 (Int32.toNatClampNeg (44 + v2))) then (if inB v1 10 then (if inB (44 + v2) 62 then (if inB (44 + v2) 62 then (if inB (44 + v2) 62 then some ((gI (sI (sI (sI (sI q32.2 63 (Int32.toNatClampNeg v1) v2) 59 (Int32.toNatClampNeg (44 + v2)) ((gI (sI q32.2 63 (Int32.toNatClampNeg v1) v2) 59 (Int32.toNatClampNeg (44 + v2))) - (gI q12.2 59 (Int32.toNatClampNeg (34 + v1))))) 72 0 ((gI (sI (sI q32.2 63 (Int32.toNatClampNeg v1) v2) 59 (Int32.toNatClampNeg (44 + v2)) ((gI (sI q32.2 63 (Int32.toNatClampNeg v1) v2) 59 (Int32.toNatClampNeg (44 + v2))) - (gI q12.2 59 (Int32.toNatClampNeg (34 + v1))))) 72 0) + 1)) 72 1 ((gI (sI (sI (sI q32.2 63 (Int32.toNatClampNeg v1) v2) 59 (Int32.toNatClampNeg (44 + v2)) ((gI (sI q32.2 63 (Int32.toNatClampNeg v1) v2) 59 (Int32.toNatClampNeg (44 + v2))) - (gI q12.2 59 (Int32.toNatClampNeg (34 + v1))))) 72 0 ((gI (sI (sI q32.2 63 (Int32.toNatClampNeg v1) v2) 59 (Int32.toNatClampNeg (44 + v2)) ((gI (sI q32.2 63 (Int32.toNatClampNeg v1) v2) 59 (Int32.toNatClampNeg (44 + v2))) - (gI q12.2 59 (Int32.toNatClampNeg (34 + v1))))) 72 0) + 1)) 72 1) + (gI q12.2 59 (Int32.toNatClampNeg (34 + v1))))) 59 (Int32.toNatClampNeg (44 + v2))), (sI (sI (sI (sI q32.2 63 (Int32.toNatClampNeg v1) v2) 59 (Int32.toNatClampNeg (44 + v2)) ((gI (sI q32.2 63 (Int32.toNatClampNeg v1) v2) 59 (Int32.toNatClampNeg (44 + v2))) - (gI q12.2 59 (Int32.toNatClampNeg (34 + v1))))) 72 0 ((gI (sI (sI q32.2 63 (Int32.toNatClampNeg v1) v2) 59 (Int32.toNatClampNeg (44 + v2)) ((gI (sI q32.2 63 (Int32.toNatClampNeg v1) v2) 59 (Int32.toNatClampNeg (44 + v2))) - (gI q12.2 59 (Int32.toNatClampNeg (34 + v1))))) 72 0) + 1)) 72 1 ((gI (sI (sI (sI q32.2 63 (Int32.toNatClampNeg v1) v2) 59 (Int32.toNatClampNeg (44 + v2)) ((gI (sI q32.2 63 (Int32.toNatClampNeg v1) v2) 59 (Int32.toNatClampNeg (44 + v2))) - (gI q12.2 59 (Int32.toNatClampNeg (34 + v1))))) 72 0 ((gI (sI (sI q32.2 63 (Int32.toNatClampNeg v1) v2) 59 (Int32.toNatClampNeg (44 + v2)) ((gI (sI q32.2 63 (Int32.toNatClampNeg v1) v2) 59 (Int32.toNatClampNeg (44 + v2))) - (gI q12.2 59 (Int32.toNatClampNeg (34 + v1))))) 72 0) + 1)) 72 1) + (gI q12.2 59 (Int32.toNatClampNeg (34 + v1)))))) else none) else none) else none) else none) else DX10_sell_51 q32.2) else none))) else none)))))
def DX3_untie_53 (s0 : Int32) (s1 : Int32) (s2 : Int32) (mm : Mm) : Option (Unit × Mm) :=
  (if inB s2 5 then some ((), (sI mm 24 (Int32.toNatClampNeg s2) (s1 + s0))) else none)
def dX3_untie (v1 : Int32) (mm : Mm) : Option (Unit × Mm) :=
  ((dX7_set 10 v1 1 mm).bind fun q8 => ((dX7_told 4 v1 (sI q8.2 24 2 ((gI q8.2 24 2) + 1))).bind fun q39 => ((dX7_groans v1 q39.1 q39.2).bind fun q42 => (if q42.1 = 0 then DX3_untie_53 0 (gI (sI q8.2 24 2 ((gI q8.2 24 2) + 1)) 24 3) 3 q42.2 else DX3_untie_53 1 (gI (sI q8.2 24 2 ((gI q8.2 24 2) + 1)) 24 3) 3 q42.2))))
def dX9_open (v1 : Int32) (mm : Mm) : Option (Int32 × Mm) :=
  ((dX7_holds 4 v1 mm).bind fun q6 => (if q6.1 = 0 then some ((-1), q6.2) else ((dX7_isOpen v1 q6.2).bind fun q19 => (if q19.1 = 0 then ((dX3_untie v1 q19.2).bind fun q33 => ((dX7_told 4 v1 q33.2).bind fun q42 => some (q42.1, q42.2))) else some ((-5), q19.2)))))
def DX10_opens_88 (v2 : Int32) (s0 : Int32) (s1 : Int32) (s2 : Int32) (mm : Mm) : Option (Int32 × Mm) :=
  (if inB s2 5 then (if v2 = 0 then some (0, (sI mm 72 (Int32.toNatClampNeg s2) (s1 + s0))) else some (1, (sI mm 72 (Int32.toNatClampNeg s2) (s1 + s0)))) else none)
def DX10_opens_61 (s0 : Int32) (mm : Mm) : Option (Int32 × Mm) :=
  (if s0 = 0 then DX10_opens_88 s0 0 (gI (sI mm 72 2 ((gI mm 72 2) + 1)) 72 3) 3 (sI mm 72 2 ((gI mm 72 2) + 1)) else DX10_opens_88 s0 1 (gI (sI mm 72 2 ((gI mm 72 2) + 1)) 72 3) 3 (sI mm 72 2 ((gI mm 72 2) + 1)))
def DX10_opens_60 (mm : Mm) : Option (Int32 × Mm) :=
  DX10_opens_61 0 mm
def dX10_opens (v1 : Int32) (mm : Mm) : Option (Int32 × Mm) :=
  (if inB v1 10 then (if inB v1 10 then (if (gI (sI mm 64 (Int32.toNatClampNeg v1) (vp_nar .boolean 1)) 63 (Int32.toNatClampNeg v1)) < 0 then DX10_opens_60 (sI mm 64 (Int32.toNatClampNeg v1) (vp_nar .boolean 1)) else (if inB v1 10 then (if inB (24 + v1) 62 then (if inB (34 + v1) 62 then ((dX10_worthFor (gI (sI mm 64 (Int32.toNatClampNeg v1) (vp_nar .boolean 1)) 63 (Int32.toNatClampNeg v1)) (gI (sI mm 64 (Int32.toNatClampNeg v1) (vp_nar .boolean 1)) 59 (Int32.toNatClampNeg (24 + v1))) (gI (sI mm 64 (Int32.toNatClampNeg v1) (vp_nar .boolean 1)) 59 (Int32.toNatClampNeg (34 + v1))) (sI mm 64 (Int32.toNatClampNeg v1) (vp_nar .boolean 1))).bind fun q41 => (if inB (34 + v1) 62 then (if (gI q41.2 59 (Int32.toNatClampNeg (34 + v1))) ≤ q41.1 then DX10_opens_60 q41.2 else DX10_opens_61 1 q41.2) else none)) else none) else none) else none)) else none) else none)
def dX10_open (v1 : Int32) (mm : Mm) : Option (Int32 × Mm) :=
  ((dX10_isSack (Int32.toInt64 v1) mm).bind fun q3 => (if q3.1 = 0 then some ((-1), q3.2) else (if inB v1 10 then (if (gI q3.2 64 (Int32.toNatClampNeg v1)) = 0 then ((dX10_opens v1 q3.2).bind fun q25 => (if inB (24 + v1) 62 then some ((gI q25.2 59 (Int32.toNatClampNeg (24 + v1))), q25.2) else none)) else some ((-5), q3.2)) else none)))
def DX3_untieAll_36 (k9 : Int32 → Int32 → Mm → Option (Int32 × Mm)) (v1 : Int32) (v2 : Int32) (mm : Mm) : Option (Int32 × Mm) :=
  k9 v1 (v2 + 1) mm
def BX3_untieAll_9 (k9 : Int32 → Int32 → Mm → Option (Int32 × Mm)) (v1 : Int32) (v2 : Int32) (mm : Mm) : Option (Int32 × Mm) :=
  (if (gI mm 1 2) ≤ v2 then some (((gI (sI mm 24 4 ((gI mm 24 4) + 1)) 24 3) - v1), (sI mm 24 4 ((gI mm 24 4) + 1))) else ((dX7_isOpen v2 mm).bind fun q25 => (if q25.1 = 0 then ((dX3_untie v2 q25.2).bind fun q33 => DX3_untieAll_36 k9 v1 v2 q33.2) else DX3_untieAll_36 k9 v1 v2 q25.2)))
def DX3_untieAll_9 : Nat → Int32 → Int32 → Mm → Option (Int32 × Mm)
  | 0, _, _, _ => none
  | n + 1, v1, v2, mm => BX3_untieAll_9 (DX3_untieAll_9 n) v1 v2 mm
def dX3_untieAll (mm : Mm) : Option (Int32 × Mm) :=
  DX3_untieAll_9 FU (gI mm 24 3) 0 mm
def dX9_dusk (mm : Mm) : Option (Int32 × Mm) :=
  ((dX3_untieAll mm).bind fun q4 => some (q4.1, q4.2))
def DX10_dusk_31 (k4 : Int32 → Int32 → Mm → Option (Int32 × Mm)) (v2 : Int32) (s0 : Int32) (s1 : Int32) (mm : Mm) : Option (Int32 × Mm) :=
  k4 (s1 + s0) (v2 + 1) mm
def BX10_dusk_4 (k4 : Int32 → Int32 → Mm → Option (Int32 × Mm)) (v1 : Int32) (v2 : Int32) (mm : Mm) : Option (Int32 × Mm) :=
  (if (gI mm 58 6) ≤ v2 then some (v1, (sI mm 72 4 ((gI mm 72 4) + 1))) else (if inB v2 10 then (if (gI mm 64 (Int32.toNatClampNeg v2)) = 0 then ((dX10_opens v2 mm).bind fun q28 => DX10_dusk_31 k4 v2 q28.1 v1 q28.2) else DX10_dusk_31 k4 v2 0 v1 mm) else none))
def DX10_dusk_4 : Nat → Int32 → Int32 → Mm → Option (Int32 × Mm)
  | 0, _, _, _ => none
  | n + 1, v1, v2, mm => BX10_dusk_4 (DX10_dusk_4 n) v1 v2 mm
def dX10_dusk (mm : Mm) : Option (Int32 × Mm) :=
  DX10_dusk_4 FU 0 0 mm
def dX3_line (v1 : Int32) (mm : Mm) : Option (Int32 × Mm) :=
  (if inB v1 5 then some ((gI mm 24 (Int32.toNatClampNeg v1)), mm) else none)
def DX9_led_9 (mm : Mm) : Option (Int32 × Mm) :=
  some ((-1), mm)
def dX9_led (v1 : Int32) (mm : Mm) : Option (Int32 × Mm) :=
  (if v1 < 0 then DX9_led_9 mm else (if v1 < 5 then ((dX3_line v1 mm).bind fun q18 => some (q18.1, q18.2)) else DX9_led_9 mm))
def dX10_led (v1 : Int32) (mm : Mm) : Option (Int32 × Mm) :=
  ((dX10_within (Int32.toInt64 v1) 0 4 mm).bind fun q6 => (if q6.1 = 0 then some ((-1), q6.2) else (if inB v1 5 then some ((gI q6.2 72 (Int32.toNatClampNeg v1)), q6.2) else none)))
def BX3_keepImage_72 (k72 : Int32 → Mm → Option (Unit × Mm)) (v1 : Int32) (mm : Mm) : Option (Unit × Mm) :=
  (if (gI mm 23 7) ≤ v1 then some ((), (sI (cpI mm 24 25 0 0 5) 23 8 1)) else ((dX7_told 6 v1 mm).bind fun q92 => (if inB v1 6 then k72 (v1 + 1) (sI q92.2 28 (Int32.toNatClampNeg v1) q92.1) else none)))
def DX3_keepImage_72 : Nat → Int32 → Mm → Option (Unit × Mm)
  | 0, _, _ => none
  | n + 1, v1, mm => BX3_keepImage_72 (DX3_keepImage_72 n) v1 mm
def BX3_keepImage_24 (k24 : Int32 → Mm → Option (Unit × Mm)) (v1 : Int32) (mm : Mm) : Option (Unit × Mm) :=
  (if (gI mm 23 6) ≤ v1 then DX3_keepImage_72 FU 0 mm else ((dX7_told 9 v1 mm).bind fun q44 => (if inB v1 10 then ((dX7_told 10 v1 (sI q44.2 26 (Int32.toNatClampNeg v1) q44.1)).bind fun q60 => (if inB v1 10 then k24 (v1 + 1) (sI q60.2 27 (Int32.toNatClampNeg v1) q60.1) else none)) else none)))
def DX3_keepImage_24 : Nat → Int32 → Mm → Option (Unit × Mm)
  | 0, _, _ => none
  | n + 1, v1, mm => BX3_keepImage_24 (DX3_keepImage_24 n) v1 mm
def dX3_keepImage (mm : Mm) : Option (Unit × Mm) :=
  DX3_keepImage_24 FU 0 (sI (sI mm 23 6 (gI mm 1 2)) 23 7 (gI (sI mm 23 6 (gI mm 1 2)) 1 3))
def dX9_image (mm : Mm) : Option (Int32 × Mm) :=
  ((dX3_keepImage mm).bind fun q4 => ((dX3_line 0 q4.2).bind fun q12 => some (q12.1, q12.2)))
def BX10_image_94 (k94 : Int32 → Mm → Option (Int32 × Mm)) (v1 : Int32) (mm : Mm) : Option (Int32 × Mm) :=
  (if 5 ≤ v1 then some ((gI mm 72 0), mm) else (if inB v1 5 then (if inB v1 5 then k94 (v1 + 1) (sI mm 76 (Int32.toNatClampNeg v1) (gI mm 72 (Int32.toNatClampNeg v1))) else none) else none))
def DX10_image_94 : Nat → Int32 → Mm → Option (Int32 × Mm)
  | 0, _, _ => none
  | n + 1, v1, mm => BX10_image_94 (DX10_image_94 n) v1 mm
def BX10_image_63 (k63 : Int32 → Mm → Option (Int32 × Mm)) (v1 : Int32) (mm : Mm) : Option (Int32 × Mm) :=
  (if (gI mm 58 7) ≤ v1 then DX10_image_94 FU 0 mm else (if inB (44 + v1) 62 then (if inB v1 6 then k63 (v1 + 1) (sI mm 75 (Int32.toNatClampNeg v1) (gI mm 59 (Int32.toNatClampNeg (44 + v1)))) else none) else none))
def DX10_image_63 : Nat → Int32 → Mm → Option (Int32 × Mm)
  | 0, _, _ => none
  | n + 1, v1, mm => BX10_image_63 (DX10_image_63 n) v1 mm
def BX10_image_23 (k23 : Int32 → Mm → Option (Int32 × Mm)) (v1 : Int32) (mm : Mm) : Option (Int32 × Mm) :=
  (if (gI mm 58 6) ≤ v1 then DX10_image_63 FU 0 mm else (if inB v1 10 then (if inB v1 10 then (if inB v1 10 then (if inB v1 10 then k23 (v1 + 1) (sI (sI mm 73 (Int32.toNatClampNeg v1) (gI mm 63 (Int32.toNatClampNeg v1))) 74 (Int32.toNatClampNeg v1) (vp_nar .boolean (gI (sI mm 73 (Int32.toNatClampNeg v1) (gI mm 63 (Int32.toNatClampNeg v1))) 64 (Int32.toNatClampNeg v1)))) else none) else none) else none) else none))
def DX10_image_23 : Nat → Int32 → Mm → Option (Int32 × Mm)
  | 0, _, _ => none
  | n + 1, v1, mm => BX10_image_23 (DX10_image_23 n) v1 mm
def dX10_image (mm : Mm) : Option (Int32 × Mm) :=
  DX10_image_23 FU 0 (sI (sI (sI mm 58 25 1) 58 26 (gI (sI mm 58 25 1) 58 6)) 58 27 (gI (sI (sI mm 58 25 1) 58 26 (gI (sI mm 58 25 1) 58 6)) 58 7))
def BX3_layBack_50 (k50 : Int32 → Mm → Option (Unit × Mm)) (v1 : Int32) (mm : Mm) : Option (Unit × Mm) :=
  (if (gI mm 23 7) ≤ v1 then some ((), (cpI mm 25 24 0 0 5)) else (if inB v1 6 then ((dX7_set 6 v1 (gI mm 28 (Int32.toNatClampNeg v1)) mm).bind fun q71 => k50 (v1 + 1) q71.2) else none))
def DX3_layBack_50 : Nat → Int32 → Mm → Option (Unit × Mm)
  | 0, _, _ => none
  | n + 1, v1, mm => BX3_layBack_50 (DX3_layBack_50 n) v1 mm
def BX3_layBack_2 (k2 : Int32 → Mm → Option (Unit × Mm)) (v1 : Int32) (mm : Mm) : Option (Unit × Mm) :=
  (if (gI mm 23 6) ≤ v1 then DX3_layBack_50 FU 0 mm else (if inB v1 10 then ((dX7_set 9 v1 (gI mm 26 (Int32.toNatClampNeg v1)) mm).bind fun q23 => (if inB v1 10 then ((dX7_set 10 v1 (gI q23.2 27 (Int32.toNatClampNeg v1)) q23.2).bind fun q39 => k2 (v1 + 1) q39.2) else none)) else none))
def DX3_layBack_2 : Nat → Int32 → Mm → Option (Unit × Mm)
  | 0, _, _ => none
  | n + 1, v1, mm => BX3_layBack_2 (DX3_layBack_2 n) v1 mm
def dX3_layBack (mm : Mm) : Option (Unit × Mm) :=
  DX3_layBack_2 FU 0 mm
def dX9_back (mm : Mm) : Option (Int32 × Mm) :=
  (if (gI mm 23 8) = 0 then some ((-5), mm) else ((dX3_layBack mm).bind fun q17 => ((dX3_line 0 q17.2).bind fun q25 => some (q25.1, q25.2))))
def BX10_back_83 (k83 : Int32 → Mm → Option (Int32 × Mm)) (v1 : Int32) (mm : Mm) : Option (Int32 × Mm) :=
  (if 5 ≤ v1 then some ((gI mm 72 0), mm) else (if inB v1 5 then (if inB v1 5 then k83 (v1 + 1) (sI mm 72 (Int32.toNatClampNeg v1) (gI mm 76 (Int32.toNatClampNeg v1))) else none) else none))
def DX10_back_83 : Nat → Int32 → Mm → Option (Int32 × Mm)
  | 0, _, _ => none
  | n + 1, v1, mm => BX10_back_83 (DX10_back_83 n) v1 mm
def BX10_back_52 (k52 : Int32 → Mm → Option (Int32 × Mm)) (v1 : Int32) (mm : Mm) : Option (Int32 × Mm) :=
  (if (gI mm 58 27) ≤ v1 then DX10_back_83 FU 0 mm else (if inB v1 6 then (if inB (44 + v1) 62 then k52 (v1 + 1) (sI mm 59 (Int32.toNatClampNeg (44 + v1)) (gI mm 75 (Int32.toNatClampNeg v1))) else none) else none))
def DX10_back_52 : Nat → Int32 → Mm → Option (Int32 × Mm)
  | 0, _, _ => none
  | n + 1, v1, mm => BX10_back_52 (DX10_back_52 n) v1 mm
def BX10_back_12 (k12 : Int32 → Mm → Option (Int32 × Mm)) (v1 : Int32) (mm : Mm) : Option (Int32 × Mm) :=
  (if (gI mm 58 26) ≤ v1 then DX10_back_52 FU 0 mm else (if inB v1 10 then (if inB v1 10 then (if inB v1 10 then (if inB v1 10 then k12 (v1 + 1) (sI (sI mm 63 (Int32.toNatClampNeg v1) (gI mm 73 (Int32.toNatClampNeg v1))) 64 (Int32.toNatClampNeg v1) (vp_nar .boolean (gI (sI mm 63 (Int32.toNatClampNeg v1) (gI mm 73 (Int32.toNatClampNeg v1))) 74 (Int32.toNatClampNeg v1)))) else none) else none) else none) else none))
def DX10_back_12 : Nat → Int32 → Mm → Option (Int32 × Mm)
  | 0, _, _ => none
  | n + 1, v1, mm => BX10_back_12 (DX10_back_12 n) v1 mm
def dX10_back (mm : Mm) : Option (Int32 × Mm) :=
  (if (gI mm 58 25) = 0 then some ((-5), mm) else DX10_back_12 FU 0 mm)
def dX1_takeBack (mm : Mm) : Option (Int32 × Mm) :=
  (if 0 < (gI mm 29 4) then (if inB (gI (sI mm 29 4 ((gI mm 29 4) - 1)) 29 4) 40 then (if inB (gI (sI mm 29 4 ((gI mm 29 4) - 1)) 29 4) 40 then (if inB (gI (sI mm 29 4 ((gI mm 29 4) - 1)) 29 4) 40 then ((dX7_set (gI (sI mm 29 4 ((gI mm 29 4) - 1)) 30 (Int32.toNatClampNeg (gI (sI mm 29 4 ((gI mm 29 4) - 1)) 29 4))) (gI (sI mm 29 4 ((gI mm 29 4) - 1)) 31 (Int32.toNatClampNeg (gI (sI mm 29 4 ((gI mm 29 4) - 1)) 29 4))) (gI (sI mm 29 4 ((gI mm 29 4) - 1)) 32 (Int32.toNatClampNeg (gI (sI mm 29 4 ((gI mm 29 4) - 1)) 29 4))) (sI mm 29 4 ((gI mm 29 4) - 1))).bind fun q47 => some (1, q47.2)) else none) else none) else none) else some (0, mm))
def dX9_undo (mm : Mm) : Option (Int32 × Mm) :=
  ((dX1_takeBack mm).bind fun q8 => (if q8.1 = 0 then some ((-5), q8.2) else some ((gI q8.2 29 4), q8.2)))
def dX10_undo (mm : Mm) : Option (Int32 × Mm) :=
  (if (gI mm 58 5) = 0 then some ((-5), mm) else (if inB (gI (sI mm 58 5 ((gI mm 58 5) - 1)) 58 5) 40 then (if inB (gI (sI mm 58 5 ((gI mm 58 5) - 1)) 58 5) 40 then (if inB (gI (sI mm 58 5 ((gI mm 58 5) - 1)) 60 (Int32.toNatClampNeg (gI (sI mm 58 5 ((gI mm 58 5) - 1)) 58 5))) 62 then some ((gI (sI (sI mm 58 5 ((gI mm 58 5) - 1)) 59 (Int32.toNatClampNeg (gI (sI mm 58 5 ((gI mm 58 5) - 1)) 60 (Int32.toNatClampNeg (gI (sI mm 58 5 ((gI mm 58 5) - 1)) 58 5)))) (gI (sI mm 58 5 ((gI mm 58 5) - 1)) 61 (Int32.toNatClampNeg (gI (sI mm 58 5 ((gI mm 58 5) - 1)) 58 5)))) 58 5), (sI (sI mm 58 5 ((gI mm 58 5) - 1)) 59 (Int32.toNatClampNeg (gI (sI mm 58 5 ((gI mm 58 5) - 1)) 60 (Int32.toNatClampNeg (gI (sI mm 58 5 ((gI mm 58 5) - 1)) 58 5)))) (gI (sI mm 58 5 ((gI mm 58 5) - 1)) 61 (Int32.toNatClampNeg (gI (sI mm 58 5 ((gI mm 58 5) - 1)) 58 5))))) else none) else none) else none))
def dX1_bringBack (mm : Mm) : Option (Int32 × Mm) :=
  (if (gI mm 29 4) < (gI mm 29 5) then (if inB (gI mm 29 4) 40 then (if inB (gI mm 29 4) 40 then (if inB (gI mm 29 4) 40 then ((dX7_set (gI mm 30 (Int32.toNatClampNeg (gI mm 29 4))) (gI mm 31 (Int32.toNatClampNeg (gI mm 29 4))) (gI mm 33 (Int32.toNatClampNeg (gI mm 29 4))) mm).bind fun q41 => some (1, (sI q41.2 29 4 ((gI q41.2 29 4) + 1)))) else none) else none) else none) else some (0, mm))
def dX9_redo (mm : Mm) : Option (Int32 × Mm) :=
  ((dX1_bringBack mm).bind fun q8 => (if q8.1 = 0 then some ((-5), q8.2) else some (((gI q8.2 29 5) - (gI q8.2 29 4)), q8.2)))
def dX10_redo (mm : Mm) : Option (Int32 × Mm) :=
  (if (gI mm 58 5) = (gI mm 58 4) then some ((-5), mm) else (if inB (gI mm 58 5) 40 then (if inB (gI mm 58 5) 40 then (if inB (gI mm 60 (Int32.toNatClampNeg (gI mm 58 5))) 62 then some (((gI (sI (sI mm 59 (Int32.toNatClampNeg (gI mm 60 (Int32.toNatClampNeg (gI mm 58 5)))) (gI mm 62 (Int32.toNatClampNeg (gI mm 58 5)))) 58 5 ((gI (sI mm 59 (Int32.toNatClampNeg (gI mm 60 (Int32.toNatClampNeg (gI mm 58 5)))) (gI mm 62 (Int32.toNatClampNeg (gI mm 58 5)))) 58 5) + 1)) 58 4) - (gI (sI (sI mm 59 (Int32.toNatClampNeg (gI mm 60 (Int32.toNatClampNeg (gI mm 58 5)))) (gI mm 62 (Int32.toNatClampNeg (gI mm 58 5)))) 58 5 ((gI (sI mm 59 (Int32.toNatClampNeg (gI mm 60 (Int32.toNatClampNeg (gI mm 58 5)))) (gI mm 62 (Int32.toNatClampNeg (gI mm 58 5)))) 58 5) + 1)) 58 5)), (sI (sI mm 59 (Int32.toNatClampNeg (gI mm 60 (Int32.toNatClampNeg (gI mm 58 5)))) (gI mm 62 (Int32.toNatClampNeg (gI mm 58 5)))) 58 5 ((gI (sI mm 59 (Int32.toNatClampNeg (gI mm 60 (Int32.toNatClampNeg (gI mm 58 5)))) (gI mm 62 (Int32.toNatClampNeg (gI mm 58 5)))) 58 5) + 1))) else none) else none) else none))
def dX4_add (v1 : Int32) (mm : Mm) : Option (Int32 × Mm) :=
  (if (gI mm 34 3) < 50 then (if inB (gI mm 34 3) 50 then some (((gI (sI (sI mm 35 (Int32.toNatClampNeg (gI mm 34 3)) v1) 34 3 ((gI (sI mm 35 (Int32.toNatClampNeg (gI mm 34 3)) v1) 34 3) + 1)) 34 3) - 1), (sI (sI mm 35 (Int32.toNatClampNeg (gI mm 34 3)) v1) 34 3 ((gI (sI mm 35 (Int32.toNatClampNeg (gI mm 34 3)) v1) 34 3) + 1))) else none) else some ((-3), mm))
def DX9_body_10 (mm : Mm) : Option (Int32 × Mm) :=
  some ((-1), mm)
def dX9_body (v1 : Int32) (mm : Mm) : Option (Int32 × Mm) :=
  (if v1 < 0 then DX9_body_10 mm else (if v1 < 8 then ((dX4_add v1 mm).bind fun q19 => some (q19.1, q19.2)) else DX9_body_10 mm))
def dX10_body (v1 : Int32) (mm : Mm) : Option (Int32 × Mm) :=
  ((dX10_within (Int32.toInt64 v1) 0 7 mm).bind fun q6 => (if q6.1 = 0 then some ((-1), q6.2) else (if (gI q6.2 58 32) = 50 then some ((-3), q6.2) else (if inB (gI q6.2 58 32) 50 then some (((gI (sI (sI q6.2 77 (Int32.toNatClampNeg (gI q6.2 58 32)) v1) 58 32 ((gI (sI q6.2 77 (Int32.toNatClampNeg (gI q6.2 58 32)) v1) 58 32) + 1)) 58 32) - 1), (sI (sI q6.2 77 (Int32.toNatClampNeg (gI q6.2 58 32)) v1) 58 32 ((gI (sI q6.2 77 (Int32.toNatClampNeg (gI q6.2 58 32)) v1) 58 32) + 1))) else none))))
def DX4_has_16 (mm : Mm) : Option (Int32 × Mm) :=
  some (0, mm)
def dX4_has (v1 : Int32) (mm : Mm) : Option (Int32 × Mm) :=
  (if v1 < 0 then DX4_has_16 mm else (if (gI mm 34 3) ≤ v1 then DX4_has_16 mm else some (1, mm)))
def DX4_ownerOf_38 (v2 : Int32) (mm : Mm) : Option (Int32 × Mm) :=
  some (v2, mm)
def BX4_ownerOf_4 (k4 : Int32 → Int32 → Int32 → Mm → Option (Int32 × Mm)) (v1 : Int32) (v2 : Int32) (v3 : Int32) (mm : Mm) : Option (Int32 × Mm) :=
  (if 8 ≤ v3 then DX4_ownerOf_38 v2 mm else (if v2 < 0 then DX4_ownerOf_38 v2 mm else (if inB ((4 * v2) + v1) 32 then (if (tbOWN (Int32.toNatClampNeg ((4 * v2) + v1))) = 0 then (if inB v2 8 then k4 v1 (tbABOVE (Int32.toNatClampNeg v2)) (v3 + 1) mm else none) else DX4_ownerOf_38 v2 mm) else none)))
def DX4_ownerOf_4 : Nat → Int32 → Int32 → Int32 → Mm → Option (Int32 × Mm)
  | 0, _, _, _, _ => none
  | n + 1, v1, v2, v3, mm => BX4_ownerOf_4 (DX4_ownerOf_4 n) v1 v2 v3 mm
def dX4_ownerOf (v0 : Int32) (v1 : Int32) (mm : Mm) : Option (Int32 × Mm) :=
  DX4_ownerOf_4 FU v1 v0 0 mm
def DX4_note_19 (mm : Mm) : Option (Unit × Mm) :=
  some ((), (sI mm 34 4 ((gI mm 34 4) + 1)))
def dX4_note (v1 : Int32) (mm : Mm) : Option (Unit × Mm) :=
  (if 24 ≤ (gI mm 34 4) then DX4_note_19 mm else (if inB (gI mm 34 4) 24 then DX4_note_19 (sI mm 36 (Int32.toNatClampNeg (gI mm 34 4)) v1) else none))
def DX4_run_19 (r_X4_run : Int32 → Int32 → Int32 → Int32 → Mm → Option (Int32 × Mm)) (mm : Mm) : Option (Int32 × Mm) :=
  some (0, mm)
def bX4_run (r_X4_run : Int32 → Int32 → Int32 → Int32 → Mm → Option (Int32 × Mm)) (v1 : Int32) (v2 : Int32) (v3 : Int32) (v4 : Int32) (mm : Mm) : Option (Int32 × Mm) :=
  ((dX4_ownerOf v1 v2 mm).bind fun q2 => (if q2.1 < 0 then DX4_run_19 r_X4_run q2.2 else (if v4 ≤ 40 then (if inB (gI q2.2 34 2) 50 then (if inB q2.1 8 then (if inB ((4 * q2.1) + v2) 32 then ((dX4_note (tbOWN (Int32.toNatClampNeg ((4 * q2.1) + v2))) q2.2).bind fun q61 => (if (tbOWN (Int32.toNatClampNeg ((4 * q2.1) + v2))) = 1 then some ((v3 + (gI q61.2 34 2)), q61.2) else (if (tbOWN (Int32.toNatClampNeg ((4 * q2.1) + v2))) = 2 then ((r_X4_run (gI q2.2 35 (Int32.toNatClampNeg (gI q2.2 34 2))) 1 v3 (v4 + 1) q61.2).bind fun q214 => ((r_X4_run (gI q2.2 35 (Int32.toNatClampNeg (gI q2.2 34 2))) 2 1 (v4 + 1) q214.2).bind fun q224 => some ((q214.1 - q224.1), q224.2))) else (if (tbOWN (Int32.toNatClampNeg ((4 * q2.1) + v2))) = 10 then ((r_X4_run (gI q2.2 35 (Int32.toNatClampNeg (gI q2.2 34 2))) 0 v3 (v4 + 1) q61.2).bind fun q194 => some ((q194.1 * 2), q194.2)) else (if (tbOWN (Int32.toNatClampNeg ((4 * q2.1) + v2))) = 11 then some ((v3 ^^^ (gI q61.2 34 2)), q61.2) else (if (tbOWN (Int32.toNatClampNeg ((4 * q2.1) + v2))) = 20 then ((r_X4_run (tbABOVE (Int32.toNatClampNeg q2.1)) 0 v3 (v4 + 1) q61.2).bind fun q236 => some ((q236.1 + 3), q236.2)) else (if (tbOWN (Int32.toNatClampNeg ((4 * q2.1) + v2))) = 30 then ((r_X4_run (tbABOVE (Int32.toNatClampNeg q2.1)) 1 v3 (v4 + 1) q61.2).bind fun q249 => some ((-q249.1), q249.2)) else (if (tbOWN (Int32.toNatClampNeg ((4 * q2.1) + v2))) = 40 then ((r_X4_run (tbABOVE (Int32.toNatClampNeg q2.1)) 2 v3 (v4 + 1) q61.2).bind fun q261 => some ((q261.1 * 3), q261.2)) else (if (tbOWN (Int32.toNatClampNeg ((4 * q2.1) + v2))) = 41 then ((r_X4_run (tbABOVE (Int32.toNatClampNeg q2.1)) 1 (v3 + 1) (v4 + 1) q61.2).bind fun q276 => some (q276.1, q276.2)) else (if (tbOWN (Int32.toNatClampNeg ((4 * q2.1) + v2))) = 50 then ((r_X4_run (tbABOVE (Int32.toNatClampNeg q2.1)) 2 v3 (v4 + 1) q61.2).bind fun q287 => ((r_X4_run (gI q2.2 35 (Int32.toNatClampNeg (gI q2.2 34 2))) 0 2 (v4 + 1) q287.2).bind fun q297 => some ((q287.1 - q297.1), q297.2))) else (if (tbOWN (Int32.toNatClampNeg ((4 * q2.1) + v2))) = 60 then ((r_X4_run (tbABOVE (Int32.toNatClampNeg q2.1)) 3 v3 (v4 + 1) q61.2).bind fun q309 => some ((q309.1 ^^^ 5), q309.2)) else (if (tbOWN (Int32.toNatClampNeg ((4 * q2.1) + v2))) = 70 then ((r_X4_run (tbABOVE (Int32.toNatClampNeg q2.1)) 0 v3 (v4 + 1) q61.2).bind fun q322 => some ((q322.1 * 2), q322.2)) else (if (tbOWN (Int32.toNatClampNeg ((4 * q2.1) + v2))) = 80 then ((r_X4_run (tbABOVE (Int32.toNatClampNeg q2.1)) 1 v3 (v4 + 1) q61.2).bind fun q335 => ((r_X4_run (gI q2.2 35 (Int32.toNatClampNeg (gI q2.2 34 2))) 2 2 (v4 + 1) q335.2).bind fun q345 => some ((q335.1 + q345.1), q345.2))) else (if (tbOWN (Int32.toNatClampNeg ((4 * q2.1) + v2))) = 81 then ((r_X4_run (tbABOVE (Int32.toNatClampNeg q2.1)) 3 v3 (v4 + 1) q61.2).bind fun q357 => some ((q357.1 - 1), q357.2)) else some (0, q61.2))))))))))))))) else none) else none) else none) else DX4_run_19 r_X4_run q2.2)))
def gX4_run : Nat → (Int32 → Int32 → Int32 → Int32 → Mm → Option (Int32 × Mm))
  | 0 => (fun _ _ _ _ _ => none)
  | n + 1 => (bX4_run ((gX4_run n)))
def dX4_run (n : Nat) : Int32 → Int32 → Int32 → Int32 → Mm → Option (Int32 × Mm) := (gX4_run n)
def DX4_start_22 (mm : Mm) : Option (Int32 × Mm) :=
  some (0, mm)
def dX4_start (v1 : Int32) (v2 : Int32) (v3 : Int32) (mm : Mm) : Option (Int32 × Mm) :=
  ((dX4_has v1 (sI mm 34 4 0)).bind fun q7 => (if q7.1 = 0 then DX4_start_22 q7.2 else (if v2 < 0 then DX4_start_22 q7.2 else (if v2 < 4 then (if inB v1 50 then ((dX4_run 100 (gI (sI q7.2 34 2 v1) 35 (Int32.toNatClampNeg v1)) v2 v3 0 (sI q7.2 34 2 v1)).bind fun q39 => some (q39.1, q39.2)) else none) else DX4_start_22 q7.2))))
def dX9_act (v1 : Int32) (v2 : Int32) (v3 : Int32) (mm : Mm) : Option (Int32 × Mm) :=
  ((dX4_start v1 v2 v3 mm).bind fun q7 => some (q7.1, q7.2))
def dX10_isBody (v1 : Int32) (mm : Mm) : Option (Int32 × Mm) :=
  ((dX10_within (Int32.toInt64 v1) 0 (Int32.toInt64 ((gI mm 58 32) - 1)) mm).bind fun q10 => some (q10.1, q10.2))
def DX10_runs_19 (mm : Mm) : Option (Unit × Mm) :=
  some ((), (sI mm 58 35 ((gI mm 58 35) + 1)))
def dX10_runs (v1 : Int32) (mm : Mm) : Option (Unit × Mm) :=
  (if 24 ≤ (gI mm 58 35) then DX10_runs_19 mm else (if inB (gI mm 58 35) 24 then DX10_runs_19 (sI mm 78 (Int32.toNatClampNeg (gI mm 58 35)) v1) else none))
def DX10_tiesAs_16 (r_X10_tiesAs : Int32 → Int32 → Mm → Option (Int32 × Mm)) (v2 : Int32) (mm : Mm) : Option (Int32 × Mm) :=
  ((dX10_runs 20 mm).bind fun q19 => ((r_X10_tiesAs 0 v2 q19.2).bind fun q25 => some ((q25.1 + 3), q25.2)))
def bX10_tiesAs (r_X10_tiesAs : Int32 → Int32 → Mm → Option (Int32 × Mm)) (v1 : Int32) (v2 : Int32) (mm : Mm) : Option (Int32 × Mm) :=
  (if v1 = 1 then DX10_tiesAs_16 r_X10_tiesAs v2 mm else (if v1 = 4 then DX10_tiesAs_16 r_X10_tiesAs v2 mm else (if v1 = 7 then DX10_tiesAs_16 r_X10_tiesAs v2 mm else (if v1 = 6 then ((dX10_runs 70 mm).bind fun q40 => ((r_X10_tiesAs 0 v2 q40.2).bind fun q46 => some ((q46.1 * 2), q46.2))) else ((dX10_runs 1 mm).bind fun q54 => some ((v2 + (gI q54.2 58 37)), q54.2))))))
def gX10_tiesAs : Nat → (Int32 → Int32 → Mm → Option (Int32 × Mm))
  | 0 => (fun _ _ _ => none)
  | n + 1 => (bX10_tiesAs ((gX10_tiesAs n)))
def dX10_tiesAs (n : Nat) : Int32 → Int32 → Mm → Option (Int32 × Mm) := (gX10_tiesAs n)
def DX10_shakesAs_10 (r_X10_shakesAs : Int32 → Int32 → Mm → Option (Int32 × Mm)) (v2 : Int32) (mm : Mm) : Option (Int32 × Mm) :=
  ((dX10_runs 40 mm).bind fun q13 => ((r_X10_shakesAs 2 v2 q13.2).bind fun q19 => some ((q19.1 * 3), q19.2)))
def DX10_shakesAs_36 (r_X10_shakesAs : Int32 → Int32 → Mm → Option (Int32 × Mm)) (v2 : Int32) (mm : Mm) : Option (Int32 × Mm) :=
  ((dX10_runs 50 mm).bind fun q39 => ((r_X10_shakesAs 1 v2 q39.2).bind fun q45 => ((dX10_tiesAs 100 (gI q45.2 58 36) 2 q45.2).bind fun q56 => some ((q45.1 - q56.1), q56.2))))
def bX10_shakesAs (r_X10_shakesAs : Int32 → Int32 → Mm → Option (Int32 × Mm)) (v1 : Int32) (v2 : Int32) (mm : Mm) : Option (Int32 × Mm) :=
  (if v1 = 3 then DX10_shakesAs_10 r_X10_shakesAs v2 mm else (if v1 = 5 then DX10_shakesAs_10 r_X10_shakesAs v2 mm else (if v1 = 4 then DX10_shakesAs_36 r_X10_shakesAs v2 mm else (if v1 = 7 then DX10_shakesAs_36 r_X10_shakesAs v2 mm else ((dX10_runs 11 mm).bind fun q64 => some ((v2 ^^^ (gI q64.2 58 37)), q64.2))))))
def gX10_shakesAs : Nat → (Int32 → Int32 → Mm → Option (Int32 × Mm))
  | 0 => (fun _ _ _ => none)
  | n + 1 => (bX10_shakesAs ((gX10_shakesAs n)))
def dX10_shakesAs (n : Nat) : Int32 → Int32 → Mm → Option (Int32 × Mm) := (gX10_shakesAs n)
def DX10_sellsAs_10 (r_X10_sellsAs : Int32 → Int32 → Mm → Option (Int32 × Mm)) (v2 : Int32) (mm : Mm) : Option (Int32 × Mm) :=
  ((dX10_runs 41 mm).bind fun q13 => ((r_X10_sellsAs 2 (v2 + 1) q13.2).bind fun q21 => some (q21.1, q21.2)))
def bX10_sellsAs (r_X10_sellsAs : Int32 → Int32 → Mm → Option (Int32 × Mm)) (v1 : Int32) (v2 : Int32) (mm : Mm) : Option (Int32 × Mm) :=
  (if v1 = 3 then DX10_sellsAs_10 r_X10_sellsAs v2 mm else (if v1 = 5 then DX10_sellsAs_10 r_X10_sellsAs v2 mm else (if v1 = 2 then ((dX10_runs 30 mm).bind fun q33 => ((r_X10_sellsAs 0 v2 q33.2).bind fun q39 => some ((-q39.1), q39.2))) else (if v1 = 7 then ((dX10_runs 80 mm).bind fun q53 => ((r_X10_sellsAs 4 v2 q53.2).bind fun q59 => ((dX10_shakesAs 100 (gI q59.2 58 36) 2 q59.2).bind fun q70 => some ((q59.1 + q70.1), q70.2)))) else ((dX10_runs 10 mm).bind fun q78 => ((dX10_tiesAs 100 (gI q78.2 58 36) v2 q78.2).bind fun q87 => some ((q87.1 * 2), q87.2)))))))
def gX10_sellsAs : Nat → (Int32 → Int32 → Mm → Option (Int32 × Mm))
  | 0 => (fun _ _ _ => none)
  | n + 1 => (bX10_sellsAs ((gX10_sellsAs n)))
def dX10_sellsAs (n : Nat) : Int32 → Int32 → Mm → Option (Int32 × Mm) := (gX10_sellsAs n)
def bX10_tellsAs (r_X10_tellsAs : Int32 → Int32 → Mm → Option (Int32 × Mm)) (v1 : Int32) (v2 : Int32) (mm : Mm) : Option (Int32 × Mm) :=
  (if v1 = 5 then ((dX10_runs 60 mm).bind fun q8 => ((r_X10_tellsAs 3 v2 q8.2).bind fun q14 => some ((q14.1 ^^^ 5), q14.2))) else (if v1 = 7 then ((dX10_runs 81 mm).bind fun q29 => ((r_X10_tellsAs 4 v2 q29.2).bind fun q35 => some ((q35.1 - 1), q35.2))) else ((dX10_runs 2 mm).bind fun q43 => ((dX10_sellsAs 100 (gI q43.2 58 36) v2 q43.2).bind fun q52 => ((dX10_shakesAs 100 (gI q52.2 58 36) 1 q52.2).bind fun q63 => some ((q52.1 - q63.1), q63.2))))))
def gX10_tellsAs : Nat → (Int32 → Int32 → Mm → Option (Int32 × Mm))
  | 0 => (fun _ _ _ => none)
  | n + 1 => (bX10_tellsAs ((gX10_tellsAs n)))
def dX10_tellsAs (n : Nat) : Int32 → Int32 → Mm → Option (Int32 × Mm) := (gX10_tellsAs n)
def dX10_act (v1 : Int32) (v2 : Int32) (v3 : Int32) (mm : Mm) : Option (Int32 × Mm) :=
  ((dX10_isBody v1 (sI mm 58 35 0)).bind fun q7 => (if q7.1 = 0 then some (0, q7.2) else (if inB v1 50 then (if v2 = 0 then ((dX10_tiesAs 100 (gI (sI (sI q7.2 58 36 (gI q7.2 77 (Int32.toNatClampNeg v1))) 58 37 v1) 58 36) v3 (sI (sI q7.2 58 36 (gI q7.2 77 (Int32.toNatClampNeg v1))) 58 37 v1)).bind fun q66 => some (q66.1, q66.2)) else (if v2 = 1 then ((dX10_sellsAs 100 (gI (sI (sI q7.2 58 36 (gI q7.2 77 (Int32.toNatClampNeg v1))) 58 37 v1) 58 36) v3 (sI (sI q7.2 58 36 (gI q7.2 77 (Int32.toNatClampNeg v1))) 58 37 v1)).bind fun q76 => some (q76.1, q76.2)) else (if v2 = 2 then ((dX10_shakesAs 100 (gI (sI (sI q7.2 58 36 (gI q7.2 77 (Int32.toNatClampNeg v1))) 58 37 v1) 58 36) v3 (sI (sI q7.2 58 36 (gI q7.2 77 (Int32.toNatClampNeg v1))) 58 37 v1)).bind fun q86 => some (q86.1, q86.2)) else (if v2 = 3 then ((dX10_tellsAs 100 (gI (sI (sI q7.2 58 36 (gI q7.2 77 (Int32.toNatClampNeg v1))) 58 37 v1) 58 36) v3 (sI (sI q7.2 58 36 (gI q7.2 77 (Int32.toNatClampNeg v1))) 58 37 v1)).bind fun q96 => some (q96.1, q96.2)) else some (0, (sI (sI q7.2 58 36 (gI q7.2 77 (Int32.toNatClampNeg v1))) 58 37 v1)))))) else none)))
def DX4_ranAt_18 (mm : Mm) : Option (Int32 × Mm) :=
  some ((-1), mm)
def dX4_ranAt (v1 : Int32) (mm : Mm) : Option (Int32 × Mm) :=
  (if v1 < 0 then DX4_ranAt_18 mm else (if (gI mm 34 4) ≤ v1 then DX4_ranAt_18 mm else (if v1 < 24 then (if inB v1 24 then some ((gI mm 36 (Int32.toNatClampNeg v1)), mm) else none) else DX4_ranAt_18 mm)))
def dX9_trace (v1 : Int32) (mm : Mm) : Option (Int32 × Mm) :=
  ((dX4_ranAt v1 mm).bind fun q5 => some (q5.1, q5.2))
def DX10_trace_27 (mm : Mm) : Option (Int32 × Mm) :=
  some ((-1), mm)
def dX10_trace (v1 : Int32) (mm : Mm) : Option (Int32 × Mm) :=
  (if v1 < 0 then DX10_trace_27 mm else (if (gI mm 58 35) ≤ v1 then DX10_trace_27 mm else (if 24 ≤ v1 then DX10_trace_27 mm else (if inB v1 24 then some ((gI mm 78 (Int32.toNatClampNeg v1)), mm) else none))))
def DX8_lay_10 (v0 : Nat) (v1 : Int32) (s0 : Int32) (s1 : Nat) (mm : Mm) : Option (Unit × Mm) :=
  some ((), (sI (sI mm s1 1 s0) v0 2 v1))
def dX8_lay (v0 : Nat) (v1 : Int32) (mm : Mm) : Option (Unit × Mm) :=
  (if 38 ≤ v0 ∧ v0 < 44 then (if 0 ≤ v1 then DX8_lay_10 v0 v1 1 v0 mm else DX8_lay_10 v0 v1 0 v0 mm) else none)
def DX9_keep_23 (mm : Mm) : Option (Int32 × Mm) :=
  some ((-1), mm)
def DX9_keep_25 (v1 : Int32) (v2 : Int32) (mm : Mm) : Option (Int32 × Mm) :=
  (if inB v1 6 then ((dX8_lay (38 + (Int32.toNatClampNeg v1)) v2 mm).bind fun q32 => some (1, q32.2)) else none)
def dX9_keep (v1 : Int32) (v2 : Int32) (mm : Mm) : Option (Int32 × Mm) :=
  ((dX9_isShelf v1 mm).bind fun q1 => (if q1.1 = 0 then DX9_keep_23 q1.2 else (if v2 = (-1) then DX9_keep_25 v1 v2 q1.2 else ((dX4_has v2 q1.2).bind fun q17 => (if q17.1 = 0 then DX9_keep_23 q17.2 else DX9_keep_25 v1 v2 q17.2)))))
def DX10_keep_20 (mm : Mm) : Option (Int32 × Mm) :=
  some ((-1), mm)
def DX10_keep_22 (v1 : Int32) (v2 : Int32) (mm : Mm) : Option (Int32 × Mm) :=
  (if inB v1 6 then (if inB v1 6 then some (1, (sI (sI mm 79 (Int32.toNatClampNeg v1) v2) 80 (Int32.toNatClampNeg v1) 0)) else none) else none)
def dX10_keep (v1 : Int32) (v2 : Int32) (mm : Mm) : Option (Int32 × Mm) :=
  ((dX10_isShelf v1 mm).bind fun q1 => (if q1.1 = 0 then DX10_keep_20 q1.2 else (if v2 = (-1) then DX10_keep_22 v1 v2 q1.2 else ((dX10_isBody v2 q1.2).bind fun q14 => (if q14.1 = 0 then DX10_keep_20 q14.2 else DX10_keep_22 v1 v2 q14.2)))))
def dX8_layRow (v0 : Nat) (v1 : Int32) (v2 : Int32) (mm : Mm) : Option (Unit × Mm) :=
  (if 38 ≤ v0 ∧ v0 < 44 then some ((), (flL (sI (sI (sI mm v0 1 2) v0 3 v1) v0 4 v2) (v0 + 6) 60 0)) else none)
def DX9_row_22 (mm : Mm) : Option (Int32 × Mm) :=
  some ((-1), mm)
def dX9_row (v1 : Int32) (v2 : Int32) (v3 : Int32) (mm : Mm) : Option (Int32 × Mm) :=
  ((dX9_isShelf v1 mm).bind fun q1 => (if q1.1 = 0 then DX9_row_22 q1.2 else (if v2 < 0 then DX9_row_22 q1.2 else (if 4 < v2 then DX9_row_22 q1.2 else (if v3 ≤ 60 then (if 0 ≤ v3 then (if inB v1 6 then ((dX8_layRow (38 + (Int32.toNatClampNeg v1)) v2 v3 q1.2).bind fun q39 => some (1, q39.2)) else none) else some ((-14), q1.2)) else DX9_row_22 q1.2)))))
def DX10_row_25 (mm : Mm) : Option (Int32 × Mm) :=
  some ((-1), mm)
def BX10_row_57 (k57 : Int32 → Int32 → Mm → Option (Int32 × Mm)) (v1 : Int32) (v4 : Int32) (mm : Mm) : Option (Int32 × Mm) :=
  (if ((60 * v1) + 60) ≤ v4 then some (1, mm) else (if inB v4 360 then k57 v1 (v4 + 1) (sL mm 81 (Int32.toNatClampNeg v4) 0) else none))
def DX10_row_57 : Nat → Int32 → Int32 → Mm → Option (Int32 × Mm)
  | 0, _, _, _ => none
  | n + 1, v1, v4, mm => BX10_row_57 (DX10_row_57 n) v1 v4 mm
def dX10_row (v1 : Int32) (v2 : Int32) (v3 : Int32) (mm : Mm) : Option (Int32 × Mm) :=
  ((dX10_isShelf v1 mm).bind fun q1 => (if q1.1 = 0 then DX10_row_25 q1.2 else ((dX10_within (Int32.toInt64 v2) 0 4 q1.2).bind fun q13 => (if q13.1 = 0 then DX10_row_25 q13.2 else (if v3 ≤ 60 then (if 0 ≤ v3 then (if inB v1 6 then (if inB v1 6 then DX10_row_57 FU v1 (60 * v1) (sI (sI q13.2 79 (Int32.toNatClampNeg v1) (50 + v2)) 80 (Int32.toNatClampNeg v1) v3) else none) else none) else some ((-14), q13.2)) else DX10_row_25 q13.2)))))
def dX9_placeRefusal (v1 : Int32) (v2 : Int32) (mm : Mm) : Option (Int32 × Mm) :=
  ((dX9_isShelf v1 mm).bind fun q1 => (if q1.1 = 0 then some ((-1), q1.2) else (if inB v1 6 then (if (gI q1.2 (38 + (Int32.toNatClampNeg v1)) 1) = 0 then some ((-11), q1.2) else (if (gI q1.2 (38 + (Int32.toNatClampNeg v1)) 1) = 2 then ((dX8_hasPlaces (38 + (Int32.toNatClampNeg v1)) v2 1 q1.2).bind fun q40 => (if q40.1 = 0 then some ((-13), q40.2) else some (0, q40.2))) else some ((-12), q1.2))) else none)))
def DX8_fitted_66 (v1 : Int64) (mm : Mm) : Option (Int64 × Mm) :=
  some (v1, mm)
def dX8_fitted (v0 : Nat) (v1 : Int64) (mm : Mm) : Option (Int64 × Mm) :=
  (if 38 ≤ v0 ∧ v0 < 44 then (if (gI mm v0 3) = 0 then some ((Int32.toInt64 (iB (Int64.toInt32 v1))), mm) else (if (gI mm v0 3) = 1 then some ((Int32.toInt64 (iS (Int64.toInt32 v1))), mm) else (if (gI mm v0 3) = 2 then some ((Int32.toInt64 (Int64.toInt32 v1)), mm) else (if (gI mm v0 3) = 3 then DX8_fitted_66 v1 mm else (if (gI mm v0 3) = 4 then (if v1 = 0 then some (0, mm) else some (1, mm)) else DX8_fitted_66 v1 mm))))) else none)
def dX8_set (v0 : Nat) (v1 : Int32) (v2 : Int64) (mm : Mm) : Option (Unit × Mm) :=
  (if 38 ≤ v0 ∧ v0 < 44 then ((dX8_hasPlaces v0 v1 1 mm).bind fun q3 => (if q3.1 = 0 then some ((), q3.2) else ((dX8_fitted v0 v2 q3.2).bind fun q16 => (if inB v1 60 then some ((), (sL q16.2 (v0 + 6) (Int32.toNatClampNeg v1) q16.1)) else none)))) else none)
def dX9_put (v1 : Int32) (v2 : Int32) (v3 : Int64) (mm : Mm) : Option (Int32 × Mm) :=
  ((dX9_placeRefusal v1 v2 mm).bind fun q3 => (if q3.1 = 0 then (if inB v1 6 then ((dX8_set (38 + (Int32.toNatClampNeg v1)) v2 v3 q3.2).bind fun q24 => some (1, q24.2)) else none) else some (q3.1, q3.2)))
def DX10_refusal_53 (mm : Mm) : Option (Int32 × Mm) :=
  some ((-13), mm)
def dX10_refusal (v1 : Int32) (v2 : Int32) (mm : Mm) : Option (Int32 × Mm) :=
  ((dX10_isShelf v1 mm).bind fun q1 => (if q1.1 = 0 then some ((-1), q1.2) else (if inB v1 6 then (if 0 ≤ (gI q1.2 79 (Int32.toNatClampNeg v1)) then (if inB v1 6 then (if 50 ≤ (gI q1.2 79 (Int32.toNatClampNeg v1)) then (if v2 < 0 then DX10_refusal_53 q1.2 else (if inB v1 6 then (if (gI q1.2 80 (Int32.toNatClampNeg v1)) ≤ v2 then DX10_refusal_53 q1.2 else some (0, q1.2)) else none)) else some ((-12), q1.2)) else none) else some ((-11), q1.2)) else none)))
def dX10_asSort (v0 : Int32) (v1 : Int64) (mm : Mm) : Option (Int64 × Mm) :=
  (if v0 = 0 then some ((Int32.toInt64 (iB (Int64.toInt32 v1))), mm) else (if v0 = 1 then some ((Int32.toInt64 (iS (Int64.toInt32 v1))), mm) else (if v0 = 2 then some ((Int32.toInt64 (Int64.toInt32 v1)), mm) else (if v0 = 4 then (if v1 = 0 then some (0, mm) else some (1, mm)) else some (v1, mm)))))
def DX10_put_37 (v5 : Int32) (mm : Mm) : Option (Int32 × Mm) :=
  (if v5 = 0 then some (1, mm) else some (v5, mm))
def dX10_put (v1 : Int32) (v2 : Int32) (v3 : Int64) (mm : Mm) : Option (Int32 × Mm) :=
  ((dX10_refusal v1 v2 mm).bind fun q3 => (if q3.1 = 0 then (if inB v1 6 then ((dX10_asSort ((gI q3.2 79 (Int32.toNatClampNeg v1)) - 50) v3 q3.2).bind fun q33 => (if inB ((60 * v1) + v2) 360 then DX10_put_37 q3.1 (sL q33.2 81 (Int32.toNatClampNeg ((60 * v1) + v2)) q33.1) else none)) else none) else DX10_put_37 q3.1 q3.2))
def dX9_element (v1 : Int32) (v2 : Int32) (mm : Mm) : Option (Int64 × Mm) :=
  ((dX9_placeRefusal v1 v2 mm).bind fun q3 => (if q3.1 = 0 then (if inB v1 6 then (if inB v2 60 then some ((gL q3.2 ((38 + (Int32.toNatClampNeg v1)) + 6) (Int32.toNatClampNeg v2)), q3.2) else none) else none) else some ((-9223372036854775808), q3.2)))
def dX10_element (v1 : Int32) (v2 : Int32) (mm : Mm) : Option (Int64 × Mm) :=
  ((dX10_refusal v1 v2 mm).bind fun q3 => (if q3.1 = 0 then (if inB ((60 * v1) + v2) 360 then some ((gL q3.2 81 (Int32.toNatClampNeg ((60 * v1) + v2))), q3.2) else none) else some ((-9223372036854775808), q3.2)))
def DX9_shift_14 (mm : Mm) : Option (Int32 × Mm) :=
  some ((-1), mm)
def DX9_shift_48 (mm : Mm) : Option (Int32 × Mm) :=
  some ((-11), mm)
def DX9_shift_82 (mm : Mm) : Option (Int32 × Mm) :=
  some ((-12), mm)
def DX9_shift_108 (mm : Mm) : Option (Int32 × Mm) :=
  some ((-13), mm)
def dX9_shift (v1 : Int32) (v2 : Int32) (v3 : Int32) (v4 : Int32) (v5 : Int32) (mm : Mm) : Option (Int32 × Mm) :=
  ((dX9_isShelf v1 mm).bind fun q1 => (if q1.1 = 0 then DX9_shift_14 q1.2 else ((dX9_isShelf v3 q1.2).bind fun q8 => (if q8.1 = 0 then DX9_shift_14 q8.2 else (if inB v1 6 then (if inB v3 6 then (if (gI q8.2 (38 + (Int32.toNatClampNeg v1)) 1) = 0 then DX9_shift_48 q8.2 else (if (gI q8.2 (38 + (Int32.toNatClampNeg v3)) 1) = 0 then DX9_shift_48 q8.2 else (if (gI q8.2 (38 + (Int32.toNatClampNeg v1)) 1) = 2 then (if (gI q8.2 (38 + (Int32.toNatClampNeg v3)) 1) = 2 then (if (gI q8.2 (38 + (Int32.toNatClampNeg v1)) 3) = (gI q8.2 (38 + (Int32.toNatClampNeg v3)) 3) then ((dX8_hasPlaces (38 + (Int32.toNatClampNeg v1)) v2 v5 q8.2).bind fun q90 => (if q90.1 = 0 then DX9_shift_108 q90.2 else ((dX8_hasPlaces (38 + (Int32.toNatClampNeg v3)) v4 v5 q90.2).bind fun q102 => (if q102.1 = 0 then DX9_shift_108 q102.2 else (if cpOk v2 v4 v5 60 60 then some (v5, (cpL q102.2 ((38 + (Int32.toNatClampNeg v1)) + 6) ((38 + (Int32.toNatClampNeg v3)) + 6) v2 v4 v5)) else none))))) else DX9_shift_82 q8.2) else DX9_shift_82 q8.2) else DX9_shift_82 q8.2))) else none) else none)))))
def DX10_shift_14 (mm : Mm) : Option (Int32 × Mm) :=
  some ((-1), mm)
def DX10_shift_34 (mm : Mm) : Option (Int32 × Mm) :=
  some ((-11), mm)
def DX10_shift_63 (mm : Mm) : Option (Int32 × Mm) :=
  some ((-12), mm)
def DX10_shift_107 (mm : Mm) : Option (Int32 × Mm) :=
  some ((-13), mm)
def BX10_shift_150 (k150 : Int32 → Int32 → Int32 → Int32 → Mm → Option (Int32 × Mm)) (v3 : Int32) (v4 : Int32) (v5 : Int32) (v6 : Int32) (mm : Mm) : Option (Int32 × Mm) :=
  (if v5 ≤ v6 then some (v5, mm) else (if inB v6 60 then (if inB (((60 * v3) + v4) + v6) 360 then k150 v3 v4 v5 (v6 + 1) (sL mm 81 (Int32.toNatClampNeg (((60 * v3) + v4) + v6)) (gL mm 82 (Int32.toNatClampNeg v6))) else none) else none))
def DX10_shift_150 : Nat → Int32 → Int32 → Int32 → Int32 → Mm → Option (Int32 × Mm)
  | 0, _, _, _, _, _ => none
  | n + 1, v3, v4, v5, v6, mm => BX10_shift_150 (DX10_shift_150 n) v3 v4 v5 v6 mm
def BX10_shift_113 (k113 : Int32 → Int32 → Int32 → Int32 → Int32 → Int32 → Mm → Option (Int32 × Mm)) (v1 : Int32) (v2 : Int32) (v3 : Int32) (v4 : Int32) (v5 : Int32) (v6 : Int32) (mm : Mm) : Option (Int32 × Mm) :=
  (if v5 ≤ v6 then DX10_shift_150 FU v3 v4 v5 0 mm else (if inB (((60 * v1) + v2) + v6) 360 then (if inB v6 60 then k113 v1 v2 v3 v4 v5 (v6 + 1) (sL mm 82 (Int32.toNatClampNeg v6) (gL mm 81 (Int32.toNatClampNeg (((60 * v1) + v2) + v6)))) else none) else none))
def DX10_shift_113 : Nat → Int32 → Int32 → Int32 → Int32 → Int32 → Int32 → Mm → Option (Int32 × Mm)
  | 0, _, _, _, _, _, _, _ => none
  | n + 1, v1, v2, v3, v4, v5, v6, mm => BX10_shift_113 (DX10_shift_113 n) v1 v2 v3 v4 v5 v6 mm
def dX10_shift (v1 : Int32) (v2 : Int32) (v3 : Int32) (v4 : Int32) (v5 : Int32) (mm : Mm) : Option (Int32 × Mm) :=
  ((dX10_isShelf v1 mm).bind fun q1 => (if q1.1 = 0 then DX10_shift_14 q1.2 else ((dX10_isShelf v3 q1.2).bind fun q8 => (if q8.1 = 0 then DX10_shift_14 q8.2 else (if inB v1 6 then (if (gI q8.2 79 (Int32.toNatClampNeg v1)) < 0 then DX10_shift_34 q8.2 else (if inB v3 6 then (if 0 ≤ (gI q8.2 79 (Int32.toNatClampNeg v3)) then (if inB v1 6 then (if (gI q8.2 79 (Int32.toNatClampNeg v1)) < 50 then DX10_shift_63 q8.2 else (if inB v1 6 then (if inB v3 6 then (if (gI q8.2 79 (Int32.toNatClampNeg v1)) = (gI q8.2 79 (Int32.toNatClampNeg v3)) then (if v5 < 0 then DX10_shift_107 q8.2 else (if v2 < 0 then DX10_shift_107 q8.2 else (if v4 < 0 then DX10_shift_107 q8.2 else (if inB v1 6 then (if ((gI q8.2 80 (Int32.toNatClampNeg v1)) - v5) < v2 then DX10_shift_107 q8.2 else (if inB v3 6 then (if v4 ≤ ((gI q8.2 80 (Int32.toNatClampNeg v3)) - v5) then DX10_shift_113 FU v1 v2 v3 v4 v5 0 q8.2 else DX10_shift_107 q8.2) else none)) else none)))) else DX10_shift_63 q8.2) else none) else none)) else none) else DX10_shift_34 q8.2) else none)) else none)))))
def dX4_kindOf (v1 : Int32) (mm : Mm) : Option (Int32 × Mm) :=
  ((dX4_has v1 mm).bind fun q2 => (if q2.1 = 0 then some ((-1), q2.2) else (if inB v1 50 then some ((gI q2.2 35 (Int32.toNatClampNeg v1)), q2.2) else none)))
def DX4_isUnder_37 (v2 : Int32) (v3 : Int32) (mm : Mm) : Option (Int32 × Mm) :=
  (if v3 = v2 then some (1, mm) else some (0, mm))
def BX4_isUnder_9 (k9 : Int32 → Int32 → Int32 → Mm → Option (Int32 × Mm)) (v2 : Int32) (v3 : Int32) (v4 : Int32) (mm : Mm) : Option (Int32 × Mm) :=
  (if 8 ≤ v4 then DX4_isUnder_37 v2 v3 mm else (if v3 < 0 then DX4_isUnder_37 v2 v3 mm else (if v3 = v2 then DX4_isUnder_37 v2 v3 mm else (if inB v3 8 then k9 v2 (tbABOVE (Int32.toNatClampNeg v3)) (v4 + 1) mm else none))))
def DX4_isUnder_9 : Nat → Int32 → Int32 → Int32 → Mm → Option (Int32 × Mm)
  | 0, _, _, _, _ => none
  | n + 1, v2, v3, v4, mm => BX4_isUnder_9 (DX4_isUnder_9 n) v2 v3 v4 mm
def dX4_isUnder (v1 : Int32) (v2 : Int32) (mm : Mm) : Option (Int32 × Mm) :=
  ((dX4_kindOf v1 mm).bind fun q2 => DX4_isUnder_9 FU v2 q2.1 0 q2.2)
def DX9_taken_17 (mm : Mm) : Option (Int32 × Mm) :=
  some ((-1), mm)
def DX9_taken_59 (mm : Mm) : Option (Int32 × Mm) :=
  some ((-12), mm)
def dX9_taken (v1 : Int32) (v2 : Int32) (mm : Mm) : Option (Int32 × Mm) :=
  ((dX9_isShelf v1 mm).bind fun q1 => (if q1.1 = 0 then DX9_taken_17 q1.2 else (if v2 < 0 then DX9_taken_17 q1.2 else (if v2 < 8 then (if inB v1 6 then (if (gI q1.2 (38 + (Int32.toNatClampNeg v1)) 1) = 0 then some ((-11), q1.2) else (if (gI q1.2 (38 + (Int32.toNatClampNeg v1)) 1) = 1 then ((dX4_isUnder (gI q1.2 (38 + (Int32.toNatClampNeg v1)) 2) v2 q1.2).bind fun q53 => (if q53.1 = 0 then DX9_taken_59 q53.2 else ((dX4_kindOf (gI q53.2 (38 + (Int32.toNatClampNeg v1)) 2) q53.2).bind fun q70 => some (q70.1, q70.2)))) else DX9_taken_59 q1.2)) else none) else DX9_taken_17 q1.2))))
def dX10_kindOf (v1 : Int32) (mm : Mm) : Option (Int32 × Mm) :=
  (if inB v1 50 then some ((gI mm 77 (Int32.toNatClampNeg v1)), mm) else none)
def dX10_above (v0 : Int32) (mm : Mm) : Option (Int32 × Mm) :=
  (if v0 = 3 then some (2, mm) else (if v0 = 4 then some (1, mm) else (if v0 = 5 then some (3, mm) else (if v0 = 7 then some (4, mm) else some (0, mm)))))
def DX10_taken_19 (mm : Mm) : Option (Int32 × Mm) :=
  some ((-1), mm)
def DX10_taken_75 (v1 : Int32) (v2 : Int32) (v3 : Int32) (mm : Mm) : Option (Int32 × Mm) :=
  (if v3 = v2 then (if inB v1 6 then ((dX10_kindOf (gI mm 79 (Int32.toNatClampNeg v1)) mm).bind fun q87 => some (q87.1, q87.2)) else none) else some ((-12), mm))
def BX10_taken_58 (k58 : Int32 → Int32 → Int32 → Mm → Option (Int32 × Mm)) (v1 : Int32) (v2 : Int32) (v3 : Int32) (mm : Mm) : Option (Int32 × Mm) :=
  (if v3 = v2 then DX10_taken_75 v1 v2 v3 mm else (if v3 ≤ 0 then DX10_taken_75 v1 v2 v3 mm else ((dX10_above v3 mm).bind fun q68 => k58 v1 v2 q68.1 q68.2)))
def DX10_taken_58 : Nat → Int32 → Int32 → Int32 → Mm → Option (Int32 × Mm)
  | 0, _, _, _, _ => none
  | n + 1, v1, v2, v3, mm => BX10_taken_58 (DX10_taken_58 n) v1 v2 v3 mm
def dX10_taken (v1 : Int32) (v2 : Int32) (mm : Mm) : Option (Int32 × Mm) :=
  ((dX10_isShelf v1 mm).bind fun q1 => (if q1.1 = 0 then DX10_taken_19 q1.2 else ((dX10_within (Int32.toInt64 v2) 0 7 q1.2).bind fun q13 => (if q13.1 = 0 then DX10_taken_19 q13.2 else (if inB v1 6 then (if 0 ≤ (gI q13.2 79 (Int32.toNatClampNeg v1)) then (if inB v1 6 then (if (gI q13.2 79 (Int32.toNatClampNeg v1)) < 50 then (if inB v1 6 then ((dX10_kindOf (gI q13.2 79 (Int32.toNatClampNeg v1)) q13.2).bind fun q54 => DX10_taken_58 FU v1 v2 q54.1 q54.2) else none) else some ((-12), q13.2)) else none) else some ((-11), q13.2)) else none)))))
def dX9_count (v1 : Int32) (mm : Mm) : Option (Int32 × Mm) :=
  (if v1 = 0 then some ((gI mm 1 2), mm) else (if v1 = 1 then some ((gI mm 1 3), mm) else (if v1 = 2 then some ((gI mm 15 4), mm) else (if v1 = 3 then some ((gI mm 29 4), mm) else (if v1 = 4 then some ((gI mm 34 3), mm) else (if v1 = 5 then some ((gI mm 34 4), mm) else some ((-1), mm)))))))
def dX10_count (v1 : Int32) (mm : Mm) : Option (Int32 × Mm) :=
  (if v1 = 0 then some ((gI mm 58 6), mm) else (if v1 = 1 then some ((gI mm 58 7), mm) else (if v1 = 2 then some ((gI mm 58 11), mm) else (if v1 = 3 then some ((gI mm 58 5), mm) else (if v1 = 4 then some ((gI mm 58 32), mm) else (if v1 = 5 then some ((gI mm 58 35), mm) else some ((-1), mm)))))))
def DL_law_1449 (L : Nat) (xs : Nat → Int32) (k18 : Int32 → Mm → Option (Int32 × Mm)) (v3 : Int32) (mm : Mm) : Option (Int32 × Mm) :=
  k18 (v3 + 6) mm
def DL_law_200 (L : Nat) (xs : Nat → Int32) (k18 : Int32 → Mm → Option (Int32 × Mm)) (v3 : Int32) (mm : Mm) : Option (Int32 × Mm) :=
  (if inB (v3 + 1) L then ((dX9_sack (xs (Int32.toNatClampNeg (v3 + 1))) mm).bind fun q206 => (if inB (v3 + 1) L then ((dX10_sack (xs (Int32.toNatClampNeg (v3 + 1))) q206.2).bind fun q215 => (if q206.1 = q215.1 then DL_law_1449 L xs k18 v3 q215.2 else some (0, q215.2))) else none)) else none)
def DL_law_223 (L : Nat) (xs : Nat → Int32) (k18 : Int32 → Mm → Option (Int32 × Mm)) (v3 : Int32) (mm : Mm) : Option (Int32 × Mm) :=
  (if inB (v3 + 1) L then (if inB (v3 + 2) L then (if inB (v3 + 3) L then ((dX9_sacks (xs (Int32.toNatClampNeg (v3 + 1))) (xs (Int32.toNatClampNeg (v3 + 2))) (xs (Int32.toNatClampNeg (v3 + 3))) mm).bind fun q239 => (if inB (v3 + 1) L then (if inB (v3 + 2) L then (if inB (v3 + 3) L then ((dX10_sacks (xs (Int32.toNatClampNeg (v3 + 1))) (xs (Int32.toNatClampNeg (v3 + 2))) (xs (Int32.toNatClampNeg (v3 + 3))) q239.2).bind fun q258 => (if q239.1 = q258.1 then DL_law_1449 L xs k18 v3 q258.2 else some (0, q258.2))) else none) else none) else none)) else none) else none) else none)
def DL_law_266 (L : Nat) (xs : Nat → Int32) (k18 : Int32 → Mm → Option (Int32 × Mm)) (v3 : Int32) (mm : Mm) : Option (Int32 × Mm) :=
  (if inB (v3 + 1) L then (if inB (v3 + 2) L then ((dX9_buyer (xs (Int32.toNatClampNeg (v3 + 1))) (xs (Int32.toNatClampNeg (v3 + 2))) mm).bind fun q277 => (if inB (v3 + 1) L then (if inB (v3 + 2) L then ((dX10_buyer (xs (Int32.toNatClampNeg (v3 + 1))) (xs (Int32.toNatClampNeg (v3 + 2))) q277.2).bind fun q291 => (if q277.1 = q291.1 then DL_law_1449 L xs k18 v3 q291.2 else some (0, q291.2))) else none) else none)) else none) else none)
def DL_law_299 (L : Nat) (xs : Nat → Int32) (k18 : Int32 → Mm → Option (Int32 × Mm)) (v3 : Int32) (mm : Mm) : Option (Int32 × Mm) :=
  (if inB (v3 + 1) L then (if inB (v3 + 2) L then (if inB (v3 + 3) L then ((dX9_mend (xs (Int32.toNatClampNeg (v3 + 1))) (xs (Int32.toNatClampNeg (v3 + 2))) (xs (Int32.toNatClampNeg (v3 + 3))) mm).bind fun q315 => (if inB (v3 + 1) L then (if inB (v3 + 2) L then (if inB (v3 + 3) L then ((dX10_mend (xs (Int32.toNatClampNeg (v3 + 1))) (xs (Int32.toNatClampNeg (v3 + 2))) (xs (Int32.toNatClampNeg (v3 + 3))) q315.2).bind fun q334 => (if q315.1 = q334.1 then DL_law_1449 L xs k18 v3 q334.2 else some (0, q334.2))) else none) else none) else none)) else none) else none) else none)
def DL_law_342 (L : Nat) (xs : Nat → Int32) (k18 : Int32 → Mm → Option (Int32 × Mm)) (v3 : Int32) (mm : Mm) : Option (Int32 × Mm) :=
  (if inB (v3 + 1) L then (if inB (v3 + 2) L then ((dX9_of (xs (Int32.toNatClampNeg (v3 + 1))) (xs (Int32.toNatClampNeg (v3 + 2))) mm).bind fun q353 => (if inB (v3 + 1) L then (if inB (v3 + 2) L then ((dX10_of (xs (Int32.toNatClampNeg (v3 + 1))) (xs (Int32.toNatClampNeg (v3 + 2))) q353.2).bind fun q367 => (if q353.1 = q367.1 then DL_law_1449 L xs k18 v3 q367.2 else some (0, q367.2))) else none) else none)) else none) else none)
def DL_law_375 (L : Nat) (xs : Nat → Int32) (k18 : Int32 → Mm → Option (Int32 × Mm)) (v3 : Int32) (mm : Mm) : Option (Int32 × Mm) :=
  (if inB (v3 + 1) L then ((dX9_feed (xs (Int32.toNatClampNeg (v3 + 1))) mm).bind fun q381 => (if inB (v3 + 1) L then ((dX10_feed (xs (Int32.toNatClampNeg (v3 + 1))) q381.2).bind fun q390 => (if q381.1 = q390.1 then DL_law_1449 L xs k18 v3 q390.2 else some (0, q390.2))) else none)) else none)
def DL_law_398 (L : Nat) (xs : Nat → Int32) (k18 : Int32 → Mm → Option (Int32 × Mm)) (v3 : Int32) (mm : Mm) : Option (Int32 × Mm) :=
  ((dX9_law mm).bind fun q399 => ((dX10_law q399.2).bind fun q403 => (if q399.1 = q403.1 then DL_law_1449 L xs k18 v3 q403.2 else some (0, q403.2))))
def DL_law_411 (L : Nat) (xs : Nat → Int32) (k18 : Int32 → Mm → Option (Int32 × Mm)) (v3 : Int32) (mm : Mm) : Option (Int32 × Mm) :=
  (if inB (v3 + 1) L then (if inB (v3 + 2) L then ((dX9_worthOf (xs (Int32.toNatClampNeg (v3 + 1))) (xs (Int32.toNatClampNeg (v3 + 2))) mm).bind fun q422 => (if inB (v3 + 1) L then (if inB (v3 + 2) L then ((dX10_worthOf (xs (Int32.toNatClampNeg (v3 + 1))) (xs (Int32.toNatClampNeg (v3 + 2))) q422.2).bind fun q436 => (if q422.1 = q436.1 then DL_law_1449 L xs k18 v3 q436.2 else some (0, q436.2))) else none) else none)) else none) else none)
def DL_law_444 (L : Nat) (xs : Nat → Int32) (k18 : Int32 → Mm → Option (Int32 × Mm)) (v3 : Int32) (mm : Mm) : Option (Int32 × Mm) :=
  (if inB (v3 + 1) L then (if inB (v3 + 2) L then (if inB (v3 + 3) L then (if inB (v3 + 4) L then ((dX9_belief (xs (Int32.toNatClampNeg (v3 + 1))) (xs (Int32.toNatClampNeg (v3 + 2))) (xs (Int32.toNatClampNeg (v3 + 3))) (xs (Int32.toNatClampNeg (v3 + 4))) mm).bind fun q465 => (if inB (v3 + 1) L then (if inB (v3 + 2) L then (if inB (v3 + 3) L then (if inB (v3 + 4) L then ((dX10_belief (xs (Int32.toNatClampNeg (v3 + 1))) (xs (Int32.toNatClampNeg (v3 + 2))) (xs (Int32.toNatClampNeg (v3 + 3))) (xs (Int32.toNatClampNeg (v3 + 4))) q465.2).bind fun q489 => (if q465.1 = q489.1 then DL_law_1449 L xs k18 v3 q489.2 else some (0, q489.2))) else none) else none) else none) else none)) else none) else none) else none) else none)
def DL_law_498 (L : Nat) (xs : Nat → Int32) (k18 : Int32 → Mm → Option (Int32 × Mm)) (v3 : Int32) (mm : Mm) : Option (Int32 × Mm) :=
  (if inB (v3 + 1) L then (if inB (v3 + 2) L then (if inB (v3 + 3) L then ((dX9_likeliest (xs (Int32.toNatClampNeg (v3 + 1))) (xs (Int32.toNatClampNeg (v3 + 2))) (xs (Int32.toNatClampNeg (v3 + 3))) mm).bind fun q514 => (if inB (v3 + 1) L then (if inB (v3 + 2) L then (if inB (v3 + 3) L then ((dX10_likeliest (xs (Int32.toNatClampNeg (v3 + 1))) (xs (Int32.toNatClampNeg (v3 + 2))) (xs (Int32.toNatClampNeg (v3 + 3))) q514.2).bind fun q533 => (if q514.1 = q533.1 then DL_law_1449 L xs k18 v3 q533.2 else some (0, q533.2))) else none) else none) else none)) else none) else none) else none)
def DL_law_541 (L : Nat) (xs : Nat → Int32) (k18 : Int32 → Mm → Option (Int32 × Mm)) (v3 : Int32) (mm : Mm) : Option (Int32 × Mm) :=
  (if inB (v3 + 1) L then (if inB (v3 + 2) L then (if inB (v3 + 3) L then ((dX9_worth (xs (Int32.toNatClampNeg (v3 + 1))) (xs (Int32.toNatClampNeg (v3 + 2))) (xs (Int32.toNatClampNeg (v3 + 3))) mm).bind fun q557 => (if inB (v3 + 1) L then (if inB (v3 + 2) L then (if inB (v3 + 3) L then ((dX10_worth (xs (Int32.toNatClampNeg (v3 + 1))) (xs (Int32.toNatClampNeg (v3 + 2))) (xs (Int32.toNatClampNeg (v3 + 3))) q557.2).bind fun q576 => (if q557.1 = q576.1 then DL_law_1449 L xs k18 v3 q576.2 else some (0, q576.2))) else none) else none) else none)) else none) else none) else none)
def DL_law_585 (L : Nat) (xs : Nat → Int32) (k18 : Int32 → Mm → Option (Int32 × Mm)) (v3 : Int32) (mm : Mm) : Option (Int32 × Mm) :=
  (if inB (v3 + 1) L then (if inB (v3 + 2) L then ((dX9_next (xs (Int32.toNatClampNeg (v3 + 1))) (xs (Int32.toNatClampNeg (v3 + 2))) mm).bind fun q596 => (if inB (v3 + 1) L then (if inB (v3 + 2) L then ((dX10_next (xs (Int32.toNatClampNeg (v3 + 1))) (xs (Int32.toNatClampNeg (v3 + 2))) q596.2).bind fun q610 => (if q596.1 = q610.1 then DL_law_1449 L xs k18 v3 q610.2 else some (0, q610.2))) else none) else none)) else none) else none)
def DL_law_618 (L : Nat) (xs : Nat → Int32) (k18 : Int32 → Mm → Option (Int32 × Mm)) (v3 : Int32) (mm : Mm) : Option (Int32 × Mm) :=
  (if inB (v3 + 1) L then (if inB (v3 + 2) L then (if inB (v3 + 3) L then ((dX9_right (xs (Int32.toNatClampNeg (v3 + 1))) (xs (Int32.toNatClampNeg (v3 + 2))) (xs (Int32.toNatClampNeg (v3 + 3))) mm).bind fun q634 => (if inB (v3 + 1) L then (if inB (v3 + 2) L then (if inB (v3 + 3) L then ((dX10_right (xs (Int32.toNatClampNeg (v3 + 1))) (xs (Int32.toNatClampNeg (v3 + 2))) (xs (Int32.toNatClampNeg (v3 + 3))) q634.2).bind fun q653 => (if q634.1 = q653.1 then DL_law_1449 L xs k18 v3 q653.2 else some (0, q653.2))) else none) else none) else none)) else none) else none) else none)
def DL_law_662 (L : Nat) (xs : Nat → Int32) (k18 : Int32 → Mm → Option (Int32 × Mm)) (v3 : Int32) (mm : Mm) : Option (Int32 × Mm) :=
  (if inB (v3 + 1) L then (if inB (v3 + 2) L then (if inB (v3 + 3) L then ((dX9_buys (xs (Int32.toNatClampNeg (v3 + 1))) (xs (Int32.toNatClampNeg (v3 + 2))) (xs (Int32.toNatClampNeg (v3 + 3))) mm).bind fun q678 => (if inB (v3 + 1) L then (if inB (v3 + 2) L then (if inB (v3 + 3) L then ((dX10_buys (xs (Int32.toNatClampNeg (v3 + 1))) (xs (Int32.toNatClampNeg (v3 + 2))) (xs (Int32.toNatClampNeg (v3 + 3))) q678.2).bind fun q697 => (if q678.1 = q697.1 then DL_law_1449 L xs k18 v3 q697.2 else some (0, q697.2))) else none) else none) else none)) else none) else none) else none)
def DL_law_705 (L : Nat) (xs : Nat → Int32) (k18 : Int32 → Mm → Option (Int32 × Mm)) (v3 : Int32) (mm : Mm) : Option (Int32 × Mm) :=
  (if inB (v3 + 1) L then ((dX9_dealt (xs (Int32.toNatClampNeg (v3 + 1))) mm).bind fun q711 => (if inB (v3 + 1) L then ((dX10_dealt (xs (Int32.toNatClampNeg (v3 + 1))) q711.2).bind fun q720 => (if q711.1 = q720.1 then DL_law_1449 L xs k18 v3 q720.2 else some (0, q720.2))) else none)) else none)
def DL_law_728 (L : Nat) (xs : Nat → Int32) (k18 : Int32 → Mm → Option (Int32 × Mm)) (v3 : Int32) (mm : Mm) : Option (Int32 × Mm) :=
  (if inB (v3 + 1) L then (if inB (v3 + 2) L then ((dX9_groan (xs (Int32.toNatClampNeg (v3 + 1))) (xs (Int32.toNatClampNeg (v3 + 2))) mm).bind fun q739 => (if inB (v3 + 1) L then (if inB (v3 + 2) L then ((dX10_groan (xs (Int32.toNatClampNeg (v3 + 1))) (xs (Int32.toNatClampNeg (v3 + 2))) q739.2).bind fun q753 => (if q739.1 = q753.1 then DL_law_1449 L xs k18 v3 q753.2 else some (0, q753.2))) else none) else none)) else none) else none)
def DL_law_761 (L : Nat) (xs : Nat → Int32) (k18 : Int32 → Mm → Option (Int32 × Mm)) (v3 : Int32) (mm : Mm) : Option (Int32 × Mm) :=
  (if inB (v3 + 1) L then (if inB (v3 + 2) L then ((dX9_stock (xs (Int32.toNatClampNeg (v3 + 1))) (xs (Int32.toNatClampNeg (v3 + 2))) mm).bind fun q772 => (if inB (v3 + 1) L then (if inB (v3 + 2) L then ((dX10_stock (xs (Int32.toNatClampNeg (v3 + 1))) (xs (Int32.toNatClampNeg (v3 + 2))) q772.2).bind fun q786 => (if q772.1 = q786.1 then DL_law_1449 L xs k18 v3 q786.2 else some (0, q786.2))) else none) else none)) else none) else none)
def DL_law_795 (L : Nat) (xs : Nat → Int32) (k18 : Int32 → Mm → Option (Int32 × Mm)) (v3 : Int32) (mm : Mm) : Option (Int32 × Mm) :=
  (if inB (v3 + 1) L then ((dX9_tells (xs (Int32.toNatClampNeg (v3 + 1))) mm).bind fun q801 => (if inB (v3 + 1) L then ((dX10_tells (xs (Int32.toNatClampNeg (v3 + 1))) q801.2).bind fun q810 => (if q801.1 = q810.1 then DL_law_1449 L xs k18 v3 q810.2 else some (0, q810.2))) else none)) else none)
def DL_law_818 (L : Nat) (xs : Nat → Int32) (k18 : Int32 → Mm → Option (Int32 × Mm)) (v3 : Int32) (mm : Mm) : Option (Int32 × Mm) :=
  (if inB (v3 + 1) L then (if inB (v3 + 2) L then (if inB (v3 + 3) L then ((dX9_byTurns (xs (Int32.toNatClampNeg (v3 + 1))) (xs (Int32.toNatClampNeg (v3 + 2))) (xs (Int32.toNatClampNeg (v3 + 3))) mm).bind fun q834 => (if inB (v3 + 1) L then (if inB (v3 + 2) L then (if inB (v3 + 3) L then ((dX10_byTurns (xs (Int32.toNatClampNeg (v3 + 1))) (xs (Int32.toNatClampNeg (v3 + 2))) (xs (Int32.toNatClampNeg (v3 + 3))) q834.2).bind fun q853 => (if q834.1 = q853.1 then DL_law_1449 L xs k18 v3 q853.2 else some (0, q853.2))) else none) else none) else none)) else none) else none) else none)
def DL_law_861 (L : Nat) (xs : Nat → Int32) (k18 : Int32 → Mm → Option (Int32 × Mm)) (v3 : Int32) (mm : Mm) : Option (Int32 × Mm) :=
  (if inB (v3 + 1) L then (if inB (v3 + 2) L then (if inB (v3 + 3) L then (if inB (v3 + 4) L then ((dX9_drawn (xs (Int32.toNatClampNeg (v3 + 1))) (xs (Int32.toNatClampNeg (v3 + 2))) (xs (Int32.toNatClampNeg (v3 + 3))) (xs (Int32.toNatClampNeg (v3 + 4))) mm).bind fun q882 => (if inB (v3 + 1) L then (if inB (v3 + 2) L then (if inB (v3 + 3) L then (if inB (v3 + 4) L then ((dX10_drawn (xs (Int32.toNatClampNeg (v3 + 1))) (xs (Int32.toNatClampNeg (v3 + 2))) (xs (Int32.toNatClampNeg (v3 + 3))) (xs (Int32.toNatClampNeg (v3 + 4))) q882.2).bind fun q906 => (if q882.1 = q906.1 then DL_law_1449 L xs k18 v3 q906.2 else some (0, q906.2))) else none) else none) else none) else none)) else none) else none) else none) else none)
def DL_law_914 (L : Nat) (xs : Nat → Int32) (k18 : Int32 → Mm → Option (Int32 × Mm)) (v3 : Int32) (mm : Mm) : Option (Int32 × Mm) :=
  (if inB (v3 + 1) L then (if inB (v3 + 2) L then ((dX9_sell (xs (Int32.toNatClampNeg (v3 + 1))) (xs (Int32.toNatClampNeg (v3 + 2))) mm).bind fun q925 => (if inB (v3 + 1) L then (if inB (v3 + 2) L then ((dX10_sell (xs (Int32.toNatClampNeg (v3 + 1))) (xs (Int32.toNatClampNeg (v3 + 2))) q925.2).bind fun q939 => (if q925.1 = q939.1 then DL_law_1449 L xs k18 v3 q939.2 else some (0, q939.2))) else none) else none)) else none) else none)
def DL_law_947 (L : Nat) (xs : Nat → Int32) (k18 : Int32 → Mm → Option (Int32 × Mm)) (v3 : Int32) (mm : Mm) : Option (Int32 × Mm) :=
  (if inB (v3 + 1) L then ((dX9_open (xs (Int32.toNatClampNeg (v3 + 1))) mm).bind fun q953 => (if inB (v3 + 1) L then ((dX10_open (xs (Int32.toNatClampNeg (v3 + 1))) q953.2).bind fun q962 => (if q953.1 = q962.1 then DL_law_1449 L xs k18 v3 q962.2 else some (0, q962.2))) else none)) else none)
def DL_law_970 (L : Nat) (xs : Nat → Int32) (k18 : Int32 → Mm → Option (Int32 × Mm)) (v3 : Int32) (mm : Mm) : Option (Int32 × Mm) :=
  ((dX9_dusk mm).bind fun q971 => ((dX10_dusk q971.2).bind fun q975 => (if q971.1 = q975.1 then DL_law_1449 L xs k18 v3 q975.2 else some (0, q975.2))))
def DL_law_983 (L : Nat) (xs : Nat → Int32) (k18 : Int32 → Mm → Option (Int32 × Mm)) (v3 : Int32) (mm : Mm) : Option (Int32 × Mm) :=
  (if inB (v3 + 1) L then ((dX9_led (xs (Int32.toNatClampNeg (v3 + 1))) mm).bind fun q989 => (if inB (v3 + 1) L then ((dX10_led (xs (Int32.toNatClampNeg (v3 + 1))) q989.2).bind fun q998 => (if q989.1 = q998.1 then DL_law_1449 L xs k18 v3 q998.2 else some (0, q998.2))) else none)) else none)
def DL_law_1006 (L : Nat) (xs : Nat → Int32) (k18 : Int32 → Mm → Option (Int32 × Mm)) (v3 : Int32) (mm : Mm) : Option (Int32 × Mm) :=
  ((dX9_image mm).bind fun q1007 => ((dX10_image q1007.2).bind fun q1011 => (if q1007.1 = q1011.1 then DL_law_1449 L xs k18 v3 q1011.2 else some (0, q1011.2))))
def DL_law_1019 (L : Nat) (xs : Nat → Int32) (k18 : Int32 → Mm → Option (Int32 × Mm)) (v3 : Int32) (mm : Mm) : Option (Int32 × Mm) :=
  ((dX9_back mm).bind fun q1020 => ((dX10_back q1020.2).bind fun q1024 => (if q1020.1 = q1024.1 then DL_law_1449 L xs k18 v3 q1024.2 else some (0, q1024.2))))
def DL_law_1032 (L : Nat) (xs : Nat → Int32) (k18 : Int32 → Mm → Option (Int32 × Mm)) (v3 : Int32) (mm : Mm) : Option (Int32 × Mm) :=
  ((dX9_undo mm).bind fun q1033 => ((dX10_undo q1033.2).bind fun q1037 => (if q1033.1 = q1037.1 then DL_law_1449 L xs k18 v3 q1037.2 else some (0, q1037.2))))
def DL_law_1045 (L : Nat) (xs : Nat → Int32) (k18 : Int32 → Mm → Option (Int32 × Mm)) (v3 : Int32) (mm : Mm) : Option (Int32 × Mm) :=
  ((dX9_redo mm).bind fun q1046 => ((dX10_redo q1046.2).bind fun q1050 => (if q1046.1 = q1050.1 then DL_law_1449 L xs k18 v3 q1050.2 else some (0, q1050.2))))
def DL_law_1058 (L : Nat) (xs : Nat → Int32) (k18 : Int32 → Mm → Option (Int32 × Mm)) (v3 : Int32) (mm : Mm) : Option (Int32 × Mm) :=
  (if inB (v3 + 1) L then ((dX9_body (xs (Int32.toNatClampNeg (v3 + 1))) mm).bind fun q1064 => (if inB (v3 + 1) L then ((dX10_body (xs (Int32.toNatClampNeg (v3 + 1))) q1064.2).bind fun q1073 => (if q1064.1 = q1073.1 then DL_law_1449 L xs k18 v3 q1073.2 else some (0, q1073.2))) else none)) else none)
def DL_law_1081 (L : Nat) (xs : Nat → Int32) (k18 : Int32 → Mm → Option (Int32 × Mm)) (v3 : Int32) (mm : Mm) : Option (Int32 × Mm) :=
  (if inB (v3 + 1) L then (if inB (v3 + 2) L then (if inB (v3 + 3) L then ((dX9_act (xs (Int32.toNatClampNeg (v3 + 1))) (xs (Int32.toNatClampNeg (v3 + 2))) (xs (Int32.toNatClampNeg (v3 + 3))) mm).bind fun q1097 => (if inB (v3 + 1) L then (if inB (v3 + 2) L then (if inB (v3 + 3) L then ((dX10_act (xs (Int32.toNatClampNeg (v3 + 1))) (xs (Int32.toNatClampNeg (v3 + 2))) (xs (Int32.toNatClampNeg (v3 + 3))) q1097.2).bind fun q1116 => (if q1097.1 = q1116.1 then DL_law_1449 L xs k18 v3 q1116.2 else some (0, q1116.2))) else none) else none) else none)) else none) else none) else none)
def DL_law_1124 (L : Nat) (xs : Nat → Int32) (k18 : Int32 → Mm → Option (Int32 × Mm)) (v3 : Int32) (mm : Mm) : Option (Int32 × Mm) :=
  (if inB (v3 + 1) L then ((dX9_trace (xs (Int32.toNatClampNeg (v3 + 1))) mm).bind fun q1130 => (if inB (v3 + 1) L then ((dX10_trace (xs (Int32.toNatClampNeg (v3 + 1))) q1130.2).bind fun q1139 => (if q1130.1 = q1139.1 then DL_law_1449 L xs k18 v3 q1139.2 else some (0, q1139.2))) else none)) else none)
def DL_law_1147 (L : Nat) (xs : Nat → Int32) (k18 : Int32 → Mm → Option (Int32 × Mm)) (v3 : Int32) (mm : Mm) : Option (Int32 × Mm) :=
  (if inB (v3 + 1) L then (if inB (v3 + 2) L then ((dX9_keep (xs (Int32.toNatClampNeg (v3 + 1))) (xs (Int32.toNatClampNeg (v3 + 2))) mm).bind fun q1158 => (if inB (v3 + 1) L then (if inB (v3 + 2) L then ((dX10_keep (xs (Int32.toNatClampNeg (v3 + 1))) (xs (Int32.toNatClampNeg (v3 + 2))) q1158.2).bind fun q1172 => (if q1158.1 = q1172.1 then DL_law_1449 L xs k18 v3 q1172.2 else some (0, q1172.2))) else none) else none)) else none) else none)
def DL_law_1180 (L : Nat) (xs : Nat → Int32) (k18 : Int32 → Mm → Option (Int32 × Mm)) (v3 : Int32) (mm : Mm) : Option (Int32 × Mm) :=
  (if inB (v3 + 1) L then (if inB (v3 + 2) L then (if inB (v3 + 3) L then ((dX9_row (xs (Int32.toNatClampNeg (v3 + 1))) (xs (Int32.toNatClampNeg (v3 + 2))) (xs (Int32.toNatClampNeg (v3 + 3))) mm).bind fun q1196 => (if inB (v3 + 1) L then (if inB (v3 + 2) L then (if inB (v3 + 3) L then ((dX10_row (xs (Int32.toNatClampNeg (v3 + 1))) (xs (Int32.toNatClampNeg (v3 + 2))) (xs (Int32.toNatClampNeg (v3 + 3))) q1196.2).bind fun q1215 => (if q1196.1 = q1215.1 then DL_law_1449 L xs k18 v3 q1215.2 else some (0, q1215.2))) else none) else none) else none)) else none) else none) else none)
def DL_law_1223 (L : Nat) (xs : Nat → Int32) (k18 : Int32 → Mm → Option (Int32 × Mm)) (v3 : Int32) (mm : Mm) : Option (Int32 × Mm) :=
  (if inB (v3 + 1) L then (if inB (v3 + 2) L then (if inB (v3 + 3) L then (if inB (v3 + 4) L then ((dX9_put (xs (Int32.toNatClampNeg (v3 + 1))) (xs (Int32.toNatClampNeg (v3 + 2))) ((lShl (Int32.toInt64 (xs (Int32.toNatClampNeg (v3 + 3)))) 32) ||| ((Int32.toInt64 (xs (Int32.toNatClampNeg (v3 + 4)))) &&& 4294967295)) mm).bind fun q1254 => (if inB (v3 + 1) L then (if inB (v3 + 2) L then (if inB (v3 + 3) L then (if inB (v3 + 4) L then ((dX10_put (xs (Int32.toNatClampNeg (v3 + 1))) (xs (Int32.toNatClampNeg (v3 + 2))) ((lShl (Int32.toInt64 (xs (Int32.toNatClampNeg (v3 + 3)))) 32) ||| ((Int32.toInt64 (xs (Int32.toNatClampNeg (v3 + 4)))) &&& 4294967295)) q1254.2).bind fun q1288 => (if q1254.1 = q1288.1 then DL_law_1449 L xs k18 v3 q1288.2 else some (0, q1288.2))) else none) else none) else none) else none)) else none) else none) else none) else none)
def DL_law_1296 (L : Nat) (xs : Nat → Int32) (k18 : Int32 → Mm → Option (Int32 × Mm)) (v3 : Int32) (mm : Mm) : Option (Int32 × Mm) :=
  (if inB (v3 + 1) L then (if inB (v3 + 2) L then ((dX9_element (xs (Int32.toNatClampNeg (v3 + 1))) (xs (Int32.toNatClampNeg (v3 + 2))) mm).bind fun q1307 => (if inB (v3 + 1) L then (if inB (v3 + 2) L then ((dX10_element (xs (Int32.toNatClampNeg (v3 + 1))) (xs (Int32.toNatClampNeg (v3 + 2))) q1307.2).bind fun q1321 => (if q1307.1 = q1321.1 then DL_law_1449 L xs k18 v3 q1321.2 else some (0, q1321.2))) else none) else none)) else none) else none)
def DL_law_1330 (L : Nat) (xs : Nat → Int32) (k18 : Int32 → Mm → Option (Int32 × Mm)) (v3 : Int32) (mm : Mm) : Option (Int32 × Mm) :=
  (if inB (v3 + 1) L then (if inB (v3 + 2) L then (if inB (v3 + 3) L then (if inB (v3 + 4) L then (if inB (v3 + 5) L then ((dX9_shift (xs (Int32.toNatClampNeg (v3 + 1))) (xs (Int32.toNatClampNeg (v3 + 2))) (xs (Int32.toNatClampNeg (v3 + 3))) (xs (Int32.toNatClampNeg (v3 + 4))) (xs (Int32.toNatClampNeg (v3 + 5))) mm).bind fun q1356 => (if inB (v3 + 1) L then (if inB (v3 + 2) L then (if inB (v3 + 3) L then (if inB (v3 + 4) L then (if inB (v3 + 5) L then ((dX10_shift (xs (Int32.toNatClampNeg (v3 + 1))) (xs (Int32.toNatClampNeg (v3 + 2))) (xs (Int32.toNatClampNeg (v3 + 3))) (xs (Int32.toNatClampNeg (v3 + 4))) (xs (Int32.toNatClampNeg (v3 + 5))) q1356.2).bind fun q1385 => (if q1356.1 = q1385.1 then DL_law_1449 L xs k18 v3 q1385.2 else some (0, q1385.2))) else none) else none) else none) else none) else none)) else none) else none) else none) else none) else none)
def DL_law_1393 (L : Nat) (xs : Nat → Int32) (k18 : Int32 → Mm → Option (Int32 × Mm)) (v3 : Int32) (mm : Mm) : Option (Int32 × Mm) :=
  (if inB (v3 + 1) L then (if inB (v3 + 2) L then ((dX9_taken (xs (Int32.toNatClampNeg (v3 + 1))) (xs (Int32.toNatClampNeg (v3 + 2))) mm).bind fun q1404 => (if inB (v3 + 1) L then (if inB (v3 + 2) L then ((dX10_taken (xs (Int32.toNatClampNeg (v3 + 1))) (xs (Int32.toNatClampNeg (v3 + 2))) q1404.2).bind fun q1418 => (if q1404.1 = q1418.1 then DL_law_1449 L xs k18 v3 q1418.2 else some (0, q1418.2))) else none) else none)) else none) else none)
def DL_law_1426 (L : Nat) (xs : Nat → Int32) (k18 : Int32 → Mm → Option (Int32 × Mm)) (v3 : Int32) (mm : Mm) : Option (Int32 × Mm) :=
  (if inB (v3 + 1) L then ((dX9_count (xs (Int32.toNatClampNeg (v3 + 1))) mm).bind fun q1432 => (if inB (v3 + 1) L then ((dX10_count (xs (Int32.toNatClampNeg (v3 + 1))) q1432.2).bind fun q1441 => (if q1432.1 = q1441.1 then DL_law_1449 L xs k18 v3 q1441.2 else some (0, q1441.2))) else none)) else none)
def BL_law_18 (L : Nat) (xs : Nat → Int32) (k18 : Int32 → Mm → Option (Int32 × Mm)) (v3 : Int32) (mm : Mm) : Option (Int32 × Mm) :=
  (if ((Int32.ofNat L) - 6) < v3 then some (1, mm) else (if inB v3 L then (if ((xs (Int32.toNatClampNeg v3)) &&& 63) = 0 then DL_law_200 L xs k18 v3 mm else (if ((xs (Int32.toNatClampNeg v3)) &&& 63) = 1 then DL_law_223 L xs k18 v3 mm else (if ((xs (Int32.toNatClampNeg v3)) &&& 63) = 2 then DL_law_266 L xs k18 v3 mm else (if ((xs (Int32.toNatClampNeg v3)) &&& 63) = 3 then DL_law_299 L xs k18 v3 mm else (if ((xs (Int32.toNatClampNeg v3)) &&& 63) = 4 then DL_law_342 L xs k18 v3 mm else (if ((xs (Int32.toNatClampNeg v3)) &&& 63) = 5 then DL_law_375 L xs k18 v3 mm else (if ((xs (Int32.toNatClampNeg v3)) &&& 63) = 6 then DL_law_398 L xs k18 v3 mm else (if ((xs (Int32.toNatClampNeg v3)) &&& 63) = 7 then DL_law_411 L xs k18 v3 mm else (if ((xs (Int32.toNatClampNeg v3)) &&& 63) = 8 then DL_law_444 L xs k18 v3 mm else (if ((xs (Int32.toNatClampNeg v3)) &&& 63) = 9 then DL_law_498 L xs k18 v3 mm else (if ((xs (Int32.toNatClampNeg v3)) &&& 63) = 10 then DL_law_541 L xs k18 v3 mm else (if ((xs (Int32.toNatClampNeg v3)) &&& 63) = 11 then DL_law_585 L xs k18 v3 mm else (if ((xs (Int32.toNatClampNeg v3)) &&& 63) = 12 then DL_law_618 L xs k18 v3 mm else (if ((xs (Int32.toNatClampNeg v3)) &&& 63) = 13 then DL_law_662 L xs k18 v3 mm else (if ((xs (Int32.toNatClampNeg v3)) &&& 63) = 14 then DL_law_705 L xs k18 v3 mm else (if ((xs (Int32.toNatClampNeg v3)) &&& 63) = 15 then DL_law_728 L xs k18 v3 mm else (if ((xs (Int32.toNatClampNeg v3)) &&& 63) = 16 then DL_law_761 L xs k18 v3 mm else (if ((xs (Int32.toNatClampNeg v3)) &&& 63) = 17 then DL_law_795 L xs k18 v3 mm else (if ((xs (Int32.toNatClampNeg v3)) &&& 63) = 18 then DL_law_818 L xs k18 v3 mm else (if ((xs (Int32.toNatClampNeg v3)) &&& 63) = 19 then DL_law_861 L xs k18 v3 mm else (if ((xs (Int32.toNatClampNeg v3)) &&& 63) = 20 then DL_law_914 L xs k18 v3 mm else (if ((xs (Int32.toNatClampNeg v3)) &&& 63) = 21 then DL_law_947 L xs k18 v3 mm else (if ((xs (Int32.toNatClampNeg v3)) &&& 63) = 22 then DL_law_970 L xs k18 v3 mm else (if ((xs (Int32.toNatClampNeg v3)) &&& 63) = 23 then DL_law_983 L xs k18 v3 mm else (if ((xs (Int32.toNatClampNeg v3)) &&& 63) = 24 then DL_law_1006 L xs k18 v3 mm else (if ((xs (Int32.toNatClampNeg v3)) &&& 63) = 25 then DL_law_1019 L xs k18 v3 mm else (if ((xs (Int32.toNatClampNeg v3)) &&& 63) = 26 then DL_law_1032 L xs k18 v3 mm else (if ((xs (Int32.toNatClampNeg v3)) &&& 63) = 27 then DL_law_1045 L xs k18 v3 mm else (if ((xs (Int32.toNatClampNeg v3)) &&& 63) = 28 then DL_law_1058 L xs k18 v3 mm else (if ((xs (Int32.toNatClampNeg v3)) &&& 63) = 29 then DL_law_1081 L xs k18 v3 mm else (if ((xs (Int32.toNatClampNeg v3)) &&& 63) = 30 then DL_law_1124 L xs k18 v3 mm else (if ((xs (Int32.toNatClampNeg v3)) &&& 63) = 31 then DL_law_1147 L xs k18 v3 mm else (if ((xs (Int32.toNatClampNeg v3)) &&& 63) = 32 then DL_law_1180 L xs k18 v3 mm else (if ((xs (Int32.toNatClampNeg v3)) &&& 63) = 33 then DL_law_1223 L xs k18 v3 mm else (if ((xs (Int32.toNatClampNeg v3)) &&& 63) = 34 then DL_law_1296 L xs k18 v3 mm else (if ((xs (Int32.toNatClampNeg v3)) &&& 63) = 35 then DL_law_1330 L xs k18 v3 mm else (if ((xs (Int32.toNatClampNeg v3)) &&& 63) = 36 then DL_law_1393 L xs k18 v3 mm else (if ((xs (Int32.toNatClampNeg v3)) &&& 63) = 37 then DL_law_1426 L xs k18 v3 mm else DL_law_1449 L xs k18 v3 mm)))))))))))))))))))))))))))))))))))))) else none))
def DL_law_18 (L : Nat) (xs : Nat → Int32) : Nat → Int32 → Mm → Option (Int32 × Mm)
  | 0, _, _ => none
  | n + 1, v3, mm => BL_law_18 L xs (DL_law_18 L xs n) v3 mm
def dLaw (L : Nat) (xs : Nat → Int32) (mm : Mm) : Option (Int32 × Mm) :=
  DL_law_18 L xs FU 0 mm
