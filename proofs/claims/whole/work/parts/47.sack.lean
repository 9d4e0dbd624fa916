/-! ===== a sack is put behind the others: both sides ===== -/
section SACK
variable {s b : Nat} {v c : Int32} {m : Mm}
def cAdd (m : Mm) (s : Nat) (v c : Int32) : Mm := sI (sI (sI (sI (sI m 1 2 (nI (s + 1))) 7 s v) 8 s c) 12 s (-1)) 13 s 0
def rAdd (m : Mm) (s : Nat) (v c : Int32) : Mm := sI (sI (sI (sI m 59 (24 + s) v) 59 (34 + s) c) 63 s (-1)) 58 6 (nI (s + 1))
theorem addSack_x (hs : s < 10) (J : gI m 1 2 = nI s) : dX7_addSack v c m = some (nI s, cAdd m s v c) := by
  have en : (nI s).toInt = s := nI_toInt (by omega)
  have z : (10 : Int32).toInt = 10 := rfl
  have hi : inB (nI s) 10 := inB_nI hs (by omega)
  unfold dX7_addSack cAdd
  rw [J, if_pos (by rw [toI_lt, en, z]; omega), if_pos hi, if_pos hi, if_pos hi, if_pos hi, nI_1, nI_clamp (by omega)]
theorem addSack_full (hs : s = 10) (J : gI m 1 2 = nI s) : dX7_addSack v c m = some (-3, m) := by
  subst hs
  unfold dX7_addSack
  rw [J, if_neg (by decide)]
theorem adds_m (hs : s < 10) (J : gI m 58 6 = nI s) : dX10_adds v c m = some ((), rAdd m s v c) := by
  have e24 : (24 : Int32) + nI s = nI (24 + s) := by rw [show (24 : Int32) = nI 24 from rfl, nI_add]
  have e34 : (34 : Int32) + nI s = nI (34 + s) := by rw [show (34 : Int32) = nI 34 from rfl, nI_add]
  have a1 : ∀ (m' : Mm) (k : Nat) (x : Int32) (o : Nat), ¬ o = 58 → gI (sI m' o k x) 58 6 = gI m' 58 6 := fun m' k x o h => by rw [gI_sI, if_neg (by omega)]
  unfold dX10_adds rAdd
  simp only [a1 _ _ _ 63 (show ¬ (63 : Nat) = 58 by omega), a1 _ _ _ 59 (show ¬ (59 : Nat) = 58 by omega), J, e24, e34, nI_1, nI_clamp (show 24 + s < 2 ^ 31 by omega), nI_clamp (show 34 + s < 2 ^ 31 by omega), nI_clamp (show s < 2 ^ 31 by omega)]
  rw [if_pos (inB_nI (by omega) (by omega)), if_pos (inB_nI (by omega) (by omega)), if_pos (inB_nI hs (by omega))]
end SACK
