/-! ===== a sack is put behind the others: both sides ===== -/
section SACK
variable {s b : Nat} {v c : Int32} {m : Mm}
def cAdd (m : Mm) (s : Nat) (v c : Int32) : Mm := sI (sI (sI (sI (sI m 1 2 (nI (s + 1))) 7 s v) 8 s c) 12 s (-1)) 13 s 0
def rAdd (m : Mm) (s : Nat) (v c : Int32) : Mm := sI (sI (sI (sI m 59 (24 + s) v) 59 (34 + s) c) 63 s (-1)) 58 6 (nI (s + 1))
theorem addSack_x (hs : s < 10) (J : gI m 1 2 = nI s) : dX7_addSack v c m = some (nI s, cAdd m s v c) := by
  have en : (nI s).toInt = s := nI_toInt (by omega)
  have z : (10 : Int32).toInt = 10 := rfl
  have hi : inB (nI s) 10 := inB_nI hs (by omega)
  unfold dX7_addSack cAdd
  rw [J, if_pos (by rw [toI_lt, en, z]; omega), if_pos hi, if_pos hi, if_pos hi, if_pos hi, nI_1, nI_clamp (by omega)]
theorem addSack_full (hs : s = 10) (J : gI m 1 2 = nI s) : dX7_addSack v c m = some (-3, m) := by
  subst hs
  unfold dX7_addSack
  rw [J, if_neg (by decide)]
theorem adds_m (hs : s < 10) (J : gI m 58 6 = nI s) : dX10_adds v c m = some ((), rAdd m s v c) := by
  have e24 : (24 : Int32) + nI s = nI (24 + s) := by rw [show (24 : Int32) = nI 24 from rfl, nI_add]
  have e34 : (34 : Int32) + nI s = nI (34 + s) := by rw [show (34 : Int32) = nI 34 from rfl, nI_add]
  have a1 : ∀ (m' : Mm) (k : Nat) (x : Int32) (o : Nat), ¬ o = 58 → gI (sI m' o k x) 58 6 = gI m' 58 6 := fun m' k x o h => by rw [gI_sI, if_neg (by omega)]
  unfold dX10_adds rAdd
  simp only [a1 _ _ _ 63 (show ¬ (63 : Nat) = 58 by omega), a1 _ _ _ 59 (show ¬ (59 : Nat) = 58 by omega), J, e24, e34, nI_1, nI_clamp (show 24 + s < 2 ^ 31 by omega), nI_clamp (show 34 + s < 2 ^ 31 by omega), nI_clamp (show s < 2 ^ 31 by omega)]
  rw [if_pos (inB_nI (by omega) (by omega)), if_pos (inB_nI (by omega) (by omega)), if_pos (inB_nI hs (by omega))]
theorem Jt_add (hs : s < 10) (J : Jt m s b) (hv : 0 ≤ v.toInt ∧ v.toInt ≤ 5) (hc : 0 ≤ c.toInt ∧ c.toInt ≤ 99) : Jt (rAdd (cAdd m s v c) s v c) (s + 1) b := by
  obtain ⟨⟨j1, j2, j3, j4, j5, j6⟩, jg, jk, jo, jb⟩ := J
  unfold rAdd cAdd
  refine ⟨⟨by omega, j2, ?_, ?_, ?_, ?_⟩, fun w g hw hg => ?_, fun k hk => ?_, fun k h1 h2 => ?_, fun k hk => ?_⟩
  · repeat rw [gI_sI, if_neg (by omega)]
    rw [gI_sI, if_pos ⟨rfl, rfl⟩]
  · repeat rw [gI_sI, if_neg (by omega)]
    exact j4
  · rw [gI_sI, if_pos ⟨rfl, rfl⟩]
  · repeat rw [gI_sI, if_neg (by omega)]
    exact j6
  · have h := jg w g hw hg
    have a : gI (sI (sI (sI (sI (sI (sI (sI (sI (sI m 1 2 (nI (s + 1))) 7 s v) 8 s c) 12 s (-1)) 13 s 0) 59 (24 + s) v) 59 (34 + s) c) 63 s (-1)) 58 6 (nI (s + 1))) (3 + w) g = gI m (3 + w) g := by
      repeat rw [gI_sI, if_neg (by omega)]
    rw [a]
    refine ⟨?_, h.2⟩
    repeat rw [gI_sI, if_neg (by omega)]
    exact h.1
  · by_cases e : k = s
    · subst e
      have r : ∀ {o i : Nat} {x : Int32} {M : Mm}, gI (sI M o i x) o i = x := fun {o i x M} => by rw [gI_sI, if_pos ⟨rfl, rfl⟩]
      have e1 : gI (sI (sI (sI (sI (sI (sI (sI (sI (sI m 1 2 (nI (k + 1))) 7 k v) 8 k c) 12 k (-1)) 13 k 0) 59 (24 + k) v) 59 (34 + k) c) 63 k (-1)) 58 6 (nI (k + 1))) 7 k = v := by
        repeat rw [gI_sI, if_neg (by omega)]
        exact r
      have e2 : gI (sI (sI (sI (sI (sI (sI (sI (sI (sI m 1 2 (nI (k + 1))) 7 k v) 8 k c) 12 k (-1)) 13 k 0) 59 (24 + k) v) 59 (34 + k) c) 63 k (-1)) 58 6 (nI (k + 1))) 8 k = c := by
        repeat rw [gI_sI, if_neg (by omega)]
        exact r
      have e3 : gI (sI (sI (sI (sI (sI (sI (sI (sI (sI m 1 2 (nI (k + 1))) 7 k v) 8 k c) 12 k (-1)) 13 k 0) 59 (24 + k) v) 59 (34 + k) c) 63 k (-1)) 58 6 (nI (k + 1))) 12 k = -1 := by
        repeat rw [gI_sI, if_neg (by omega)]
        exact r
      have e4 : gI (sI (sI (sI (sI (sI (sI (sI (sI (sI m 1 2 (nI (k + 1))) 7 k v) 8 k c) 12 k (-1)) 13 k 0) 59 (24 + k) v) 59 (34 + k) c) 63 k (-1)) 58 6 (nI (k + 1))) 13 k = 0 := by
        repeat rw [gI_sI, if_neg (by omega)]
        exact r
      rw [e1, e2, e3, e4]
      refine ⟨⟨?_, hv⟩, ⟨?_, hc⟩, ⟨?_, by decide, by have : (-1 : Int32).toInt = -1 := rfl; omega⟩, ?_, Or.inl rfl⟩
      · repeat rw [gI_sI, if_neg (by omega)]
        exact r
      · repeat rw [gI_sI, if_neg (by omega)]
        exact r
      · repeat rw [gI_sI, if_neg (by omega)]
        exact r
      · repeat rw [gI_sI, if_neg (by omega)]
        exact jo k (by omega) (by omega)
    · have h := jk k (by omega)
      simp only [gI_sI]
      simp only [show ¬ k = s from e, and_false, if_false, show ¬ (24 + k = 24 + s) by omega, show ¬ (24 + k = 34 + s) by omega, show ¬ (34 + k = 24 + s) by omega, show ¬ (34 + k = 34 + s) by omega, show ¬ ((7 : Nat) = 1) by omega]
      simpa using h
  · repeat rw [gI_sI, if_neg (by omega)]
    exact jo k (by omega) h2
  · have h := jb k hk
    have n1 : ¬ (44 + k = 24 + s) ∧ ¬ (44 + k = 34 + s) ∧ ¬ (50 + k = 24 + s) ∧ ¬ (50 + k = 34 + s) ∧ ¬ (56 + k = 24 + s) ∧ ¬ (56 + k = 34 + s) := by omega
    simp only [gI_sI, n1.1, n1.2.1, n1.2.2.1, n1.2.2.2.1, n1.2.2.2.2.1, n1.2.2.2.2.2, and_false, if_false]
    simpa using h
def Psk (a k : Nat) : Bool := a == 7 || a == 8 || a == 12 || a == 13 || a == 59 || a == 63 || (a == 1 && k == 2) || (a == 58 && k == 6)
theorem add_ch : ch Psk m (rAdd (cAdd m s v c) s v c) := ((((((((ch.sI rfl).tr (ch.sI rfl)).tr (ch.sI rfl)).tr (ch.sI rfl)).tr (ch.sI rfl)).tr (ch.sI rfl)).tr (ch.sI rfl)).tr (ch.sI rfl)).tr (ch.sI rfl)
theorem sack_p (J : Jt m s b) : ∃ r m1 m2 s2, dX9_sack v m = some (r, m1) ∧ dX10_sack v m1 = some (r, m2) ∧ Jt m2 s2 b ∧ s ≤ s2 ∧ ch Psk m m2 := by
  have s10 := J.1.s10
  have j3 := J.1.2.2.1
  have j5 := J.1.2.2.2.2.1
  have c0 : (0 : Int32).toInt = 0 := rfl
  unfold dX9_sack dX10_sack
  simp only [holds_x J.1, isGood_m, i64, Option.bind_some, b01_0, c0]
  by_cases h : 0 ≤ v.toInt ∧ v.toInt ≤ 5
  · rw [if_neg (fun q => q (by left; omega))]
    simp only [if_neg (show ¬ ¬ (0 ≤ v.toInt ∧ v.toInt ≤ 5) from fun q => q h)]
    by_cases hs : s < 10
    · have en : (nI s).toInt = s := nI_toInt (by omega)
      have a6 : gI (cAdd m s v 10) 58 6 = nI s := by
        unfold cAdd
        repeat rw [gI_sI, if_neg (by omega)]
        exact j5
      have b6 : gI (rAdd (cAdd m s v 10) s v 10) 58 6 = nI (s + 1) := by unfold rAdd; rw [gI_sI, if_pos ⟨rfl, rfl⟩]
      have z10 : (10 : Int32).toInt = 10 := rfl
      have e1 : nI (s + 1) - 1 = nI s := nI_of_toInt (by
        have z1 : (1 : Int32).toInt = 1 := rfl
        have e := nI_toInt (n := s + 1) (by omega)
        rw [iSub (by rw [e, z1]; omega) (by rw [e, z1]; omega), e, z1]; omega)
      refine ⟨nI s, cAdd m s v 10, rAdd (cAdd m s v 10) s v 10, s + 1, by rw [addSack_x hs j3, Option.bind_some], ?_, Jt_add hs J h ⟨by decide, by decide⟩, Nat.le_succ _, add_ch⟩
      rw [a6, if_neg (by rw [toI_eq, en, z10]; omega), adds_m hs a6, Option.bind_some]
      simp only [b6, e1]
    · have e10 : s = 10 := by omega
      refine ⟨-3, m, m, s, by rw [addSack_full e10 j3, Option.bind_some], ?_, J, Nat.le_refl _, ch.rf⟩
      rw [j5, e10, if_pos (by decide)]
  · exact ⟨-1, m, m, s, by rw [if_pos (by unfold hd; omega)], by rw [if_pos h], J, Nat.le_refl _, ch.rf⟩
end SACK
