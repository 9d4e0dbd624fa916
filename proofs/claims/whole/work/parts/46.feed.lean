/-! ===== feed: alike on both sides ===== -/
section FEED
variable {t : Nat → Nat} {n : Nat} {v1 : Int32} {m : Mm}
def Pf (a k : Nat) : Bool := a == 16 || a == 65 || (a == 15 && k == 4) || (a == 58 && k == 11)
theorem feed_p (J : Jp m n t) : ∃ r m1 m2 n2 t2, dX9_feed v1 m = some (r, m1) ∧ dX10_feed v1 m1 = some (r, m2) ∧ Jp m2 n2 t2 ∧ ch Pf m m2 := by
  obtain ⟨hn, j1, j2, j3⟩ := J
  have en : (nI n).toInt = n := nI_toInt (by omega)
  have c0 : (0 : Int64).toInt = 0 := rfl
  have c255 : (255 : Int64).toInt = 255 := rfl
  have z0 : (0 : Int32).toInt = 0 := rfl
  have z255 : (255 : Int32).toInt = 255 := rfl
  unfold dX9_feed DX9_feed_11 dX10_feed
  simp only [within_m, i64, Option.bind_some, b01_0, c0, c255]
  by_cases h : 0 ≤ v1.toInt ∧ v1.toInt ≤ 255
  · obtain ⟨c, hc⟩ : ∃ c : Nat, v1.toInt = c := ⟨v1.toInt.toNat, by omega⟩
    obtain rfl := nI_of_toInt hc
    have hc8 : c < 256 := by omega
    obtain ⟨_, k1, k2⟩ := nm_all c hc8
    rw [if_neg (by rw [toI_lt, z0]; omega), if_pos (by rw [toI_le, z255]; omega)]
    simp only [if_neg (show ¬ ¬ (0 ≤ (nI c).toInt ∧ (nI c).toInt ≤ 255) from fun q => q h)]
    unfold dX6_take
    rw [j1, k1, k2]
    by_cases hl : n < 120
    · have z120 : (120 : Int32).toInt = 120 := rfl
      have hi : inB (nI n) 120 := inB_nI hl (by omega)
      have hne : ¬ nI n = 120 := by rw [toI_eq, en, z120]; omega
      rw [if_pos (by rw [toI_lt, en, z120]; omega), if_pos hi, Option.bind_some]
      simp only [nI_clamp (show n < 2 ^ 31 by omega)]
      have a1 : gI (sI m 16 n (nI c)) 15 4 = nI n := by rw [gI_sI, if_neg (by omega)]; exact j1
      rw [a1, nI_1]
      have a2 : gI (sI (sI m 16 n (nI c)) 15 4 (nI (n + 1))) 15 4 = nI (n + 1) := by rw [gI_sI, if_pos ⟨rfl, rfl⟩]
      have a3 : gI (sI (sI m 16 n (nI c)) 15 4 (nI (n + 1))) 58 11 = nI n := by rw [gI_sI, if_neg (by omega), gI_sI, if_neg (by omega)]; exact j2
      rw [a2]
      refine ⟨_, _, sI (sI (sI (sI m 16 n (nI c)) 15 4 (nI (n + 1))) 65 n (nI c)) 58 11 (nI (n + 1)), n + 1, fun p => if p = n then c else t p, rfl, ?_, ⟨by omega, ?_, ?_, fun p hp => ?_⟩, (((ch.sI rfl).tr (ch.sI rfl)).tr (ch.sI rfl)).tr (ch.sI rfl)⟩
      · simp only [a3]
        rw [if_neg hne, if_pos hi]
        have a4 : gI (sI (sI (sI m 16 n (nI c)) 15 4 (nI (n + 1))) 65 n (nI c)) 58 11 = nI n := by rw [gI_sI, if_neg (by omega)]; exact a3
        simp only [nI_clamp (show n < 2 ^ 31 by omega), a4, nI_1]
        rw [gI_sI, if_pos ⟨rfl, rfl⟩]
      · rw [gI_sI, if_neg (by omega), gI_sI, if_neg (by omega)]; exact a2
      · rw [gI_sI, if_pos ⟨rfl, rfl⟩]
      · by_cases hp2 : p = n
        · subst hp2
          simp only [if_true]
          refine ⟨hc8, ?_, ?_⟩
          · rw [gI_sI, if_neg (by omega), gI_sI, if_neg (by omega), gI_sI, if_neg (by omega), gI_sI, if_pos ⟨rfl, rfl⟩]
          · rw [gI_sI, if_neg (by omega), gI_sI, if_pos ⟨rfl, rfl⟩]
        · obtain ⟨b1, b2, b3⟩ := j3 p (by omega)
          simp only [if_neg hp2]
          refine ⟨b1, ?_, ?_⟩
          · rw [gI_sI, if_neg (by omega), gI_sI, if_neg (by omega), gI_sI, if_neg (by omega), gI_sI, if_neg (by omega)]; exact b2
          · rw [gI_sI, if_neg (by omega), gI_sI, if_neg (by omega), gI_sI, if_neg (by omega), gI_sI, if_neg (by omega)]; exact b3
    · have e120 : n = 120 := by omega
      subst e120
      rw [if_neg (by decide), Option.bind_some]
      exact ⟨_, m, m, 120, t, rfl, by simp only [j2]; rw [if_pos (by decide)], ⟨hn, j1, j2, j3⟩, ch.rf⟩
  · refine ⟨-1, m, m, n, t, ?_, by rw [if_pos h], ⟨hn, j1, j2, j3⟩, ch.rf⟩
    by_cases h0 : v1.toInt < 0
    · rw [if_pos (by rw [toI_lt, z0]; exact h0)]
    · rw [if_neg (by rw [toI_lt, z0]; exact h0), if_neg (by rw [toI_le, z255]; omega)]
end FEED
