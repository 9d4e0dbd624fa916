/-! ===== sack, buyer, feed, law: alike on both sides ===== -/
section ADDS
variable {m : Mm} {s b kn n : Nat} {t : Nat → Nat} {lv : Option LF} {v1 v2 v3 v4 : Int32}
theorem oSk_L : off FLw Psk := fun o k h => by unfold FLw at h; unfold Psk; simp at h ⊢; omega
theorem oSk_H : off FH Psk := fun o k h => by unfold FH at h; unfold Psk; simp at h ⊢; omega
theorem oSk_P : off FP Psk := fun o k h => by unfold FP at h; unfold Psk; simp at h ⊢; omega
theorem oSk_C : off FC Psk := fun o k h => by unfold FC at h; unfold Psk; simp at h ⊢; omega
theorem oSk_D : off FDd Psk := fun o k h => by unfold FDd at h; unfold Psk; simp at h ⊢; omega
theorem oSk_N : off FN Psk := fun o k h => by unfold FN at h; unfold Psk; simp at h ⊢; omega
theorem JA_sk {m' : Mm} {s2 : Nat} (J : JA m s b kn n t lv) (c : ch Psk m m') (h1 : Jt m' s2 b) (h2 : s ≤ s2) : JA m' s2 b kn n t lv := ⟨⟨h1, LvC_fr J.1.2.1 c oSk_L, LvR_fr J.1.2.2.1 c oSk_L, Jh_fr J.1.2.2.2 c oSk_H⟩, ⟨Jp_fr J.2.1.1 c oSk_P, Jr_fr J.2.1.2 c oSk_P⟩, (Jc_fr J.2.2.1 c oSk_C).up h2 (Nat.le_refl _), (Jd_fr J.2.2.2.1 c oSk_D).up h2 (Nat.le_refl _), Jn_fr J.2.2.2.2 c oSk_N⟩
theorem sack_j (J : JA m s b kn n t lv) : Ans (dX9_sack v1) (dX10_sack v1) m := by
  obtain ⟨r, m1, m2, s2, h1, h2, h3, h4, h5⟩ := sack_p (v := v1) J.1.1
  exact ⟨r, m1, m2, h1, h2, s2, b, kn, n, t, lv, JA_sk J h5 h3 h4⟩
def Pby (a k : Nat) : Bool := a == 9 || a == 10 || a == 11 || a == 59 || (a == 1 && k == 3) || (a == 58 && k == 7)
theorem oBy_L : off FLw Pby := fun o k h => by unfold FLw at h; unfold Pby; simp at h ⊢; omega
theorem oBy_H : off FH Pby := fun o k h => by unfold FH at h; unfold Pby; simp at h ⊢; omega
theorem oBy_P : off FP Pby := fun o k h => by unfold FP at h; unfold Pby; simp at h ⊢; omega
theorem oBy_C : off FC Pby := fun o k h => by unfold FC at h; unfold Pby; simp at h ⊢; omega
theorem oBy_D : off FDd Pby := fun o k h => by unfold FDd at h; unfold Pby; simp at h ⊢; omega
theorem oBy_N : off FN Pby := fun o k h => by unfold FN at h; unfold Pby; simp at h ⊢; omega
def bAdd (m : Mm) (b : Nat) (v c : Int32) : Mm := sI (sI (sI (sI (sI (sI (sI (sI m 1 3 (nI (b + 1))) 9 b v) 10 b c) 11 b 9) 59 (44 + b) v) 59 (50 + b) c) 59 (56 + b) 9) 58 7 (nI (b + 1))
theorem Ju_bAdd (hb : b < 6) (J : Ju m s b) (h1 : wn 6 v1) (h2 : wn 7 v2) : Ju (bAdd m b v1 v2) s (b + 1) := by
  obtain ⟨⟨j1, j2, j3, j4, j5, j6⟩, ju, jk, jo⟩ := J
  have far : ∀ o i, ¬ o = 1 → ¬ o = 9 → ¬ o = 10 → ¬ o = 11 → ¬ o = 59 → ¬ o = 58 → gI (bAdd m b v1 v2) o i = gI m o i := fun o i a1 a2 a3 a4 a5 a6 => by
    unfold bAdd
    rw [gI_sI, if_neg (by omega), gI_sI, if_neg (by omega), gI_sI, if_neg (by omega), gI_sI, if_neg (by omega), gI_sI, if_neg (by omega), gI_sI, if_neg (by omega), gI_sI, if_neg (by omega), gI_sI, if_neg (by omega)]
  have t59 : ∀ i, gI (bAdd m b v1 v2) 59 i = if i = 56 + b then 9 else if i = 50 + b then v2 else if i = 44 + b then v1 else gI m 59 i := fun i => by
    unfold bAdd
    simp [gI_sI]
  have t9 : ∀ i, gI (bAdd m b v1 v2) 9 i = if i = b then v1 else gI m 9 i := fun i => by
    unfold bAdd
    rw [gI_sI, if_neg (by omega), gI_sI, if_neg (by omega), gI_sI, if_neg (by omega), gI_sI, if_neg (by omega), gI_sI, if_neg (by omega), gI_sI, if_neg (by omega), gI_sI]
    simp [gI_sI]
  have t10 : ∀ i, gI (bAdd m b v1 v2) 10 i = if i = b then v2 else gI m 10 i := fun i => by
    unfold bAdd
    rw [gI_sI, if_neg (by omega), gI_sI, if_neg (by omega), gI_sI, if_neg (by omega), gI_sI, if_neg (by omega), gI_sI, if_neg (by omega), gI_sI]
    simp [gI_sI]
  have t11 : ∀ i, gI (bAdd m b v1 v2) 11 i = if i = b then 9 else gI m 11 i := fun i => by
    unfold bAdd
    rw [gI_sI, if_neg (by omega), gI_sI, if_neg (by omega), gI_sI, if_neg (by omega), gI_sI, if_neg (by omega), gI_sI]
    simp [gI_sI]
  refine ⟨⟨j1, by omega, ?_, ?_, ?_, ?_⟩, fun w k hh => ?_, fun k hk => ?_, fun k h1 h2 => ?_⟩
  · unfold bAdd; simp only [gI_sI]; simp [j3]
  · unfold bAdd; simp only [gI_sI]; simp
  · unfold bAdd; simp only [gI_sI]; simp [j5]
  · unfold bAdd; simp only [gI_sI]; simp
  · have h8 := hn_8 hh
    by_cases q : hn s b w k
    · have pl := plc_lt j1 j2 q
      have pj : ¬ plc w k = 56 + b ∧ ¬ plc w k = 50 + b ∧ ¬ plc w k = 44 + b := by
        unfold hn at q
        unfold plc
        repeat' split
        all_goals omega
      have rw3 : gI (bAdd m b v1 v2) (3 + w) k = gI m (3 + w) k := by
        by_cases w6 : w = 6
        · subst w6; show gI (bAdd m b v1 v2) 9 k = gI m 9 k; rw [t9, if_neg (by unfold hn at q; omega)]
        · by_cases w7 : w = 7
          · subst w7; show gI (bAdd m b v1 v2) 10 k = gI m 10 k; rw [t10, if_neg (by unfold hn at q; omega)]
          · by_cases w8 : w = 8
            · subst w8; show gI (bAdd m b v1 v2) 11 k = gI m 11 k; rw [t11, if_neg (by unfold hn at q; omega)]
            · exact far _ _ (by omega) (by omega) (by omega) (by omega) (by omega) (by omega)
      rw [rw3, t59, if_neg pj.1, if_neg pj.2.1, if_neg pj.2.2]
      exact ju w k q
    · have e : k = b ∧ (w = 6 ∨ w = 7 ∨ w = 8) := by unfold hn at q hh; omega
      obtain ⟨rfl, rfl | rfl | rfl⟩ := e
      · rw [show gI (bAdd m k v1 v2) (3 + 6) k = gI (bAdd m k v1 v2) 9 k from rfl, t9, if_pos rfl, t59, show plc 6 k = 44 + k from rfl, if_neg (by omega), if_neg (by omega), if_pos rfl]
        exact ⟨rfl, h1⟩
      · rw [show gI (bAdd m k v1 v2) (3 + 7) k = gI (bAdd m k v1 v2) 10 k from rfl, t10, if_pos rfl, t59, show plc 7 k = 50 + k from rfl, if_neg (by omega), if_pos rfl]
        exact ⟨rfl, h2⟩
      · rw [show gI (bAdd m k v1 v2) (3 + 8) k = gI (bAdd m k v1 v2) 11 k from rfl, t11, if_pos rfl, t59, show plc 8 k = 56 + k from rfl, if_pos rfl]
        exact ⟨rfl, by decide, by decide⟩
  · have := jk k hk
    rw [far 63 _ (by omega) (by omega) (by omega) (by omega) (by omega) (by omega), far 12 _ (by omega) (by omega) (by omega) (by omega) (by omega) (by omega), far 64 _ (by omega) (by omega) (by omega) (by omega) (by omega) (by omega), far 13 _ (by omega) (by omega) (by omega) (by omega) (by omega) (by omega)]
    exact ⟨this.1, this.2.1, by have := this.2.2.1; omega, this.2.2.2⟩
  · rw [far 64 _ (by omega) (by omega) (by omega) (by omega) (by omega) (by omega)]; exact jo k h1 h2
theorem buyer_j (J : JA m s b kn n t lv) : Ans (dX9_buyer v1 v2) (dX10_buyer v1 v2) m := by
  have b6 := J.1.1.1.b6
  have j4 := J.1.1.1.2.2.2.1
  have j6 := J.1.1.1.2.2.2.2.2
  have c0 : (0 : Int64).toInt = 0 := rfl
  have c6 : (6 : Int64).toInt = 6 := rfl
  have c999 : (999 : Int64).toInt = 999 := rfl
  have z6 : (6 : Int32).toInt = 6 := rfl
  have eb : (nI b).toInt = b := nI_toInt (by omega)
  have w6 : dX9_within 6 v1 m = some (b01 (0 ≤ v1.toInt ∧ v1.toInt ≤ 999), m) := within_x (w := 6) (by omega)
  have w7 : dX9_within 7 v2 m = some (b01 (0 ≤ v2.toInt ∧ v2.toInt ≤ 6), m) := within_x (w := 7) (by omega)
  unfold Ans dX9_buyer dX10_buyer DX9_buyer_18 DX10_buyer_24
  simp only [w6, w7, within_m, i64, Option.bind_some, b01_0, c0, c6, c999]
  by_cases h1 : 0 ≤ v1.toInt ∧ v1.toInt ≤ 999
  · by_cases h2 : 0 ≤ v2.toInt ∧ v2.toInt ≤ 6
    · simp only [if_neg (show ¬ ¬ (0 ≤ v1.toInt ∧ v1.toInt ≤ 999) from fun q => q h1), if_neg (show ¬ ¬ (0 ≤ v2.toInt ∧ v2.toInt ≤ 6) from fun q => q h2)]
      unfold dX7_addBuyer
      by_cases hb : b < 6
      · have hi : inB (nI b) 10 := inB_nI (by omega) (by omega)
        rw [j4, if_pos (by rw [toI_lt, eb, z6]; omega), if_pos hi, if_pos hi, if_pos hi, nI_clamp (by omega), nI_1, Option.bind_some]
        have c : ch Pby m (bAdd m b v1 v2) := (((((((ch.sI rfl).tr (ch.sI rfl)).tr (ch.sI rfl)).tr (ch.sI rfl)).tr (ch.sI rfl)).tr (ch.sI rfl)).tr (ch.sI rfl)).tr (ch.sI rfl)
        have h58 : ∀ (M : Mm) (k : Nat) (x : Int32) (o : Nat), ¬ o = 58 → gI (sI M o k x) 58 7 = gI M 58 7 := fun M k x o q => by rw [gI_sI, if_neg (by omega)]
        have e44 : (44 : Int32) + nI b = nI (44 + b) := by rw [show (44 : Int32) = nI 44 from rfl, nI_add]
        have e50 : (50 : Int32) + nI b = nI (50 + b) := by rw [show (50 : Int32) = nI 50 from rfl, nI_add]
        have e56 : (56 : Int32) + nI b = nI (56 + b) := by rw [show (56 : Int32) = nI 56 from rfl, nI_add]
        have r0 : gI (sI (sI (sI (sI m 1 3 (nI (b + 1))) 9 b v1) 10 b v2) 11 b 9) 58 7 = nI b := by
          rw [h58 _ _ _ _ (by omega), h58 _ _ _ _ (by omega), h58 _ _ _ _ (by omega), h58 _ _ _ _ (by omega)]; exact j6
        have rf : ∀ M : Mm, gI (sI M 58 7 (nI (b + 1))) 58 7 = nI (b + 1) := fun M => by rw [gI_sI, if_pos ⟨rfl, rfl⟩]
        refine ⟨nI b, sI (sI (sI (sI m 1 3 (nI (b + 1))) 9 b v1) 10 b v2) 11 b 9, bAdd m b v1 v2, rfl, ?_, s, b + 1, kn, n, t, lv, ⟨(Ju_bAdd hb (Ju.of J.1.1) h1 h2).jt, LvC_fr J.1.2.1 c oBy_L, LvR_fr J.1.2.2.1 c oBy_L, Jh_fr J.1.2.2.2 c oBy_H⟩, ⟨Jp_fr J.2.1.1 c oBy_P, Jr_fr J.2.1.2 c oBy_P⟩, (Jc_fr J.2.2.1 c oBy_C).up (Nat.le_refl _) (Nat.le_succ _), (Jd_fr J.2.2.2.1 c oBy_D).up (Nat.le_refl _) (Nat.le_succ _), Jn_fr J.2.2.2.2 c oBy_N⟩
        have i44 : inB (nI (44 + b)) 62 := inB_nI (by omega) (by omega)
        have i50 : inB (nI (50 + b)) 62 := inB_nI (by omega) (by omega)
        have i56 : inB (nI (56 + b)) 62 := inB_nI (by omega) (by omega)
        simp only [r0, e44, h58 _ _ _ 59 (show ¬ (59 : Nat) = 58 by omega), e50, e56, nI_clamp (show 44 + b < 2 ^ 31 by omega), nI_clamp (show 50 + b < 2 ^ 31 by omega), nI_clamp (show 56 + b < 2 ^ 31 by omega), nI_1, rf, nI_m1, if_pos i44, if_pos i50, if_pos i56]
        rw [if_neg (by rw [toI_eq, eb, z6]; omega)]
        rfl
      · have e6 : b = 6 := by omega
        subst e6
        refine ⟨-3, m, m, ?_, ?_, _, _, _, _, _, _, J⟩
        · rw [j4, if_neg (by decide), Option.bind_some]
        · rw [j6, if_pos (by decide)]
    · simp only [if_neg (show ¬ ¬ (0 ≤ v1.toInt ∧ v1.toInt ≤ 999) from fun q => q h1), if_pos h2]
      exact ⟨-1, m, m, rfl, rfl, _, _, _, _, _, _, J⟩
  · simp only [if_pos h1]
    exact ⟨-1, m, m, rfl, rfl, _, _, _, _, _, _, J⟩
theorem oPf_T : off FT Pf := fun o k h => by unfold FT at h; unfold Pf; simp at h ⊢; omega
theorem oPf_L : off FLw Pf := fun o k h => by unfold FLw at h; unfold Pf; simp at h ⊢; omega
theorem oPf_H : off FH Pf := fun o k h => by unfold FH at h; unfold Pf; simp at h ⊢; omega
theorem oPf_C : off FC Pf := fun o k h => by unfold FC at h; unfold Pf; simp at h ⊢; omega
theorem oPf_D : off FDd Pf := fun o k h => by unfold FDd at h; unfold Pf; simp at h ⊢; omega
theorem oPf_N : off FN Pf := fun o k h => by unfold FN at h; unfold Pf; simp at h ⊢; omega
theorem feed_j (J : JA m s b kn n t lv) : Ans (dX9_feed v1) (dX10_feed v1) m := by
  obtain ⟨r, m1, m2, n2, t2, h1, h2, h3, c⟩ := feed_p (v1 := v1) J.2.1.1
  refine ⟨r, m1, m2, h1, h2, s, b, kn, n2, t2, lv, K_fr J.1 c oPf_T oPf_L oPf_H, ⟨h3, ?_⟩, Jc_fr J.2.2.1 c oPf_C, Jd_fr J.2.2.2.1 c oPf_D, Jn_fr J.2.2.2.2 c oPf_N⟩
  have := J.2.1.2
  unfold Jr at this ⊢
  rw [c.R (o := 1) (k := 4) rfl, c.R (o := 15) (k := 1) rfl]; exact this
theorem oPw_T : off FT Pw := fun o k h => by unfold FT at h; unfold Pw; simp at h ⊢; omega
theorem oPw_H : off FH Pw := fun o k h => by unfold FH at h; unfold Pw; simp at h ⊢; omega
theorem oPw_C : off FC Pw := fun o k h => by unfold FC at h; unfold Pw; simp at h ⊢; omega
theorem oPw_D : off FDd Pw := fun o k h => by unfold FDd at h; unfold Pw; simp at h ⊢; omega
theorem oPw_N : off FN Pw := fun o k h => by unfold FN at h; unfold Pw; simp at h ⊢; omega
theorem law_j (J : JA m s b kn n t lv) : Ans dX9_law dX10_law m := by
  obtain ⟨r, m1, m2, lv', h1, h2, h3, h4, h5, h6, h7, c⟩ := law_pair J.2.1.1 J.2.1.2 J.1.2.1 J.1.2.2.1
  exact ⟨r, m1, m2, h1, h2, s, b, kn, 0, t, lv', ⟨Jt_fr J.1.1 c oPw_T, h3, h4, Jh_fr J.1.2.2.2 c oPw_H⟩, ⟨⟨by omega, h6, h7, fun p hp => absurd hp (by omega)⟩, h5⟩, Jc_fr J.2.2.1 c oPw_C, Jd_fr J.2.2.2.1 c oPw_D, Jn_fr J.2.2.2.2 c oPw_N⟩
theorem worthOf_j (J : JA m s b kn n t lv) : Ans (dX9_worthOf v1 v2) (dX10_worthOf v1 v2) m := Ans_sc J (worthOf_p J.1)
theorem of_j (J : JA m s b kn n t lv) : Ans (dX9_of v1 v2) (dX10_of v1 v2) m := Ans_sc J (of_p J.1)
theorem belief_j (J : JA m s b kn n t lv) : Ans (dX9_belief v1 v2 v3 v4) (dX10_belief v1 v2 v3 v4) m := Ans_sc J (pairQ (fun _ k => belief_x k) (fun _ k => belief_m k) (fun _ _ h => belQ_ch h) J.1)
theorem likeliest_j (J : JA m s b kn n t lv) : Ans (dX9_likeliest v1 v2 v3) (dX10_likeliest v1 v2 v3) m := Ans_sc J (pairQ (fun _ k => likeliest_x k) (fun _ k => likeliest_m k) (fun _ _ h => likQ_ch h) J.1)
theorem worth_j (J : JA m s b kn n t lv) : Ans (dX9_worth v1 v2 v3) (dX10_worth v1 v2 v3) m := Ans_sc J (pairQ (fun _ k => worth_x k) (fun _ k => worth_m k) (fun _ _ h => worQ_ch h) J.1)
theorem next_j (J : JA m s b kn n t lv) : Ans (dX9_next v1 v2) (dX10_next v1 v2) m := Ans_sc J (pairQ (fun _ k => next_x k) (fun _ k => next_m k) (fun _ _ h => nexQ_ch h) J.1)
theorem right_j (J : JA m s b kn n t lv) : Ans (dX9_right v1 v2 v3) (dX10_right v1 v2 v3) m := Ans_sc J (pairQ (fun _ k => right_x k) (fun _ k => right_m k) (fun _ _ h => rigQ_ch h) J.1)
end ADDS
