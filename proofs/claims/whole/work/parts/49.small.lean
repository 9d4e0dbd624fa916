/-! ===== count, led, trace, body, keep: alike on both sides ===== -/
def Ans {R : Type} (f g : Mm → Option (R × Mm)) (m : Mm) : Prop := ∃ r m1 m2, f m = some (r, m1) ∧ g m1 = some (r, m2) ∧ JJ m2
section SMALL
variable {m : Mm} {s b kn n : Nat} {t : Nat → Nat} {lv : Option LF} {v1 v2 v3 : Int32}
theorem Ans_sc {R : Type} {f g : Mm → Option (R × Mm)} (J : JA m s b kn n t lv) (h : ∃ r m1 m2, f m = some (r, m1) ∧ g m1 = some (r, m2) ∧ ch Sc m m2) : Ans f g m := by
  obtain ⟨r, m1, m2, h1, h2, h3⟩ := h
  exact ⟨r, m1, m2, h1, h2, s, b, kn, n, t, lv, JA_ch J h3⟩
theorem count_j (J : JA m s b kn n t lv) : Ans (dX9_count v1) (dX10_count v1) m := by
  have a0 := J.1.1.1.2.2.1
  have a1 := J.1.1.1.2.2.2.1
  have b0 := J.1.1.1.2.2.2.2.1
  have b1 := J.1.1.1.2.2.2.2.2
  have a2 := J.2.1.1.2.1
  have b2 := J.2.1.1.2.2.1
  obtain ⟨dn, kp, -, -, a3, -, b3, -⟩ := J.2.2.1
  have a4 := J.2.2.2.2.2.1
  have b4 := J.2.2.2.2.2.2.1
  have a5 := J.2.2.2.2.2.2.2.2.1
  have key : dX10_count v1 m = dX9_count v1 m := by
    unfold dX9_count dX10_count
    rw [a0, b0, a1, b1, a2, b2, a3, b3, a4, b4, a5]
  have k2 : ∃ r, dX9_count v1 m = some (r, m) := by
    unfold dX9_count
    repeat' split
    all_goals exact ⟨_, rfl⟩
  obtain ⟨r, k2⟩ := k2
  exact ⟨r, m, m, k2, key.trans k2, _, _, _, _, _, _, J⟩
theorem led_j (J : JA m s b kn n t lv) : Ans (dX9_led v1) (dX10_led v1) m := by
  unfold Ans dX9_led dX3_line dX10_led
  simp only [within_m, i64, Option.bind_some, b01_0, toI_lt]
  have c0 : (0 : Int64).toInt = 0 := rfl
  have c4 : (4 : Int64).toInt = 4 := rfl
  have z0 : (0 : Int32).toInt = 0 := rfl
  have z5 : (5 : Int32).toInt = 5 := rfl
  simp only [c0, c4, z0, z5]
  by_cases h : 0 ≤ v1.toInt ∧ v1.toInt ≤ 4
  · have hi : inB v1 5 := inB_iff.mpr (by omega)
    refine ⟨gI m 24 v1.toNatClampNeg, m, m, ?_, ?_, _, _, _, _, _, _, J⟩
    · rw [if_neg (by omega), if_pos (by omega), if_pos hi, Option.bind_some]
    · rw [if_neg (fun q => q h), if_pos hi, J.2.2.2.1.1 _ (by rw [clampN]; omega)]
  · refine ⟨-1, m, m, ?_, by rw [if_pos h], _, _, _, _, _, _, J⟩
    by_cases h0 : v1.toInt < 0
    · rw [if_pos h0]; rfl
    · rw [if_neg h0, if_neg (by omega)]; rfl
theorem trace_j (J : JA m s b kn n t lv) : Ans (dX9_trace v1) (dX10_trace v1) m := by
  obtain ⟨-, -, -, -, x5, x6, x7⟩ := J.2.2.2.2
  have z0 : (0 : Int32).toInt = 0 := rfl
  have z24 : (24 : Int32).toInt = 24 := rfl
  unfold Ans dX9_trace dX4_ranAt dX10_trace
  simp only [x5, toI_lt, toI_le, z0, z24]
  by_cases h : 0 ≤ v1.toInt ∧ v1.toInt < 24 ∧ v1.toInt < (gI m 34 4).toInt
  · have hi : inB v1 24 := inB_iff.mpr (by omega)
    refine ⟨gI m 36 v1.toNatClampNeg, m, m, ?_, ?_, _, _, _, _, _, _, J⟩
    · rw [if_neg (by omega), if_neg (by omega), if_pos (by omega), if_pos hi, Option.bind_some]
    · rw [x5, if_neg (by omega), if_neg (by omega), if_neg (by omega), if_pos hi, x7 _ (by rw [clampN]; omega) (by rw [clampN]; omega)]
  · refine ⟨-1, m, m, ?_, ?_, _, _, _, _, _, _, J⟩
    · unfold DX4_ranAt_18
      repeat' split
      all_goals first | rfl | (exfalso; omega)
    · unfold DX10_trace_27
      rw [x5]
      repeat' split
      all_goals first | rfl | (exfalso; omega)
def Pbd (a k : Nat) : Bool := a == 35 || a == 77 || (a == 34 && k == 3) || (a == 58 && k == 32)
theorem oBd_T : off FT Pbd := fun o k h => by unfold FT at h; unfold Pbd; simp at h ⊢; omega
theorem oBd_H : off FH Pbd := fun o k h => by unfold FH at h; unfold Pbd; simp at h ⊢; omega
theorem oBd_L : off FLw Pbd := fun o k h => by unfold FLw at h; unfold Pbd; simp at h ⊢; omega
theorem oBd_P : off FP Pbd := fun o k h => by unfold FP at h; unfold Pbd; simp at h ⊢; omega
theorem oBd_C : off FC Pbd := fun o k h => by unfold FC at h; unfold Pbd; simp at h ⊢; omega
theorem oBd_D : off FDd Pbd := fun o k h => by unfold FDd at h; unfold Pbd; simp at h ⊢; omega
theorem nI_m1 {x : Nat} : nI (x + 1) - 1 = nI x := nI_pred x
theorem body_j (J : JA m s b kn n t lv) : Ans (dX9_body v1) (dX10_body v1) m := by
  obtain ⟨k50, x2, x3, x4, x5, x6, x7⟩ := J.2.2.2.2
  have z0 : (0 : Int32).toInt = 0 := rfl
  have z8 : (8 : Int32).toInt = 8 := rfl
  have z50 : (50 : Int32).toInt = 50 := rfl
  have c0 : (0 : Int64).toInt = 0 := rfl
  have c7 : (7 : Int64).toInt = 7 := rfl
  have ek : (nI kn).toInt = kn := nI_toInt (by omega)
  unfold Ans dX9_body dX4_add dX10_body
  simp only [within_m, i64, Option.bind_some, b01_0, toI_lt, z0, z8, c0, c7]
  by_cases h : 0 ≤ v1.toInt ∧ v1.toInt ≤ 7
  · rw [if_neg (by omega), if_pos (by omega), x2, ek, z50]
    simp only [if_neg (show ¬ ¬ (0 ≤ v1.toInt ∧ v1.toInt ≤ 7) from fun q => q h)]
    by_cases hk : kn < 50
    · have hi : inB (nI kn) 50 := inB_nI hk (by omega)
      have hne : ¬ nI kn = 50 := by rw [toI_eq, ek, z50]; omega
      have a1 : gI (sI m 35 kn v1) 34 3 = nI kn := by rw [gI_sI, if_neg (by omega)]; exact x2
      rw [if_pos (by omega), if_pos hi, nI_clamp (by omega), a1, nI_1, Option.bind_some]
      have a2 : gI (sI (sI m 35 kn v1) 34 3 (nI (kn + 1))) 34 3 = nI (kn + 1) := by rw [gI_sI, if_pos ⟨rfl, rfl⟩]
      have a3 : gI (sI (sI m 35 kn v1) 34 3 (nI (kn + 1))) 58 32 = nI kn := by rw [gI_sI, if_neg (by omega), gI_sI, if_neg (by omega)]; exact x3
      rw [a2, nI_m1]
      have c : ch Pbd m (sI (sI (sI (sI m 35 kn v1) 34 3 (nI (kn + 1))) 77 kn v1) 58 32 (nI (kn + 1))) := (((ch.sI rfl).tr (ch.sI rfl)).tr (ch.sI rfl)).tr (ch.sI rfl)
      refine ⟨nI kn, _, sI (sI (sI (sI m 35 kn v1) 34 3 (nI (kn + 1))) 77 kn v1) 58 32 (nI (kn + 1)), rfl, ?_, s, b, kn + 1, n, t, lv, ⟨Jt_fr J.1.1 c oBd_T, LvC_fr J.1.2.1 c oBd_L, LvR_fr J.1.2.2.1 c oBd_L, (Jh_fr J.1.2.2.2 c oBd_H).up (by omega) (by omega)⟩, ⟨Jp_fr J.2.1.1 c oBd_P, Jr_fr J.2.1.2 c oBd_P⟩, Jc_fr J.2.2.1 c oBd_C, Jd_fr J.2.2.2.1 c oBd_D, by omega, ?_, ?_, fun k hk2 => ?_, ?_, ?_, fun k h1 h2 => ?_⟩
      · simp only [a3]
        rw [if_neg hne, if_pos hi, nI_clamp (by omega)]
        have a4 : gI (sI (sI (sI m 35 kn v1) 34 3 (nI (kn + 1))) 77 kn v1) 58 32 = nI kn := by rw [gI_sI, if_neg (by omega)]; exact a3
        have a5 : gI (sI (sI (sI (sI m 35 kn v1) 34 3 (nI (kn + 1))) 77 kn v1) 58 32 (nI (kn + 1))) 58 32 = nI (kn + 1) := by rw [gI_sI, if_pos ⟨rfl, rfl⟩]
        rw [a4, nI_1, a5, nI_m1]
      · simp only [gI_sI]; simp
      · simp only [gI_sI]; simp
      · by_cases e : k = kn
        · subst e
          simp only [gI_sI]
          simp
          exact ⟨v1.toInt.toNat, by omega, nI_of_toInt (by omega)⟩
        · have := x4 k (by omega)
          simp only [gI_sI]
          simp [e]
          exact this
      · simp only [gI_sI]; simp [x5]
      · simp only [gI_sI]; simp [x6]
      · simp only [gI_sI] at h2 ⊢
        simp at h2 ⊢
        exact x7 k h1 h2
    · have e50 : kn = 50 := by omega
      subst e50
      rw [if_neg (by omega), Option.bind_some]
      exact ⟨_, m, m, rfl, by rw [x3, if_pos (by decide)], _, _, _, _, _, _, J⟩
  · refine ⟨-1, m, m, ?_, by rw [if_pos h], _, _, _, _, _, _, J⟩
    unfold DX9_body_10
    repeat' split
    all_goals first | rfl | (exfalso; omega)
theorem has_x (N : Jn m kn) : dX4_has v1 m = some (b01 (0 ≤ v1.toInt ∧ v1.toInt < (kn : Int)), m) := by
  have ek : (nI kn).toInt = kn := nI_toInt (by have := N.1; omega)
  have z0 : (0 : Int32).toInt = 0 := rfl
  unfold dX4_has DX4_has_16
  rw [N.2.1]
  simp only [toI_lt, toI_le, z0, ek]
  unfold b01
  repeat' split
  all_goals first | rfl | (exfalso; omega)
theorem isBody_m (N : Jn m kn) : dX10_isBody v1 m = some (b01 (0 ≤ v1.toInt ∧ v1.toInt < (kn : Int)), m) := by
  have hk := N.1
  have ek : (nI kn).toInt = kn := nI_toInt (by omega)
  have z1 : (1 : Int32).toInt = 1 := rfl
  unfold dX10_isBody
  rw [N.2.2.1, within_m, Option.bind_some, i64, i64, iSub (by rw [ek, z1]; omega) (by rw [ek, z1]; omega), ek]
  have e : (0 ≤ v1.toInt ∧ v1.toInt < (kn : Int)) = ((0 : Int64).toInt ≤ v1.toInt ∧ v1.toInt ≤ (kn : Int) - (1 : Int32).toInt) := propext (by rw [z1]; have : (0 : Int64).toInt = 0 := rfl; omega)
  simp only [e]
def Psh (a _k : Nat) : Bool := (decide (38 ≤ a) && decide (a ≤ 49)) || (decide (79 ≤ a) && decide (a ≤ 82))
theorem oSh_T : off FT Psh := fun o k h => by unfold FT at h; unfold Psh; simp at h ⊢; omega
theorem oSh_L : off FLw Psh := fun o k h => by unfold FLw at h; unfold Psh; simp at h ⊢; omega
theorem oSh_P : off FP Psh := fun o k h => by unfold FP at h; unfold Psh; simp at h ⊢; omega
theorem oSh_C : off FC Psh := fun o k h => by unfold FC at h; unfold Psh; simp at h ⊢; omega
theorem oSh_D : off FDd Psh := fun o k h => by unfold FDd at h; unfold Psh; simp at h ⊢; omega
theorem oSh_N : off FN Psh := fun o k h => by unfold FN at h; unfold Psh; simp at h ⊢; omega
/-- what shelves leave as it is -/
theorem JA_sh {m' : Mm} (J : JA m s b kn n t lv) (c : ch Psh m m') (h : Jh m' kn) : JA m' s b kn n t lv := ⟨⟨Jt_fr J.1.1 c oSh_T, LvC_fr J.1.2.1 c oSh_L, LvR_fr J.1.2.2.1 c oSh_L, h⟩, ⟨Jp_fr J.2.1.1 c oSh_P, Jr_fr J.2.1.2 c oSh_P⟩, Jc_fr J.2.2.1 c oSh_C, Jd_fr J.2.2.2.1 c oSh_D, Jn_fr J.2.2.2.2 c oSh_N⟩
theorem Psh_a {d k : Nat} (h : d < 6) : Psh (38 + d) k = true ∧ Psh (44 + d) k = true := by unfold Psh; simp; omega
/-- another shelf is as it was -/
theorem Jh1.ne {m' : Mm} {d : Nat} (J : Jh1 m d kn) (h1 : ∀ k, gI m' (38 + d) k = gI m (38 + d) k) (h2 : gI m' 79 d = gI m 79 d) (h3 : gI m' 80 d = gI m 80 d) (h4 : ∀ i, i < 60 → gL m' (44 + d) i = gL m (44 + d) i) (h5 : ∀ i, i < 60 → gL m' 81 (60 * d + i) = gL m 81 (60 * d + i)) : Jh1 m' d kn := by
  unfold Jh1 at J ⊢
  rw [h1, h1, h1, h1, h2, h3]
  rcases J with J | J | ⟨j1, t, n, j2, j3, j4, j5, j6, j7, j8, j9⟩
  · exact Or.inl J
  · exact Or.inr (Or.inl J)
  · refine Or.inr (Or.inr ⟨j1, t, n, j2, j3, j4, j5, j6, j7, fun i hi => ?_, fun q i hi => ?_⟩)
    · rw [h4 i hi, h5 i hi]; exact j8 i hi
    · rw [h4 i hi]; exact j9 q i hi
theorem lay_x {d : Nat} (hd : d < 6) : dX8_lay (38 + d) v2 m = some ((), sI (sI m (38 + d) 1 (if 0 ≤ v2 then 1 else 0)) (38 + d) 2 v2) := by
  unfold dX8_lay DX8_lay_10
  rw [if_pos (pSh (shO hd))]
  split <;> rfl
theorem keep_j (J : JA m s b kn n t lv) : Ans (dX9_keep v1 v2) (dX10_keep v1 v2) m := by
  have N := J.2.2.2.2
  have z0 : (0 : Int32).toInt = 0 := rfl
  have zm : (-1 : Int32).toInt = -1 := rfl
  unfold Ans dX9_keep dX10_keep
  simp only [isShelf_x, isShelf_m, Option.bind_some, b01_0]
  by_cases h : 0 ≤ v1.toInt ∧ v1.toInt < 6
  · obtain ⟨e1, d6⟩ := d_n (v1 := v1) h
    rw [if_neg (fun q => q h)]
    simp only [if_neg (show ¬ ¬ (0 ≤ v1.toInt ∧ v1.toInt < 6) from fun q => q h)]
    have hi : inB v1 6 := inB_iff.mpr (by omega)
    have go : (v2 = -1 ∨ (0 ≤ v2.toInt ∧ v2.toInt < (kn : Int))) → ∃ r m1 m2, DX9_keep_25 v1 v2 m = some (r, m1) ∧ DX10_keep_22 v1 v2 m1 = some (r, m2) ∧ JJ m2 := by
      intro hv
      unfold DX9_keep_25 DX10_keep_22
      simp only [if_pos hi, clD h, lay_x d6, Option.bind_some]
      generalize dN v1 = d at d6
      generalize ex : (if (0 : Int32) ≤ v2 then (1 : Int32) else 0) = x
      have c : ch Psh m (sI (sI (sI (sI m (38 + d) 1 x) (38 + d) 2 v2) 79 d v2) 80 d 0) := (((ch.sI (Psh_a d6).1).tr (ch.sI (Psh_a d6).1)).tr (ch.sI rfl)).tr (ch.sI rfl)
      refine ⟨1, _, _, rfl, rfl, s, b, kn, n, t, lv, JA_sh J c ⟨N.1, fun d' hd' => ?_⟩⟩
      by_cases e : d' = d
      · subst e
        have r1 : gI (sI (sI (sI (sI m (38 + d') 1 x) (38 + d') 2 v2) 79 d' v2) 80 d' 0) (38 + d') 1 = x := by
          rw [gI_sI, if_neg (by omega), gI_sI, if_neg (by omega), gI_sI, if_neg (by omega), gI_sI, if_pos ⟨rfl, rfl⟩]
        have r2 : gI (sI (sI (sI (sI m (38 + d') 1 x) (38 + d') 2 v2) 79 d' v2) 80 d' 0) (38 + d') 2 = v2 := by
          rw [gI_sI, if_neg (by omega), gI_sI, if_neg (by omega), gI_sI, if_pos ⟨rfl, rfl⟩]
        have r3 : gI (sI (sI (sI (sI m (38 + d') 1 x) (38 + d') 2 v2) 79 d' v2) 80 d' 0) 79 d' = v2 := by
          rw [gI_sI, if_neg (by omega), gI_sI, if_pos ⟨rfl, rfl⟩]
        unfold Jh1
        rw [r1, r2, r3]
        rcases hv with hv | hv
        · subst hv
          rw [if_neg (by decide)] at ex
          exact Or.inl ⟨ex.symm, rfl⟩
        · rw [if_pos (by rw [toI_le, z0]; omega)] at ex
          exact Or.inr (Or.inl ⟨ex.symm, v2.toInt.toNat, by omega, nI_of_toInt (by omega), nI_of_toInt (by omega)⟩)
      · refine Jh1.ne (J.1.2.2.2.2 d' hd') (fun k => ?_) ?_ ?_ (fun i _ => rfl) (fun i _ => rfl)
        · rw [gI_sI, if_neg (by omega), gI_sI, if_neg (by omega), gI_sI, if_neg (by omega), gI_sI, if_neg (by omega)]
        · rw [gI_sI, if_neg (by omega), gI_sI, if_neg (by omega), gI_sI, if_neg (by omega), gI_sI, if_neg (by omega)]
        · rw [gI_sI, if_neg (by omega), gI_sI, if_neg (by omega), gI_sI, if_neg (by omega), gI_sI, if_neg (by omega)]
    by_cases h1 : v2 = -1
    · obtain ⟨r, m1, m2, g1, g2, g3⟩ := go (Or.inl h1)
      exact ⟨r, m1, m2, by rw [if_pos h1]; exact g1, by rw [if_pos h1]; exact g2, g3⟩
    · by_cases h2 : 0 ≤ v2.toInt ∧ v2.toInt < (kn : Int)
      · obtain ⟨r, m1, m2, g1, g2, g3⟩ := go (Or.inr h2)
        refine ⟨r, m1, m2, by rw [if_neg h1, has_x N, Option.bind_some]; simp only [b01_0]; rw [if_neg (fun q => q h2)]; exact g1, ?_, g3⟩
        have N1 : Jn m1 kn := by
          unfold DX9_keep_25 at g1
          rw [if_pos hi, show v1.toNatClampNeg = dN v1 from rfl, lay_x d6, Option.bind_some] at g1
          have e := (Prod.mk.inj (Option.some.inj g1)).2
          rw [← e]
          exact Jn_fr N ((ch.sI (Psh_a d6).1).tr (ch.sI (Psh_a d6).1)) oSh_N
        rw [if_neg h1, isBody_m N1, Option.bind_some]
        simp only [b01_0]
        rw [if_neg (fun q => q h2)]; exact g2
      · refine ⟨-1, m, m, ?_, ?_, _, _, _, _, _, _, J⟩
        · rw [if_neg h1, has_x N, Option.bind_some]; simp only [b01_0]; rw [if_pos h2]; rfl
        · rw [if_neg h1, isBody_m N, Option.bind_some]; simp only [b01_0]; rw [if_pos h2]; rfl
  · exact ⟨-1, m, m, by rw [if_pos h]; rfl, by rw [if_pos h]; rfl, _, _, _, _, _, _, J⟩
end SMALL
