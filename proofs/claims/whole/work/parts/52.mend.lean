/-! ===== mend, undo, redo: alike on both sides ===== -/
section MEND
variable {m : Mm} {s b kn n : Nat} {t : Nat → Nat} {lv : Option LF} {v1 v2 v3 v4 : Int32}
theorem tb_lo {w : Nat} (h : w < 9) : (tbLEAST w).toInt = loV w := by
  have : w = 0 ∨ w = 1 ∨ w = 2 ∨ w = 3 ∨ w = 4 ∨ w = 5 ∨ w = 6 ∨ w = 7 ∨ w = 8 := by omega
  rcases this with rfl | rfl | rfl | rfl | rfl | rfl | rfl | rfl | rfl <;> rfl
theorem tb_hi {w : Nat} (h : w < 9) : (tbMOST w).toInt = hiV w := by
  have : w = 0 ∨ w = 1 ∨ w = 2 ∨ w = 3 ∨ w = 4 ∨ w = 5 ∨ w = 6 ∨ w = 7 ∨ w = 8 := by omega
  rcases this with rfl | rfl | rfl | rfl | rfl | rfl | rfl | rfl | rfl <;> rfl
theorem within_x {w : Nat} (h : w < 9) : dX9_within (nI w) v1 m = some (b01 (loV w ≤ v1.toInt ∧ v1.toInt ≤ hiV w), m) := by
  have hi : inB (nI w) 9 := inB_nI h (by omega)
  unfold dX9_within DX9_within_34
  rw [if_neg (nI_pos (by omega)), if_neg (show ¬ (9 : Int32) ≤ nI w from nI_ge (b := 9) (a := w) h (by omega)), if_pos hi, if_pos hi, nI_clamp (by omega)]
  simp only [toI_lt, tb_lo h, tb_hi h]
  by_cases q : loV w ≤ v1.toInt ∧ v1.toInt ≤ hiV w
  · rw [b01_t q, if_neg (by omega), if_neg (by omega)]
  · rw [b01_f q]
    split
    · rfl
    · rw [if_pos (by omega)]
theorem mayBecome_m {w : Nat} (h : w < 9) : dX10_mayBecome (nI w) v1 m = some (b01 (loV w ≤ v1.toInt ∧ v1.toInt ≤ hiV w), m) := by
  unfold dX10_mayBecome DX10_mayBecome_52 DX10_mayBecome_98
  simp only [within_m, isGood_m, i64, Option.bind_some]
  have : w = 0 ∨ w = 1 ∨ w = 2 ∨ w = 3 ∨ w = 4 ∨ w = 5 ∨ w = 6 ∨ w = 7 ∨ w = 8 := by omega
  rcases this with rfl | rfl | rfl | rfl | rfl | rfl | rfl | rfl | rfl <;> rfl
theorem hd_hn {w k : Nat} : hd s b w k ∧ (w : Int) ≤ 8 ↔ hn s b w k := by
  unfold hd hn; omega
theorem placeOf_p (J : Js m s b) {w k : Nat} (h : hn s b w k) : dX10_placeOf (nI k) (nI w) m = some (nI (plc w k), m) := by
  have s10 := J.s10
  have b6 := J.b6
  unfold hn at h
  have ek : (nI k).toInt = k := nI_toInt (by omega)
  rw [placeOf_m J, ek]
  have : w = 0 ∨ w = 1 ∨ w = 2 ∨ w = 3 ∨ w = 4 ∨ w = 5 ∨ w = 6 ∨ w = 7 ∨ w = 8 := by omega
  rcases this with rfl | rfl | rfl | rfl | rfl | rfl | rfl | rfl | rfl
  · rw [if_pos (by decide), if_pos (by omega), show (6 : Int32) * nI 0 = nI 0 by decide, nI_add]; rfl
  · rw [if_pos (by decide), if_pos (by omega), show (6 : Int32) * nI 1 = nI 6 by decide, nI_add]; rfl
  · rw [if_pos (by decide), if_pos (by omega), show (6 : Int32) * nI 2 = nI 12 by decide, nI_add]; rfl
  · rw [if_pos (by decide), if_pos (by omega), show (6 : Int32) * nI 3 = nI 18 by decide, nI_add]; rfl
  · rw [if_neg (by decide), if_pos (by decide), if_pos (by omega), show (24 : Int32) + 10 * (nI 4 - 4) = nI 24 by decide, nI_add]; rfl
  · rw [if_neg (by decide), if_pos (by decide), if_pos (by omega), show (24 : Int32) + 10 * (nI 5 - 4) = nI 34 by decide, nI_add]; rfl
  · rw [if_neg (by decide), if_neg (by decide), if_pos (by decide), if_pos (by omega), show (44 : Int32) + 6 * (nI 6 - 6) = nI 44 by decide, nI_add]; rfl
  · rw [if_neg (by decide), if_neg (by decide), if_pos (by decide), if_pos (by omega), show (44 : Int32) + 6 * (nI 7 - 6) = nI 50 by decide, nI_add]; rfl
  · rw [if_neg (by decide), if_neg (by decide), if_pos (by decide), if_pos (by omega), show (44 : Int32) + 6 * (nI 8 - 6) = nI 56 by decide, nI_add]; rfl
theorem FT_w {w k : Nat} (h : w ≤ 10) : FT (3 + w) k = true := by unfold FT; simp; omega
theorem Ju_set {m' : Mm} {w k : Nat} {v : Int32} (J : Ju m s b) (h : hn s b w k) (hv : wn w v) (e : ∀ o i, FT o i = true → gI m' o i = if (o = 59 ∧ i = plc w k) ∨ (o = 3 + w ∧ i = k) then v else gI m o i) : Ju m' s b := by
  have h8 := hn_8 h
  obtain ⟨⟨j1, j2, j3, j4, j5, j6⟩, ju, jk, jo⟩ := J
  refine ⟨⟨j1, j2, ?_, ?_, ?_, ?_⟩, fun w' k' h' => ?_, fun i hi => ?_, fun i h1 h2 => ?_⟩
  · rw [e 1 2 rfl, if_neg (by omega)]; exact j3
  · rw [e 1 3 rfl, if_neg (by omega)]; exact j4
  · rw [e 58 6 rfl, if_neg (by omega)]; exact j5
  · rw [e 58 7 rfl, if_neg (by omega)]; exact j6
  · have h8' := hn_8 h'
    by_cases q : w' = w ∧ k' = k
    · obtain ⟨rfl, rfl⟩ := q
      rw [e 59 _ rfl, if_pos (Or.inl ⟨rfl, rfl⟩), e _ _ (FT_w (by omega)), if_pos (Or.inr ⟨rfl, rfl⟩)]
      exact ⟨rfl, hv⟩
    · have n1 : ¬ plc w' k' = plc w k := fun z => q (plc_inj j1 j2 h' h z)
      rw [e 59 _ rfl, if_neg (by omega), e _ _ (FT_w (by omega)), if_neg (by omega)]
      exact ju w' k' h'
  · rw [e 63 _ rfl, if_neg (by omega), e 12 _ rfl, if_neg (by omega), e 64 _ rfl, if_neg (by omega), e 13 _ rfl, if_neg (by omega)]
    exact jk i hi
  · rw [e 64 _ rfl, if_neg (by omega)]; exact jo i h1 h2
theorem setx_p (J : Js m s b) {w k : Nat} (h : hn s b w k) : dX7_set (nI w) (nI k) v1 m = some ((), sI m (3 + w) k v1) := by
  have s10 := J.s10
  have b6 := J.b6
  have h8 := hn_8 h
  have h2 := (hd_hn.mpr h).1
  unfold hn at h
  exact set_x J (nI_toInt (by omega)) (nI_toInt (by omega)) h2
def Pmn (o k : Nat) : Bool := (decide (3 ≤ o) && decide (o ≤ 11)) || o == 59 || o == 29 || (decide (30 ≤ o) && decide (o ≤ 33)) || (decide (60 ≤ o) && decide (o ≤ 62)) || (o == 58 && (k == 4 || k == 5))
theorem oMn_L : off FLw Pmn := fun o k h => by unfold FLw at h; unfold Pmn; simp at h ⊢; omega
theorem oMn_H : off FH Pmn := fun o k h => by unfold FH at h; unfold Pmn; simp at h ⊢; omega
theorem oMn_P : off FP Pmn := fun o k h => by unfold FP at h; unfold Pmn; simp at h ⊢; omega
theorem oMn_D : off FDd Pmn := fun o k h => by unfold FDd at h; unfold Pmn; simp at h ⊢; omega
theorem oMn_N : off FN Pmn := fun o k h => by unfold FN at h; unfold Pmn; simp at h ⊢; omega
theorem Pmn_w {w k : Nat} (h : w ≤ 8) : Pmn (3 + w) k = true := by unfold Pmn; simp; omega
theorem JA_mn {m' : Mm} (J : JA m s b kn n t lv) (c : ch Pmn m m') (h1 : Ju m' s b) (h2 : Jc m' s b) : JA m' s b kn n t lv := ⟨⟨h1.jt, LvC_fr J.1.2.1 c oMn_L, LvR_fr J.1.2.2.1 c oMn_L, Jh_fr J.1.2.2.2 c oMn_H⟩, ⟨Jp_fr J.2.1.1 c oMn_P, Jr_fr J.2.1.2 c oMn_P⟩, h2, Jd_fr J.2.2.2.1 c oMn_D, Jn_fr J.2.2.2.2 c oMn_N⟩
theorem undo_j (J : JA m s b kn n t lv) : Ans dX9_undo dX10_undo m := by
  have z0 : (0 : Int32).toInt = 0 := rfl
  obtain ⟨dn, kp, c1, c2, c3, c4, c5, c6, c7⟩ := J.2.2.1
  have s10 := J.1.1.1.s10
  have b6 := J.1.1.1.b6
  unfold Ans dX9_undo dX1_takeBack dX10_undo
  by_cases h : dn = 0
  · subst h
    refine ⟨-5, m, m, ?_, ?_, _, _, _, _, _, _, J⟩
    · rw [c3, if_neg (by decide)]; rfl
    · rw [c5, if_pos (by decide)]
  · obtain ⟨q, rfl⟩ : ∃ q, dn = q + 1 := ⟨dn - 1, by omega⟩
    obtain ⟨w, k, hh, g1, g2, g3, g4, g5, g6, g7⟩ := c7 q (by omega)
    have h8 := hn_8 hh
    have hp := plc_lt s10 b6 hh
    have hq : inB (nI q) 40 := inB_nI (by omega) (by omega)
    have e1 : gI (sI m 29 4 (nI q)) 29 4 = nI q := by rw [gI_sI, if_pos ⟨rfl, rfl⟩]
    have r30 : ∀ o, ¬ o = 29 → gI (sI m 29 4 (nI q)) o q = gI m o q := fun o ho => by rw [gI_sI, if_neg (by omega)]
    have Jm : Js (sI m 29 4 (nI q)) s b := by
      obtain ⟨a1, a2, a3, a4, a5, a6⟩ := J.1.1.1
      exact ⟨a1, a2, a3, a4, a5, a6⟩
    rw [c3, if_pos (by rw [toI_lt, z0, nI_toInt (by omega)]; omega), nI_m1, e1, if_pos hq, if_pos hq, if_pos hq, nI_clamp (by omega), r30 30 (by omega), r30 31 (by omega), r30 32 (by omega), g1, g2, setx_p Jm hh, Option.bind_some, Option.bind_some]
    generalize hx : gI m 32 q = x at g4 g5
    have r1 : gI (sI (sI m 29 4 (nI q)) (3 + w) k x) 29 4 = nI q := by rw [gI_sI, if_neg (by omega)]; exact e1
    have r2 : gI (sI (sI m 29 4 (nI q)) (3 + w) k x) 58 5 = nI (q + 1) := by rw [gI_sI, if_neg (by omega), gI_sI, if_neg (by omega)]; exact c5
    have r3 : gI (sI (sI (sI m 29 4 (nI q)) (3 + w) k x) 58 5 (nI q)) 58 5 = nI q := by rw [gI_sI, if_pos ⟨rfl, rfl⟩]
    have r4 : ∀ o, (o = 60 ∨ o = 61) → gI (sI (sI (sI m 29 4 (nI q)) (3 + w) k x) 58 5 (nI q)) o q = gI m o q := fun o ho => by rw [gI_sI, if_neg (by omega), gI_sI, if_neg (by omega), gI_sI, if_neg (by omega)]
    have c : ch Pmn m (sI (sI (sI (sI m 29 4 (nI q)) (3 + w) k x) 58 5 (nI q)) 59 (plc w k) x) := (((ch.sI rfl).tr (ch.sI (Pmn_w h8))).tr (ch.sI rfl)).tr (ch.sI rfl)
    refine ⟨nI q, sI (sI m 29 4 (nI q)) (3 + w) k x, sI (sI (sI (sI m 29 4 (nI q)) (3 + w) k x) 58 5 (nI q)) 59 (plc w k) x, ?_, ?_, s, b, kn, n, t, lv, JA_mn J c ?_ ⟨q, kp, by omega, c2, ?_, ?_, ?_, ?_, fun i hi => ?_⟩⟩
    · rw [if_neg (show ¬ (1 : Int32) = 0 by decide), r1]
    · rw [r2, if_neg (fun z => by have := (nI_eq (a := q + 1) (b := 0) (by omega) (by omega)).mp z; omega), nI_m1, r3, if_pos hq, if_pos hq, nI_clamp (by omega), r4 60 (by omega), r4 61 (by omega), g3, g4, if_pos (inB_nI hp (by omega)), nI_clamp (by omega)]
      have : gI (sI (sI (sI (sI m 29 4 (nI q)) (3 + w) k x) 58 5 (nI q)) 59 (plc w k) x) 58 5 = nI q := by rw [gI_sI, if_neg (by omega)]; exact r3
      rw [this]
    · refine Ju_set (Ju.of J.1.1) hh g5 (fun o i hf => ?_)
      have f1 : ¬ (o = 29 ∧ i = 4) := fun z => by rw [z.1, z.2] at hf; cases hf
      have f2 : ¬ (o = 58 ∧ i = 5) := fun z => by rw [z.1, z.2] at hf; cases hf
      rw [gI_sI, gI_sI, gI_sI, gI_sI, if_neg f1, if_neg f2]
      by_cases u1 : o = 59 ∧ i = plc w k
      · rw [if_pos u1, if_pos (Or.inl u1)]
      · rw [if_neg u1]
        by_cases u2 : o = 3 + w ∧ i = k
        · rw [if_pos u2, if_pos (Or.inr u2)]
        · rw [if_neg u2, if_neg (fun z => z.elim u1 u2)]
    · rw [gI_sI, if_neg (by omega), gI_sI, if_neg (by omega)]; exact r1
    · rw [gI_sI, if_neg (by omega), gI_sI, if_neg (by omega), gI_sI, if_neg (by omega), gI_sI, if_neg (by omega)]; exact c4
    · rw [gI_sI, if_neg (by omega)]; exact r3
    · rw [gI_sI, if_neg (by omega), gI_sI, if_neg (by omega), gI_sI, if_neg (by omega), gI_sI, if_neg (by omega)]; exact c6
    · have := c7 i hi
      have rr : ∀ o, (30 ≤ o ∧ o ≤ 33) ∨ (60 ≤ o ∧ o ≤ 62) → gI (sI (sI (sI (sI m 29 4 (nI q)) (3 + w) k x) 58 5 (nI q)) 59 (plc w k) x) o i = gI m o i := fun o ho => by rw [gI_sI, if_neg (by omega), gI_sI, if_neg (by omega), gI_sI, if_neg (by omega), gI_sI, if_neg (by omega)]
      unfold Jc1 at this ⊢
      rw [rr 30 (by omega), rr 31 (by omega), rr 32 (by omega), rr 33 (by omega), rr 60 (by omega), rr 61 (by omega), rr 62 (by omega)]
      exact this
theorem redo_j (J : JA m s b kn n t lv) : Ans dX9_redo dX10_redo m := by
  obtain ⟨dn, kp, c1, c2, c3, c4, c5, c6, c7⟩ := J.2.2.1
  have s10 := J.1.1.1.s10
  have b6 := J.1.1.1.b6
  have ed : (nI dn).toInt = dn := nI_toInt (by omega)
  have ek : (nI kp).toInt = kp := nI_toInt (by omega)
  unfold Ans dX9_redo dX1_bringBack dX10_redo
  by_cases h : dn = kp
  · subst h
    refine ⟨-5, m, m, ?_, ?_, _, _, _, _, _, _, J⟩
    · rw [c3, c4, if_neg (by rw [toI_lt]; omega)]; rfl
    · rw [c5, c6, if_pos rfl]
  · obtain ⟨w, k, hh, g1, g2, g3, g4, g5, g6, g7⟩ := c7 dn (by omega)
    have h8 := hn_8 hh
    have hp := plc_lt s10 b6 hh
    have hq : inB (nI dn) 40 := inB_nI (by omega) (by omega)
    rw [c3, c4, if_pos (by rw [toI_lt]; omega), if_pos hq, if_pos hq, if_pos hq, nI_clamp (by omega), g1, g2, setx_p J.1.1.1 hh, Option.bind_some]
    generalize hx : gI m 33 dn = x at g6 g7
    have e4 : gI (sI m (3 + w) k x) 29 4 = nI dn := by rw [gI_sI, if_neg (by omega)]; exact c3
    rw [e4, nI_1, Option.bind_some]
    have r1 : gI (sI (sI m (3 + w) k x) 29 4 (nI (dn + 1))) 29 4 = nI (dn + 1) := by rw [gI_sI, if_pos ⟨rfl, rfl⟩]
    have r1' : gI (sI (sI m (3 + w) k x) 29 4 (nI (dn + 1))) 29 5 = nI kp := by rw [gI_sI, if_neg (by omega), gI_sI, if_neg (by omega)]; exact c4
    have r2 : ∀ o i, (60 ≤ o ∧ o ≤ 62) ∨ o = 58 → gI (sI (sI m (3 + w) k x) 29 4 (nI (dn + 1))) o i = gI m o i := fun o i ho => by rw [gI_sI, if_neg (by omega), gI_sI, if_neg (by omega)]
    have c : ch Pmn m (sI (sI (sI (sI m (3 + w) k x) 29 4 (nI (dn + 1))) 59 (plc w k) x) 58 5 (nI (dn + 1))) := (((ch.sI (Pmn_w h8)).tr (ch.sI rfl)).tr (ch.sI rfl)).tr (ch.sI rfl)
    refine ⟨nI kp - nI (dn + 1), sI (sI m (3 + w) k x) 29 4 (nI (dn + 1)), sI (sI (sI (sI m (3 + w) k x) 29 4 (nI (dn + 1))) 59 (plc w k) x) 58 5 (nI (dn + 1)), ?_, ?_, s, b, kn, n, t, lv, JA_mn J c ?_ ⟨dn + 1, kp, by omega, c2, ?_, ?_, ?_, ?_, fun i hi => ?_⟩⟩
    · rw [if_neg (show ¬ (1 : Int32) = 0 by decide), r1, r1']
    · have r5 : gI (sI (sI (sI m (3 + w) k x) 29 4 (nI (dn + 1))) 59 (plc w k) x) 58 5 = nI dn := by rw [gI_sI, if_neg (by omega), r2 58 5 (by omega)]; exact c5
      have r6 : gI (sI (sI (sI (sI m (3 + w) k x) 29 4 (nI (dn + 1))) 59 (plc w k) x) 58 5 (nI (dn + 1))) 58 4 = nI kp := by rw [gI_sI, if_neg (by omega), gI_sI, if_neg (by omega), r2 58 4 (by omega)]; exact c6
      have r7 : gI (sI (sI (sI (sI m (3 + w) k x) 29 4 (nI (dn + 1))) 59 (plc w k) x) 58 5 (nI (dn + 1))) 58 5 = nI (dn + 1) := by rw [gI_sI, if_pos ⟨rfl, rfl⟩]
      rw [r2 58 5 (by omega), r2 58 4 (by omega), c5, c6, if_neg (fun z => h ((nI_eq (by omega) (by omega)).mp z)), if_pos hq, if_pos hq, nI_clamp (by omega), r2 60 _ (by omega), r2 62 _ (by omega), g3, g6, if_pos (inB_nI hp (by omega)), nI_clamp (by omega), r5, nI_1, r6, r7]
    · refine Ju_set (Ju.of J.1.1) hh g7 (fun o i hf => ?_)
      have f1 : ¬ (o = 29 ∧ i = 4) := fun z => by rw [z.1, z.2] at hf; cases hf
      have f2 : ¬ (o = 58 ∧ i = 5) := fun z => by rw [z.1, z.2] at hf; cases hf
      rw [gI_sI, gI_sI, gI_sI, gI_sI, if_neg f1, if_neg f2]
      by_cases u1 : o = 59 ∧ i = plc w k
      · rw [if_pos u1, if_pos (Or.inl u1)]
      · rw [if_neg u1]
        by_cases u2 : o = 3 + w ∧ i = k
        · rw [if_pos u2, if_pos (Or.inr u2)]
        · rw [if_neg u2, if_neg (fun z => z.elim u1 u2)]
    · rw [gI_sI, if_neg (by omega), gI_sI, if_neg (by omega)]; exact r1
    · rw [gI_sI, if_neg (by omega), gI_sI, if_neg (by omega)]; exact r1'
    · rw [gI_sI, if_pos ⟨rfl, rfl⟩]
    · rw [gI_sI, if_neg (by omega), gI_sI, if_neg (by omega), r2 58 4 (by omega)]; exact c6
    · have := c7 i hi
      have rr : ∀ o, (30 ≤ o ∧ o ≤ 33) ∨ (60 ≤ o ∧ o ≤ 62) → gI (sI (sI (sI (sI m (3 + w) k x) 29 4 (nI (dn + 1))) 59 (plc w k) x) 58 5 (nI (dn + 1))) o i = gI m o i := fun o ho => by rw [gI_sI, if_neg (by omega), gI_sI, if_neg (by omega), gI_sI, if_neg (by omega), gI_sI, if_neg (by omega)]
      unfold Jc1 at this ⊢
      rw [rr 30 (by omega), rr 31 (by omega), rr 32 (by omega), rr 33 (by omega), rr 60 (by omega), rr 61 (by omega), rr 62 (by omega)]
      exact this
end MEND
