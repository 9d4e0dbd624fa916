/-! ===== row, put, element: alike on both sides ===== -/
section ROWS
variable {m : Mm} {s b kn n : Nat} {t : Nat → Nat} {lv : Option LF} {v1 v2 v3 v4 v5 : Int32}
theorem m60 {d : Nat} (h : d < 6) : (60 : Int32) * nI d = nI (60 * d) := by
  have : d = 0 ∨ d = 1 ∨ d = 2 ∨ d = 3 ∨ d = 4 ∨ d = 5 := by omega
  rcases this with rfl | rfl | rfl | rfl | rfl | rfl <;> decide
theorem clE (h : okD v1) : v1.toNatClampNeg = dN v1 := by rw [clD h]
theorem okD_i (h : okD v1) : inB v1 6 := inB_iff.mpr (by omega)
theorem row_l {d : Nat} (hd : d < 6) : ∀ (N i : Nat) (m : Mm), i ≤ 60 → 60 < i + N → ∃ m2, DX10_row_57 N (nI d) (nI (60 * d + i)) m = some (1, m2) ∧ ch (P1 81) m m2 ∧ ∀ k, gL m2 81 k = if 60 * d + i ≤ k ∧ k < 60 * d + 60 then 0 else gL m 81 k := by
  intro N
  induction N with
  | zero => intro i m h1 h2; omega
  | succ N ih =>
    intro i m h1 h2
    show ∃ m2, BX10_row_57 (DX10_row_57 N) (nI d) (nI (60 * d + i)) m = some (1, m2) ∧ _
    unfold BX10_row_57
    have e60 : nI (60 * d) + 60 = nI (60 * d + 60) := by rw [show (60 : Int32) = nI 60 from rfl, nI_add]
    rw [m60 hd, e60]
    by_cases h : i = 60
    · subst h
      rw [if_pos ((nI_leI (by omega) (by omega)).mpr (Nat.le_refl _))]
      exact ⟨m, rfl, ch.rf, fun k => by rw [if_neg (by omega)]⟩
    · rw [if_neg (fun q => by have := (nI_leI (by omega) (by omega)).mp q; omega), if_pos (inB_nI (by omega) (by omega)), nI_1, nI_clamp (by omega)]
      obtain ⟨m2, x1, x2, x3⟩ := ih (i + 1) (sL m 81 (60 * d + i) 0) (by omega) (by omega)
      refine ⟨m2, x1, (ch.sL (by unfold P1; simp)).tr x2, fun k => ?_⟩
      rw [x3 k, gL_sL]
      by_cases hk : k = 60 * d + i
      · subst hk
        rw [if_neg (by omega), if_pos ⟨rfl, rfl⟩, if_pos (by omega)]
      · rw [if_neg (show ¬ (81 = 81 ∧ k = 60 * d + i) from fun q => hk q.2)]
        by_cases h5 : 60 * d + i ≤ k ∧ k < 60 * d + 60
        · rw [if_pos (by omega), if_pos h5]
        · rw [if_neg (by omega), if_neg h5]
theorem row_j (J : JA m s b kn n t lv) : Ans (dX9_row v1 v2 v3) (dX10_row v1 v2 v3) m := by
  have z0 : (0 : Int32).toInt = 0 := rfl
  have z4 : (4 : Int32).toInt = 4 := rfl
  have z60 : (60 : Int32).toInt = 60 := rfl
  have c0 : (0 : Int64).toInt = 0 := rfl
  have c4 : (4 : Int64).toInt = 4 := rfl
  unfold Ans dX9_row dX10_row
  simp only [isShelf_x, isShelf_m, Option.bind_some, b01_0, within_m, i64, toI_lt, toI_le, z0, z4, z60, c0, c4]
  by_cases h : okD v1
  · obtain ⟨e1, d6⟩ := d_n h
    simp only [if_neg (show ¬ ¬ (0 ≤ v1.toInt ∧ v1.toInt < 6) from fun q => q h)]
    by_cases h2 : 0 ≤ v2.toInt ∧ v2.toInt ≤ 4
    · simp only [if_neg (show ¬ ¬ (0 ≤ v2.toInt ∧ v2.toInt ≤ 4) from fun q => q h2), if_neg (show ¬ v2.toInt < 0 by omega), if_neg (show ¬ 4 < v2.toInt by omega)]
      by_cases h3 : v3.toInt ≤ 60
      · simp only [if_pos h3]
        by_cases h4 : 0 ≤ v3.toInt
        · simp only [if_pos h4, if_pos (okD_i h), clE h]
          obtain ⟨tn, ht⟩ : ∃ q : Nat, v2.toInt = q := ⟨v2.toInt.toNat, by omega⟩
          obtain ⟨ln, hl⟩ : ∃ q : Nat, v3.toInt = q := ⟨v3.toInt.toNat, by omega⟩
          have et := nI_of_toInt ht
          have el := nI_of_toInt hl
          unfold dX8_layRow
          rw [if_pos (pSh (shO d6)), Option.bind_some]
          generalize hdd : dN v1 = d at d6
          rw [hdd] at e1
          have e50 : (50 : Int32) + v2 = nI (50 + tn) := by rw [et, show (50 : Int32) = nI 50 from rfl, nI_add]
          rw [e50]
          obtain ⟨m2, x1, x2, x3⟩ := row_l d6 FU 0 (sI (sI (flL (sI (sI (sI m (38 + d) 1 2) (38 + d) 3 v2) (38 + d) 4 v3) (38 + d + 6) 60 0) 79 d (nI (50 + tn))) 80 d v3) (by omega) (by unfold FU; omega)
          have x1' : DX10_row_57 FU v1 (60 * v1) (sI (sI (flL (sI (sI (sI m (38 + d) 1 2) (38 + d) 3 v2) (38 + d) 4 v3) (38 + d + 6) 60 0) 79 d (nI (50 + tn))) 80 d v3) = some (1, m2) := by
            rw [e1, m60 d6]; exact x1
          have c1 : ch Psh m (sI (sI (flL (sI (sI (sI m (38 + d) 1 2) (38 + d) 3 v2) (38 + d) 4 v3) (38 + d + 6) 60 0) 79 d (nI (50 + tn))) 80 d v3) := (((((ch.sI (Psh_a d6).1).tr (ch.sI (Psh_a d6).1)).tr (ch.sI (Psh_a d6).1)).tr (ch.flL (fun k _ => by rw [show 38 + d + 6 = 44 + d by omega]; exact (Psh_a d6).2))).tr (ch.sI rfl)).tr (ch.sI rfl)
          have c2 : ch Psh m m2 := c1.tr (x2.up (up_of fun o k q => by unfold P1 at q; simp at q; subst q; rfl))
          have r : ∀ o k, ¬ o = 81 → gI m2 o k = gI (sI (sI (flL (sI (sI (sI m (38 + d) 1 2) (38 + d) 3 v2) (38 + d) 4 v3) (38 + d + 6) 60 0) 79 d (nI (50 + tn))) 80 d v3) o k ∧ gL m2 o k = gL (sI (sI (flL (sI (sI (sI m (38 + d) 1 2) (38 + d) 3 v2) (38 + d) 4 v3) (38 + d + 6) 60 0) 79 d (nI (50 + tn))) 80 d v3) o k := fun o k q => by
            have := x2 o k (by unfold P1; simp [q])
            exact ⟨this.1, this.2.1⟩
          refine ⟨1, _, m2, rfl, x1', s, b, kn, n, t, lv, JA_sh J c2 ⟨J.1.2.2.2.1, fun d' hd' => ?_⟩⟩
          have eL : ∀ i, i < 60 → gL m2 (44 + d') i = if d' = d then 0 else gL m (44 + d') i := fun i hi => by
            rw [(r (44 + d') i (by omega)).2, gL_sI, gL_sI, gL_flL]
            by_cases e : d' = d
            · rw [if_pos (by omega), if_pos hi, if_pos e]
            · rw [if_neg (by omega), if_neg e]; rfl
          have e81 : ∀ i, i < 60 → gL m2 81 (60 * d' + i) = if d' = d then 0 else gL m 81 (60 * d' + i) := fun i hi => by
            rw [x3]
            by_cases e : d' = d
            · rw [if_pos (by omega), if_pos e]
            · rw [if_neg (by omega), if_neg e, gL_sI, gL_sI, gL_flL, if_neg (by omega)]; rfl
          by_cases e : d' = d
          · subst e
            have r1 : gI m2 (38 + d') 1 = 2 ∧ gI m2 (38 + d') 3 = v2 ∧ gI m2 (38 + d') 4 = v3 ∧ gI m2 79 d' = nI (50 + tn) ∧ gI m2 80 d' = v3 := by
              refine ⟨?_, ?_, ?_, ?_, ?_⟩
              · rw [(r _ _ (by omega)).1, gI_sI, if_neg (by omega), gI_sI, if_neg (by omega), gI_flL, gI_sI, if_neg (by omega), gI_sI, if_neg (by omega), gI_sI, if_pos ⟨rfl, rfl⟩]
              · rw [(r _ _ (by omega)).1, gI_sI, if_neg (by omega), gI_sI, if_neg (by omega), gI_flL, gI_sI, if_neg (by omega), gI_sI, if_pos ⟨rfl, rfl⟩]
              · rw [(r _ _ (by omega)).1, gI_sI, if_neg (by omega), gI_sI, if_neg (by omega), gI_flL, gI_sI, if_pos ⟨rfl, rfl⟩]
              · rw [(r _ _ (by omega)).1, gI_sI, if_neg (by omega), gI_sI, if_pos ⟨rfl, rfl⟩]
              · rw [(r _ _ (by omega)).1, gI_sI, if_pos ⟨rfl, rfl⟩]
            refine Or.inr (Or.inr ⟨r1.1, tn, ln, by omega, by omega, by rw [r1.2.1, et], r1.2.2.2.1, by rw [r1.2.2.1, el], by rw [r1.2.2.2.2, el], fun i hi => ?_, fun _ i hi => ?_⟩)
            · rw [eL i hi, e81 i hi, if_pos rfl, if_pos rfl]
            · rw [eL i hi, if_pos rfl]; decide
          · refine Jh1.ne (J.1.2.2.2.2 d' hd') (fun k => ?_) ?_ ?_ (fun i hi => by rw [eL i hi, if_neg e]) (fun i hi => by rw [e81 i hi, if_neg e])
            · rw [(r _ _ (by omega)).1, gI_sI, if_neg (by omega), gI_sI, if_neg (by omega), gI_flL, gI_sI, if_neg (by omega), gI_sI, if_neg (by omega), gI_sI, if_neg (by omega)]
            · rw [(r _ _ (by omega)).1, gI_sI, if_neg (by omega), gI_sI, if_neg (by omega), gI_flL, gI_sI, if_neg (by omega), gI_sI, if_neg (by omega), gI_sI, if_neg (by omega)]
            · rw [(r _ _ (by omega)).1, gI_sI, if_neg (by omega), gI_sI, if_neg (by omega), gI_flL, gI_sI, if_neg (by omega), gI_sI, if_neg (by omega), gI_sI, if_neg (by omega)]
        · simp only [if_neg h4]
          exact ⟨-14, m, m, rfl, rfl, _, _, _, _, _, _, J⟩
      · simp only [if_neg h3]
        exact ⟨-1, m, m, rfl, rfl, _, _, _, _, _, _, J⟩
    · simp only [if_pos (show ¬ (0 ≤ v2.toInt ∧ v2.toInt ≤ 4) from h2)]
      refine ⟨-1, m, m, ?_, rfl, _, _, _, _, _, _, J⟩
      unfold DX9_row_22
      repeat' split
      all_goals first | rfl | (exfalso; omega)
  · simp only [if_pos (show ¬ (0 ≤ v1.toInt ∧ v1.toInt < 6) from h)]
    exact ⟨-1, m, m, rfl, rfl, _, _, _, _, _, _, J⟩
/-- why an element can't be had -/
def plS (m : Mm) (v1 v2 : Int32) : Int32 := if okD v1 then (if gI m (38 + dN v1) 1 = 0 then -11 else if gI m (38 + dN v1) 1 = 2 then (if 0 ≤ v2.toInt ∧ v2.toInt < (gI m (38 + dN v1) 4).toInt then 0 else -13) else -12) else -1
theorem placeRefusal_x (H : Jh m kn) : dX9_placeRefusal v1 v2 m = some (plS m v1 v2, m) := by
  unfold dX9_placeRefusal plS
  rw [isShelf_x, Option.bind_some]
  simp only [b01_0]
  by_cases h : okD v1
  · rw [if_neg (fun q => q h), if_pos (okD_i h), if_pos h]
    simp only [clE h]
    obtain ⟨-, d6⟩ := d_n h
    by_cases h0 : gI m (38 + dN v1) 1 = 0
    · rw [if_pos h0, if_pos h0]
    · rw [if_neg h0, if_neg h0]
      by_cases h2 : gI m (38 + dN v1) 1 = 2
      · rcases H.2 (dN v1) d6 with ⟨j1, -⟩ | ⟨j1, -⟩ | ⟨j1, tn, ln, j2, j3, j4, j5, j6, -⟩
        · exact absurd j1 h0
        · rw [j1] at h2; exact absurd h2 (by decide)
        have el : (nI ln).toInt = ln := nI_toInt (by omega)
        rw [if_pos h2, if_pos h2, hasPlaces_x d6 j3 j6, Option.bind_some, j6, el]
        have e1 : (1 : Int32).toInt = 1 := rfl
        simp only [b01_0, e1]
        by_cases h3 : 0 ≤ v2.toInt ∧ v2.toInt < (ln : Int)
        · rw [if_neg (by omega), if_pos h3]
        · rw [if_pos (by omega), if_neg h3]
      · rw [if_neg h2, if_neg h2]
  · rw [if_pos h, if_neg h]
theorem refusal_m (H : Jh m kn) : dX10_refusal v1 v2 m = some (plS m v1 v2, m) := by
  have hk := H.1
  have z0 : (0 : Int32).toInt = 0 := rfl
  have z50 : (50 : Int32).toInt = 50 := rfl
  unfold dX10_refusal plS DX10_refusal_53
  rw [isShelf_m, Option.bind_some]
  simp only [b01_0, toI_lt, toI_le, z0, z50]
  by_cases h : okD v1
  · simp only [if_neg (show ¬ ¬ (0 ≤ v1.toInt ∧ v1.toInt < 6) from fun q => q h), if_pos (okD_i h), if_pos h, clE h]
    obtain ⟨-, d6⟩ := d_n h
    rcases H.2 (dN v1) d6 with ⟨j1, j2⟩ | ⟨j1, q, j2, j3, j4⟩ | ⟨j1, tn, ln, j2, j3, j4, j5, j6, j7, -⟩
    · rw [j1, j2, if_neg (by decide), if_pos rfl]
    · have eq : (nI q).toInt = q := nI_toInt (by omega)
      rw [j1, j4, eq, if_pos (by omega), if_neg (by omega), if_neg (by decide), if_neg (by decide)]
    · have eq : (nI (50 + tn)).toInt = (50 + tn : Nat) := nI_toInt (by omega)
      have el : (nI ln).toInt = ln := nI_toInt (by omega)
      rw [j1, j5, j6, j7, eq, el, if_pos (by omega), if_pos (by omega), if_neg (show ¬ (2 : Int32) = 0 by decide), if_pos rfl]
      by_cases h3 : 0 ≤ v2.toInt ∧ v2.toInt < (ln : Int)
      · rw [if_neg (by omega), if_neg (by omega), if_pos h3]
      · rw [if_neg h3]
        by_cases h4 : v2.toInt < 0
        · rw [if_pos h4]
        · rw [if_neg h4, if_pos (by omega)]
  · rw [if_pos h, if_neg h]
theorem plS_0 (H : Jh m kn) (h : plS m v1 v2 = 0) : okD v1 ∧ ∃ tn ln k : Nat, v2 = nI k ∧ k < ln ∧ tn < 5 ∧ ln ≤ 60 ∧ gI m (38 + dN v1) 1 = 2 ∧ gI m (38 + dN v1) 3 = nI tn ∧ gI m 79 (dN v1) = nI (50 + tn) ∧ gI m (38 + dN v1) 4 = nI ln ∧ gI m 80 (dN v1) = nI ln ∧ (∀ i, i < 60 → gL m 81 (60 * dN v1 + i) = gL m (44 + dN v1) i) ∧ (tn = 0 → ∀ i, i < 60 → -128 ≤ (gL m (44 + dN v1) i).toInt ∧ (gL m (44 + dN v1) i).toInt ≤ 127) := by
  unfold plS at h
  by_cases hd : okD v1
  · rw [if_pos hd] at h
    obtain ⟨-, d6⟩ := d_n hd
    rcases H.2 (dN v1) d6 with ⟨j1, j2⟩ | ⟨j1, q, j2, j3, j4⟩ | ⟨j1, tn, ln, j2, j3, j4, j5, j6, j7, j8, j9⟩
    · rw [if_pos j1] at h; exact absurd h (by decide)
    · rw [if_neg (by rw [j1]; decide), if_neg (by rw [j1]; decide)] at h; exact absurd h (by decide)
    · have el : (nI ln).toInt = ln := nI_toInt (by omega)
      rw [if_neg (by rw [j1]; decide), if_pos j1, j6, el] at h
      by_cases h3 : 0 ≤ v2.toInt ∧ v2.toInt < (ln : Int)
      · exact ⟨hd, tn, ln, v2.toInt.toNat, nI_of_toInt (by omega), by omega, j2, j3, j1, j4, j5, j6, j7, j8, j9⟩
      · rw [if_neg h3] at h; exact absurd h (by decide)
  · rw [if_neg hd] at h; exact absurd h (by decide)
theorem element_j (J : JA m s b kn n t lv) : Ans (dX9_element v1 v2) (dX10_element v1 v2) m := by
  have H := J.1.2.2.2
  unfold Ans dX9_element dX10_element
  rw [placeRefusal_x H, Option.bind_some]
  by_cases h : plS m v1 v2 = 0
  · obtain ⟨hd, tn, ln, k, e2, hk, -, hl, -, -, -, -, -, j8, -⟩ := plS_0 H h
    obtain ⟨e1, d6⟩ := d_n hd
    have ep : 60 * v1 + v2 = nI (60 * dN v1 + k) := by rw [e2, ← nI_add, ← m60 d6, ← e1]
    have hi : inB (60 * v1 + v2) 360 := by rw [ep]; exact inB_nI (by omega) (by omega)
    have hi2 : inB v2 60 := by rw [e2]; exact inB_nI (by omega) (by omega)
    have hc : (60 * v1 + v2).toNatClampNeg = 60 * dN v1 + k := by rw [ep]; exact nI_clamp (by omega)
    have hc2 : v2.toNatClampNeg = k := by rw [e2]; exact nI_clamp (by omega)
    refine ⟨gL m (44 + dN v1) k, m, m, ?_, ?_, _, _, _, _, _, _, J⟩
    · simp only [h, if_pos (okD_i hd), if_pos hi2, clE hd, hc2, if_true]
      rw [show 38 + dN v1 + 6 = 44 + dN v1 by omega]
    · rw [refusal_m H, Option.bind_some]
      simp only [h, if_pos hi, hc, if_true]
      rw [j8 k (by omega)]
  · refine ⟨-9223372036854775808, m, m, by simp only [if_neg h], ?_, _, _, _, _, _, _, J⟩
    rw [refusal_m H, Option.bind_some]
    simp only [if_neg h]
def fitS (tn : Nat) (v : Int64) : Int64 := if tn = 0 then Int32.toInt64 (iB (Int64.toInt32 v)) else if tn = 1 then Int32.toInt64 (iS (Int64.toInt32 v)) else if tn = 2 then Int32.toInt64 (Int64.toInt32 v) else if tn = 4 then (if v = 0 then 0 else 1) else v
theorem fitted_x {d tn : Nat} {v : Int64} (hd : d < 6) (ht : tn < 5) (h : gI m (38 + d) 3 = nI tn) : dX8_fitted (38 + d) v m = some (fitS tn v, m) := by
  unfold dX8_fitted fitS DX8_fitted_66
  rw [if_pos (pSh (shO hd)), h]
  have : tn = 0 ∨ tn = 1 ∨ tn = 2 ∨ tn = 3 ∨ tn = 4 := by omega
  rcases this with rfl | rfl | rfl | rfl | rfl
  · rw [if_pos (by decide), if_pos rfl]
  · rw [if_neg (by decide), if_pos (by decide), if_neg (by decide), if_pos rfl]
  · rw [if_neg (by decide), if_neg (by decide), if_pos (by decide), if_neg (by decide), if_neg (by decide), if_pos rfl]
  · rw [if_neg (by decide), if_neg (by decide), if_neg (by decide), if_pos (by decide), if_neg (by decide), if_neg (by decide), if_neg (by decide), if_neg (by decide)]
  · by_cases hv : v = 0
    · subst hv; rfl
    · rw [if_neg hv, if_neg hv]; rfl
theorem asSort_m {tn : Nat} {v : Int64} (ht : tn < 5) : dX10_asSort (nI (50 + tn) - 50) v m = some (fitS tn v, m) := by
  unfold dX10_asSort fitS
  have : tn = 0 ∨ tn = 1 ∨ tn = 2 ∨ tn = 3 ∨ tn = 4 := by omega
  rcases this with rfl | rfl | rfl | rfl | rfl
  · rw [if_pos (by decide), if_pos rfl]
  · rw [if_neg (by decide), if_pos (by decide), if_neg (by decide), if_pos rfl]
  · rw [if_neg (by decide), if_neg (by decide), if_pos (by decide), if_neg (by decide), if_neg (by decide), if_pos rfl]
  · rw [if_neg (by decide), if_neg (by decide), if_neg (by decide), if_neg (by decide), if_neg (by decide), if_neg (by decide), if_neg (by decide), if_neg (by decide)]
  · by_cases hv : v = 0
    · subst hv; rfl
    · rw [if_neg hv, if_neg hv]; rfl
theorem fit_b {v : Int64} : -128 ≤ (fitS 0 v).toInt ∧ (fitS 0 v).toInt ≤ 127 := by
  unfold fitS iB
  rw [if_pos rfl, Int32.toInt_toInt64, Int8.toInt_toInt32]
  have h1 := Int8.le_toInt (v.toInt32.toInt8)
  have h2 := Int8.toInt_lt (v.toInt32.toInt8)
  omega
theorem put_j {w : Int64} (J : JA m s b kn n t lv) : Ans (dX9_put v1 v2 w) (dX10_put v1 v2 w) m := by
  have H := J.1.2.2.2
  unfold Ans dX9_put dX10_put
  rw [placeRefusal_x H, Option.bind_some]
  by_cases h : plS m v1 v2 = 0
  · obtain ⟨hd, tn, ln, k, e2, hk, ht, hl, j1, j4, j5, j6, j7, j8, j9⟩ := plS_0 H h
    obtain ⟨e1, d6⟩ := d_n hd
    have ep : 60 * v1 + v2 = nI (60 * dN v1 + k) := by rw [e2, ← nI_add, ← m60 d6, ← e1]
    have hi : inB (60 * v1 + v2) 360 := by rw [ep]; exact inB_nI (by omega) (by omega)
    have hi2 : inB v2 60 := by rw [e2]; exact inB_nI (by omega) (by omega)
    have hc : (60 * v1 + v2).toNatClampNeg = 60 * dN v1 + k := by rw [ep]; exact nI_clamp (by omega)
    have hc2 : v2.toNatClampNeg = k := by rw [e2]; exact nI_clamp (by omega)
    have ek : v2.toInt = k := by rw [e2]; exact nI_toInt (by omega)
    have z1 : (1 : Int32).toInt = 1 := rfl
    have hs : dX8_set (38 + dN v1) v2 w m = some ((), sL m (44 + dN v1) k (fitS tn w)) := by
      unfold dX8_set
      rw [if_pos (pSh (shO d6)), hasPlaces_x d6 hl j6, Option.bind_some]
      simp only [b01_0]
      rw [if_neg (by omega), fitted_x d6 ht j4, Option.bind_some]
      simp only [if_pos hi2, hc2]
      rw [show 38 + dN v1 + 6 = 44 + dN v1 by omega]
    simp only [h, if_pos (okD_i hd), clE hd, hs, Option.bind_some, if_true]
    have c1 : ch Psh m (sL m (44 + dN v1) k (fitS tn w)) := ch.sL (Psh_a d6).2
    have H1 : ∀ x, plS (sL m (44 + dN v1) k x) v1 v2 = plS m v1 v2 := fun x => rfl
    have c2 : ch Psh m (sL (sL m (44 + dN v1) k (fitS tn w)) 81 (60 * dN v1 + k) (fitS tn w)) := c1.tr (ch.sL rfl)
    have HN : Jh (sL (sL m (44 + dN v1) k (fitS tn w)) 81 (60 * dN v1 + k) (fitS tn w)) kn := by
      refine ⟨H.1, fun d' hd' => ?_⟩
      by_cases e : d' = dN v1
      · subst e
        refine Or.inr (Or.inr ⟨j1, tn, ln, ht, hl, j4, j5, j6, j7, fun i hi => ?_, fun q i hi => ?_⟩)
        · rw [gL_sL, gL_sL, gL_sL, gL_sL]
          by_cases ei : i = k
          · subst ei
            rw [if_pos ⟨rfl, rfl⟩, if_neg (by omega), if_pos ⟨rfl, rfl⟩]
          · rw [if_neg (by omega), if_neg (by omega), if_neg (by omega), if_neg (by omega)]; exact j8 i hi
        · rw [gL_sL, gL_sL]
          by_cases ei : i = k
          · subst ei; subst q
            rw [if_neg (by omega), if_pos ⟨rfl, rfl⟩]; exact fit_b
          · rw [if_neg (by omega), if_neg (by omega)]; exact j9 q i hi
      · exact Jh1.ne (H.2 d' hd') (fun _ => rfl) rfl rfl (fun i hi => by rw [gL_sL, if_neg (by omega), gL_sL, if_neg (by omega)]) (fun i hi => by rw [gL_sL, if_neg (by omega), gL_sL, if_neg (by omega)])
    have e10 : ∀ m1 : Mm, m1 = sL m (44 + dN v1) k (fitS tn w) → dX10_refusal v1 v2 m1 = some (0, m1) := by
      intro m1 em
      subst em
      have q1 : (0 : Int32) ≤ nI (50 + tn) := nI_pos' (by omega)
      have q2 : (50 : Int32) ≤ nI (50 + tn) := nI_le (a := 50) (by omega) (by omega)
      have q3 : ¬ v2 < 0 := by rw [e2]; exact nI_pos (by omega)
      have q4 : ¬ nI ln ≤ v2 := by rw [e2]; exact nI_ge hk (by omega)
      unfold dX10_refusal DX10_refusal_53
      rw [isShelf_m, Option.bind_some]
      simp only [b01_t (show 0 ≤ v1.toInt ∧ v1.toInt < 6 from hd), if_neg (show ¬ (1 : Int32) = 0 by decide), if_pos (okD_i hd), clE hd, gI_sL, j5, j7, if_pos q1, if_pos q2, if_neg q3, if_neg q4]
    refine ⟨1, sL m (44 + dN v1) k (fitS tn w), _, rfl, ?_, s, b, kn, n, t, lv, JA_sh J c2 HN⟩
    rw [e10 _ rfl, Option.bind_some]
    simp only [if_pos (okD_i hd), clE hd, gI_sL, j5, asSort_m ht, Option.bind_some, if_pos hi, hc, if_true]
    unfold DX10_put_37
    rw [if_pos rfl]
  · refine ⟨plS m v1 v2, m, m, by simp only [if_neg h], ?_, _, _, _, _, _, _, J⟩
    rw [refusal_m H, Option.bind_some]
    simp only [if_neg h]
    unfold DX10_put_37
    rw [if_neg h]
end ROWS
