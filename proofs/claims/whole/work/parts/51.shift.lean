/-! ===== shift, taken: alike on both sides ===== -/
section SHIFT
variable {m : Mm} {s b kn n : Nat} {t : Nat → Nat} {lv : Option LF} {v1 v2 v3 v4 v5 : Int32}
theorem shift_2 {e j w : Nat} (he : e < 6) (hj : j + w ≤ 60) : ∀ (N k : Nat) (m : Mm), k ≤ w → w < k + N → ∃ m2, DX10_shift_150 N (nI e) (nI j) (nI w) (nI k) m = some (nI w, m2) ∧ ch (P1 81) m m2 ∧ ∀ q, gL m2 81 q = if 60 * e + j + k ≤ q ∧ q < 60 * e + j + w then gL m 82 (q - (60 * e + j)) else gL m 81 q := by
  intro N
  induction N with
  | zero => intro k m h1 h2; omega
  | succ N ih =>
    intro k m h1 h2
    show ∃ m2, BX10_shift_150 (DX10_shift_150 N) (nI e) (nI j) (nI w) (nI k) m = some (nI w, m2) ∧ _
    unfold BX10_shift_150
    rw [m60 he, nI_add, nI_add]
    by_cases h : k = w
    · subst h
      rw [if_pos (Int32.le_refl _)]
      exact ⟨m, rfl, ch.rf, fun q => by rw [if_neg (by omega)]⟩
    · rw [if_neg (nI_ge (by omega) (by omega)), if_pos (inB_nI (by omega) (by omega)), if_pos (inB_nI (by omega) (by omega)), nI_1, nI_clamp (by omega), nI_clamp (by omega)]
      obtain ⟨m2, x1, x2, x3⟩ := ih (k + 1) (sL m 81 (60 * e + j + k) (gL m 82 k)) (by omega) (by omega)
      refine ⟨m2, x1, (ch.sL (by unfold P1; simp)).tr x2, fun q => ?_⟩
      have u82 : ∀ x, gL (sL m 81 (60 * e + j + k) (gL m 82 k)) 82 x = gL m 82 x := fun x => by rw [gL_sL, if_neg (by omega)]
      rw [x3 q, u82, gL_sL]
      by_cases hq : q = 60 * e + j + k
      · subst hq
        rw [if_neg (by omega), if_pos ⟨rfl, rfl⟩, if_pos (by omega), show 60 * e + j + k - (60 * e + j) = k by omega]
      · rw [if_neg (show ¬ (81 = 81 ∧ q = 60 * e + j + k) from fun z => hq z.2)]
        by_cases h5 : 60 * e + j + k ≤ q ∧ q < 60 * e + j + w
        · rw [if_pos (by omega), if_pos h5]
        · rw [if_neg (by omega), if_neg h5]
theorem shift_1 {d i w : Nat} (hd : d < 6) (hi : i + w ≤ 60) : ∀ (N k : Nat) (m : Mm), k ≤ w → w < k + N → ∃ m1, DX10_shift_113 N (nI d) (nI i) v3 v4 (nI w) (nI k) m = DX10_shift_150 FU v3 v4 (nI w) 0 m1 ∧ ch (P1 82) m m1 ∧ ∀ q, q < w → gL m1 82 q = if k ≤ q then gL m 81 (60 * d + i + q) else gL m 82 q := by
  intro N
  induction N with
  | zero => intro k m h1 h2; omega
  | succ N ih =>
    intro k m h1 h2
    show ∃ m2, BX10_shift_113 (DX10_shift_113 N) (nI d) (nI i) v3 v4 (nI w) (nI k) m = _ ∧ _
    unfold BX10_shift_113
    rw [m60 hd, nI_add, nI_add]
    by_cases h : k = w
    · subst h
      rw [if_pos (Int32.le_refl _)]
      exact ⟨m, rfl, ch.rf, fun q hq => by rw [if_neg (by omega)]⟩
    · rw [if_neg (nI_ge (by omega) (by omega)), if_pos (inB_nI (by omega) (by omega)), if_pos (inB_nI (by omega) (by omega)), nI_1, nI_clamp (by omega), nI_clamp (by omega)]
      obtain ⟨m2, x1, x2, x3⟩ := ih (k + 1) (sL m 82 k (gL m 81 (60 * d + i + k))) (by omega) (by omega)
      refine ⟨m2, x1, (ch.sL (by unfold P1; simp)).tr x2, fun q hq => ?_⟩
      rw [x3 q hq, gL_sL, gL_sL, if_neg (show ¬ (81 = 82 ∧ _) by omega)]
      by_cases hk : q = k
      · subst hk
        rw [if_neg (by omega), if_pos ⟨rfl, rfl⟩, if_pos (by omega)]
      · rw [if_neg (show ¬ (82 = 82 ∧ q = k) from fun z => hk z.2)]
        by_cases h5 : k ≤ q
        · rw [if_pos (by omega), if_pos h5]
        · rw [if_neg (by omega), if_neg h5]
theorem shift_j (J : JA m s b kn n t lv) : Ans (dX9_shift v1 v2 v3 v4 v5) (dX10_shift v1 v2 v3 v4 v5) m := by
  have H := J.1.2.2.2
  have hk := H.1
  have z0 : (0 : Int32).toInt = 0 := rfl
  unfold Ans dX9_shift dX10_shift
  simp only [isShelf_x, isShelf_m, Option.bind_some, b01_0]
  by_cases h1 : okD v1
  · by_cases h3 : okD v3
    · simp only [if_neg (show ¬ ¬ (0 ≤ v1.toInt ∧ v1.toInt < 6) from fun q => q h1), if_neg (show ¬ ¬ (0 ≤ v3.toInt ∧ v3.toInt < 6) from fun q => q h3), if_pos (okD_i h1), if_pos (okD_i h3), clE h1, clE h3]
      obtain ⟨e1, d6⟩ := d_n h1
      obtain ⟨e3, e6⟩ := d_n h3
      generalize hdd : dN v1 = d at d6
      generalize hee : dN v3 = e at e6
      rw [hdd] at e1
      rw [hee] at e3
      unfold DX9_shift_48 DX9_shift_82 DX9_shift_108 DX10_shift_34 DX10_shift_63 DX10_shift_107
      have a0 : ¬ (1 : Int32) = 0 := by decide
      have a2 : ¬ (2 : Int32) = 0 := by decide
      have a3 : ¬ (1 : Int32) = 2 := by decide
      rcases H.2 d d6 with ⟨j1, j2⟩ | ⟨j1, q, j2, j3, j4⟩ | ⟨j1, tn, ln, j2, j3, j4, j5, j6, j7, j8, j9⟩
      · refine ⟨-11, m, m, by simp only [j1, if_true], ?_, _, _, _, _, _, _, J⟩
        rw [j2, if_pos (by decide)]
      · have q0 : ¬ nI q < 0 := nI_pos (by omega)
        have q5 : nI q < 50 := nI_lt (b := 50) (by omega) (by omega)
        rcases H.2 e e6 with ⟨i1, i2⟩ | ⟨i1, p, i2, i3, i4⟩ | ⟨i1, tn2, ln2, i2, i3, i4, i5, -⟩
        · refine ⟨-11, m, m, by simp only [j1, i1, if_neg a0, if_true], ?_, _, _, _, _, _, _, J⟩
          simp only [j4, i2, if_neg q0]
          rw [if_neg (by decide)]
        · have p0 : 0 ≤ nI p := nI_pos' (by omega)
          refine ⟨-12, m, m, by simp only [j1, i1, if_neg a0, if_neg a3], ?_, _, _, _, _, _, _, J⟩
          simp only [j4, i4, if_neg q0, if_pos p0, if_pos q5]
        · have p0 : 0 ≤ nI (50 + tn2) := nI_pos' (by omega)
          refine ⟨-12, m, m, by simp only [j1, i1, if_neg a0, if_neg a2, if_neg a3], ?_, _, _, _, _, _, _, J⟩
          simp only [j4, i5, if_neg q0, if_pos p0, if_pos q5]
      · have q0 : ¬ nI (50 + tn) < 0 := nI_pos (by omega)
        have q5 : ¬ nI (50 + tn) < 50 := nI_nlt (b := 50) (by omega) (by omega)
        rcases H.2 e e6 with ⟨i1, i2⟩ | ⟨i1, p, i2, i3, i4⟩ | ⟨i1, tn2, ln2, i2, i3, i4, i5, i6, i7, i8, i9⟩
        · refine ⟨-11, m, m, by simp only [j1, i1, if_neg a2, if_true], ?_, _, _, _, _, _, _, J⟩
          simp only [j5, i2, if_neg q0]
          rw [if_neg (by decide)]
        · have p0 : 0 ≤ nI p := nI_pos' (by omega)
          have pn : ¬ nI (50 + tn) = nI p := fun z => by have := (nI_eq (by omega) (by omega)).mp z; omega
          refine ⟨-12, m, m, by simp only [j1, i1, if_neg a2, if_neg a0, if_neg a3, if_true], ?_, _, _, _, _, _, _, J⟩
          simp only [j5, i4, if_neg q0, if_pos p0, if_neg q5, if_neg pn]
        · have p0 : 0 ≤ nI (50 + tn2) := nI_pos' (by omega)
          by_cases ht : tn = tn2
          · subst ht
            have el : (nI ln).toInt = ln := nI_toInt (by omega)
            have el2 : (nI ln2).toInt = ln2 := nI_toInt (by omega)
            have hp1 := hasPlaces_x (mm := m) (i := v2) (w := v5) d6 j3 j6
            have hp2 := hasPlaces_x (mm := m) (i := v4) (w := v5) e6 i3 i6
            simp only [j1, i1, j4, i4, j5, i5, if_neg a2, if_neg q0, if_neg q5, if_pos p0, if_true, hp1, hp2, Option.bind_some, b01_0, j7, i7]
            by_cases hw : 0 ≤ v2.toInt ∧ 0 ≤ v4.toInt ∧ 0 ≤ v5.toInt ∧ v2.toInt + v5.toInt ≤ ln ∧ v4.toInt + v5.toInt ≤ ln2
            · obtain ⟨i, hi⟩ : ∃ q : Nat, v2.toInt = q := ⟨v2.toInt.toNat, by omega⟩
              obtain ⟨j, hj⟩ : ∃ q : Nat, v4.toInt = q := ⟨v4.toInt.toNat, by omega⟩
              obtain ⟨w, hwn⟩ : ∃ q : Nat, v5.toInt = q := ⟨v5.toInt.toNat, by omega⟩
              have f2 := nI_of_toInt hi
              have f4 := nI_of_toInt hj
              have f5 := nI_of_toInt hwn
              rw [hi, hj, hwn]
              simp only [if_neg (show ¬ ¬ (0 ≤ (i : Int) ∧ 0 ≤ (w : Int) ∧ (w : Int) ≤ ln ∧ (i : Int) ≤ ln - w) by omega), if_neg (show ¬ ¬ (0 ≤ (j : Int) ∧ 0 ≤ (w : Int) ∧ (w : Int) ≤ ln2 ∧ (j : Int) ≤ ln2 - w) by omega)]
              have b1 : ¬ v5 < 0 := by rw [toI_lt, z0]; omega
              have b2 : ¬ v2 < 0 := by rw [toI_lt, z0]; omega
              have b3 : ¬ v4 < 0 := by rw [toI_lt, z0]; omega
              have b4 : ¬ nI ln - v5 < v2 := by rw [toI_lt, iSub (by omega) (by omega), el]; omega
              have b5 : v4 ≤ nI ln2 - v5 := by rw [toI_le, iSub (by omega) (by omega), el2]; omega
              have c2 : v2.toNatClampNeg = i := by rw [f2]; exact nI_clamp (by omega)
              have c4 : v4.toNatClampNeg = j := by rw [f4]; exact nI_clamp (by omega)
              have c5 : v5.toNatClampNeg = w := by rw [f5]; exact nI_clamp (by omega)
              have cp : cpOk v2 v4 v5 60 60 := by
                refine ⟨b2, b3, b1, ?_, ?_⟩
                · rw [c2, c5]; omega
                · rw [c4, c5]; omega
              have hm1 : ∀ m1, m1 = cpL m (38 + d + 6) (38 + e + 6) v2 v4 v5 → (∀ o k, gI m1 o k = gI m o k) ∧ (∀ o k, gL m1 o k = if o = 44 + e ∧ j ≤ k ∧ k < j + w then gL m (44 + d) (i + (k - j)) else gL m o k) ∧ ch Psh m m1 := by
                intro m1 em
                subst em
                have eL : ∀ o k, gL (cpL m (38 + d + 6) (38 + e + 6) v2 v4 v5) o k = if o = 44 + e ∧ j ≤ k ∧ k < j + w then gL m (44 + d) (i + (k - j)) else gL m o k := by
                  intro o k
                  rw [gL_cpL, c2, c4, c5, show 38 + e + 6 = 44 + e by omega, show 38 + d + 6 = 44 + d by omega]
                  by_cases ho : o = 44 + e
                  · subst ho
                    rw [if_pos rfl]
                    by_cases hq : j ≤ k ∧ k < j + w
                    · rw [pk_cpy_in hq.1 hq.2, if_pos ⟨rfl, hq⟩]
                    · rw [pk_cpy_out (by omega), if_neg (fun z => hq z.2)]
                  · rw [if_neg ho, if_neg (fun z => ho z.1)]
                refine ⟨fun o k => rfl, eL, fun o k hP => ⟨rfl, ?_, rfl⟩⟩
                rw [eL, if_neg]
                intro z
                rw [z.1, (Psh_a e6).2] at hP
                cases hP
              obtain ⟨g1, g2, g3⟩ := hm1 _ rfl
              refine ⟨v5, cpL m (38 + d + 6) (38 + e + 6) v2 v4 v5, ?_⟩
              generalize cpL m (38 + d + 6) (38 + e + 6) v2 v4 v5 = m1 at g1 g2 g3
              obtain ⟨m3, y1, y2, y3⟩ := shift_1 (v3 := v3) (v4 := v4) d6 (show i + w ≤ 60 by omega) FU 0 m1 (by omega) (by unfold FU; omega)
              obtain ⟨m4, w1, w2, w3⟩ := shift_2 e6 (show j + w ≤ 60 by omega) FU 0 m3 (by omega) (by unfold FU; omega)
              have run : DX10_shift_113 FU v1 v2 v3 v4 v5 0 m1 = some (v5, m4) := by
                rw [nI_0, ← f4, ← f5, ← e3] at w1
                rw [nI_0, ← f2, ← f5, ← e1, w1] at y1
                exact y1
              have c4' : ch Psh m m4 := (g3.tr (y2.up (up_of fun o k q => by unfold P1 at q; simp at q; subst q; rfl))).tr (w2.up (up_of fun o k q => by unfold P1 at q; simp at q; subst q; rfl))
              have gI4 : ∀ o k, ¬ o = 81 → ¬ o = 82 → gI m4 o k = gI m o k ∧ gL m4 o k = gL m1 o k := fun o k q1 q2 => by
                have u1 := w2 o k (by unfold P1; simp [q1])
                have u2 := y2 o k (by unfold P1; simp [q2])
                exact ⟨u1.1.trans (u2.1.trans (g1 o k)), u1.2.1.trans u2.2.1⟩
              have L81 : ∀ q, gL m4 81 q = if 60 * e + j ≤ q ∧ q < 60 * e + j + w then gL m 81 (60 * d + i + (q - (60 * e + j))) else gL m 81 q := by
                intro q
                rw [w3 q]
                have u : ∀ x, gL m3 81 x = gL m 81 x := fun x => by
                  rw [y2.L (by unfold P1; rfl), g2, if_neg (by omega)]
                by_cases hq : 60 * e + j ≤ q ∧ q < 60 * e + j + w
                · rw [if_pos (by omega), if_pos hq, y3 _ (by omega), if_pos (by omega), g2, if_neg (by omega)]
                · rw [if_neg (by omega), if_neg hq, u]
              refine ⟨m4, ?_, ?_, s, b, kn, n, t, lv, JA_sh J c4' ⟨hk, fun d' hd' => ?_⟩⟩
              · rw [if_pos cp]
              · simp only [g1, j5, i5, if_neg q0, if_pos p0, if_neg q5, if_true, if_neg b1, if_neg b2, if_neg b3, j7, i7, if_neg b4, if_pos b5]
                exact run
              · by_cases ed : d' = e
                · subst ed
                  have gg : ∀ k, gI m4 (38 + d') k = gI m (38 + d') k := fun k => (gI4 _ _ (by omega) (by omega)).1
                  refine Or.inr (Or.inr ⟨by rw [gg]; exact i1, tn, ln2, i2, i3, by rw [gg]; exact i4, by rw [(gI4 _ _ (by omega) (by omega)).1]; exact i5, by rw [gg]; exact i6, by rw [(gI4 _ _ (by omega) (by omega)).1]; exact i7, fun p hp => ?_, fun z p hp => ?_⟩)
                  · rw [L81, (gI4 _ _ (by omega) (by omega)).2, g2]
                    by_cases hq : j ≤ p ∧ p < j + w
                    · rw [if_pos (by omega), if_pos ⟨rfl, hq⟩, show 60 * d + i + (60 * d' + p - (60 * d' + j)) = 60 * d + (i + (p - j)) by omega]
                      exact j8 _ (by omega)
                    · rw [if_neg (by omega), if_neg (fun z => hq z.2)]; exact i8 p hp
                  · rw [(gI4 _ _ (by omega) (by omega)).2, g2]
                    by_cases hq : j ≤ p ∧ p < j + w
                    · rw [if_pos ⟨rfl, hq⟩]; exact j9 z _ (by omega)
                    · rw [if_neg (fun z => hq z.2)]; exact i9 z p hp
                · refine Jh1.ne (H.2 d' hd') (fun k => (gI4 _ _ (by omega) (by omega)).1) (gI4 _ _ (by omega) (by omega)).1 (gI4 _ _ (by omega) (by omega)).1 (fun p hp => ?_) (fun p hp => ?_)
                  · rw [(gI4 _ _ (by omega) (by omega)).2, g2, if_neg (by omega)]
                  · rw [L81, if_neg (by omega)]
            · refine ⟨-13, m, m, ?_, ?_, _, _, _, _, _, _, J⟩
              · by_cases u1 : 0 ≤ v2.toInt ∧ 0 ≤ v5.toInt ∧ v5.toInt ≤ ln ∧ v2.toInt ≤ ln - v5.toInt
                · rw [if_neg (fun q => q u1), if_pos (by omega)]
                · rw [if_pos u1]
              · simp only [j5, i5, j7, i7, if_neg q0, if_pos p0, if_neg q5, if_true]
                by_cases u1 : v5.toInt < 0
                · rw [if_pos (by rw [toI_lt, z0]; exact u1)]
                · rw [if_neg (by rw [toI_lt, z0]; exact u1)]
                  by_cases u2 : v2.toInt < 0
                  · rw [if_pos (by rw [toI_lt, z0]; exact u2)]
                  · rw [if_neg (by rw [toI_lt, z0]; exact u2)]
                    by_cases u3 : v4.toInt < 0
                    · rw [if_pos (by rw [toI_lt, z0]; exact u3)]
                    · have hv5 := v5.toInt_lt
                      have t1 : (nI ln - v5).toInt = ln - v5.toInt := by rw [iSub (by omega) (by omega), el]
                      have t2 : (nI ln2 - v5).toInt = ln2 - v5.toInt := by rw [iSub (by omega) (by omega), el2]
                      rw [if_neg (by rw [toI_lt, z0]; exact u3)]
                      by_cases u4 : ln - v5.toInt < v2.toInt
                      · rw [if_pos (by rw [toI_lt, t1]; exact u4)]
                      · rw [if_neg (by rw [toI_lt, t1]; exact u4), if_neg (by rw [toI_le, t2]; omega)]
          · have pn : ¬ nI (50 + tn) = nI (50 + tn2) := fun z => ht (by have := (nI_eq (by omega) (by omega)).mp z; omega)
            have pn2 : ¬ nI tn = nI tn2 := fun z => ht (by have := (nI_eq (by omega) (by omega)).mp z; omega)
            refine ⟨-12, m, m, by simp only [j1, i1, if_neg a2, if_true, j4, i4, if_neg pn2], ?_, _, _, _, _, _, _, J⟩
            simp only [j5, i5, if_neg q0, if_pos p0, if_neg q5, if_neg pn]
    · simp only [if_neg (show ¬ ¬ (0 ≤ v1.toInt ∧ v1.toInt < 6) from fun q => q h1), if_pos (show ¬ (0 ≤ v3.toInt ∧ v3.toInt < 6) from h3)]
      exact ⟨-1, m, m, rfl, rfl, _, _, _, _, _, _, J⟩
  · simp only [if_pos (show ¬ (0 ≤ v1.toInt ∧ v1.toInt < 6) from h1)]
    exact ⟨-1, m, m, rfl, rfl, _, _, _, _, _, _, J⟩
end SHIFT
/-! ===== taken ===== -/
section TAKEN
variable {m : Mm} {s b kn n : Nat} {t : Nat → Nat} {lv : Option LF} {v1 v2 : Int32}
def upK : Nat → Nat → List Nat
  | 0, _ => []
  | n + 1, k => k :: (if k = 0 then [] else upK n (if k = 3 then 2 else if k = 4 then 1 else if k = 5 then 3 else if k = 7 then 4 else 0))
def undS (q k : Nat) : Bool := (upK 8 q).contains k
theorem under_x {q k : Nat} (hq : q < 8) (hk : k < 8) : DX4_isUnder_9 FU (nI k) (nI q) 0 m = some (if undS q k then 1 else 0, m) := by
  have h1 : q = 0 ∨ q = 1 ∨ q = 2 ∨ q = 3 ∨ q = 4 ∨ q = 5 ∨ q = 6 ∨ q = 7 := by omega
  have h2 : k = 0 ∨ k = 1 ∨ k = 2 ∨ k = 3 ∨ k = 4 ∨ k = 5 ∨ k = 6 ∨ k = 7 := by omega
  rcases h1 with rfl | rfl | rfl | rfl | rfl | rfl | rfl | rfl <;> rcases h2 with rfl | rfl | rfl | rfl | rfl | rfl | rfl | rfl <;> rfl
theorem under_m {q k : Nat} (hq : q < 8) (hk : k < 8) : DX10_taken_58 FU v1 (nI k) (nI q) m = if undS q k then (if inB v1 6 then ((dX10_kindOf (gI m 79 (Int32.toNatClampNeg v1)) m).bind fun q87 => some (q87.1, q87.2)) else none) else some (-12, m) := by
  have h1 : q = 0 ∨ q = 1 ∨ q = 2 ∨ q = 3 ∨ q = 4 ∨ q = 5 ∨ q = 6 ∨ q = 7 := by omega
  have h2 : k = 0 ∨ k = 1 ∨ k = 2 ∨ k = 3 ∨ k = 4 ∨ k = 5 ∨ k = 6 ∨ k = 7 := by omega
  rcases h1 with rfl | rfl | rfl | rfl | rfl | rfl | rfl | rfl <;> rcases h2 with rfl | rfl | rfl | rfl | rfl | rfl | rfl | rfl <;> rfl
theorem kindOf_x {q : Nat} (N : Jn m kn) (h : q < kn) : dX4_kindOf (nI q) m = some (gI m 35 q, m) := by
  have hk := N.1
  have eq : (nI q).toInt = q := nI_toInt (by omega)
  unfold dX4_kindOf
  rw [has_x N, Option.bind_some, b01_t (by rw [eq]; omega), if_neg (show ¬ (1 : Int32) = 0 by decide), if_pos (inB_nI (by omega) (by omega)), nI_clamp (by omega)]
theorem taken_j (J : JA m s b kn n t lv) : Ans (dX9_taken v1 v2) (dX10_taken v1 v2) m := by
  have H := J.1.2.2.2
  have N := J.2.2.2.2
  have hk := H.1
  have z0 : (0 : Int32).toInt = 0 := rfl
  have z8 : (8 : Int32).toInt = 8 := rfl
  have z50 : (50 : Int32).toInt = 50 := rfl
  have c0 : (0 : Int64).toInt = 0 := rfl
  have c7 : (7 : Int64).toInt = 7 := rfl
  unfold Ans dX9_taken dX10_taken
  simp only [isShelf_x, isShelf_m, within_m, i64, Option.bind_some, b01_0, toI_lt, z0, z8, c0, c7]
  by_cases h1 : okD v1
  · by_cases h2 : 0 ≤ v2.toInt ∧ v2.toInt ≤ 7
    · simp only [if_neg (show ¬ ¬ (0 ≤ v1.toInt ∧ v1.toInt < 6) from fun q => q h1), if_neg (show ¬ ¬ (0 ≤ v2.toInt ∧ v2.toInt ≤ 7) from fun q => q h2), if_neg (show ¬ v2.toInt < 0 by omega), if_pos (show v2.toInt < 8 by omega), if_pos (okD_i h1), clE h1]
      obtain ⟨e1, d6⟩ := d_n h1
      rcases H.2 (dN v1) d6 with ⟨j1, j2⟩ | ⟨j1, q, j2, j3, j4⟩ | ⟨j1, tn, ln, j2, j3, j4, j5, -⟩
      · refine ⟨-11, m, m, by rw [j1, if_pos rfl], ?_, _, _, _, _, _, _, J⟩
        rw [j2, if_neg (by decide)]
      · have eq : (nI q).toInt = q := nI_toInt (by omega)
        obtain ⟨x1, u, hu, x2⟩ := N.2.2.2.1 q j2
        obtain ⟨k, hkk⟩ : ∃ k : Nat, v2.toInt = k := ⟨v2.toInt.toNat, by omega⟩
        have ek := nI_of_toInt hkk
        have k10 : dX10_kindOf (nI q) m = some (nI u, m) := by
          unfold dX10_kindOf
          rw [if_pos (inB_nI (by omega) (by omega)), nI_clamp (by omega), x1, x2]
        have g0 : ¬ (1 : Int32) = 0 := by decide
        have L : DX9_taken_59 m = some (-12, m) := rfl
        have rr : dX10_kindOf (gI m 79 (dN v1)) m = some (nI u, m) := by rw [j4]; exact k10
        refine ⟨if undS u k then nI u else -12, m, m, ?_, ?_, _, _, _, _, _, _, J⟩
        · rw [j1, if_neg g0, if_pos rfl, j3]
          unfold dX4_isUnder
          rw [kindOf_x N j2, Option.bind_some, ek, x2]
          simp only [under_x hu (show k < 8 by omega), Option.bind_some]
          cases undS u k
          · simp only [Bool.false_eq_true, if_false]
            rw [if_pos trivial]; rfl
          · simp only [if_true]
            rw [if_neg g0, j3, kindOf_x N j2, Option.bind_some, x2]
        · rw [j4, eq, z50, if_pos (by rw [toI_le, eq, z0]; omega), if_pos (by omega), k10, Option.bind_some]
          simp only [ek, under_m hu (show k < 8 by omega), if_pos (okD_i h1), clE h1, rr, Option.bind_some]
          cases undS u k
          · simp only [Bool.false_eq_true, if_false]
          · simp only [if_true]
      · have eq : (nI (50 + tn)).toInt = (50 + tn : Nat) := nI_toInt (by omega)
        refine ⟨-12, m, m, by rw [j1, if_neg (by decide), if_neg (by decide)]; rfl, ?_, _, _, _, _, _, _, J⟩
        rw [j5, eq, z50, if_pos (by rw [toI_le, eq, z0]; omega), if_neg (by omega)]
    · refine ⟨-1, m, m, ?_, ?_, _, _, _, _, _, _, J⟩
      · simp only [if_neg (show ¬ ¬ (0 ≤ v1.toInt ∧ v1.toInt < 6) from fun q => q h1)]
        unfold DX9_taken_17
        by_cases h3 : v2.toInt < 0
        · rw [if_pos h3]
        · rw [if_neg h3, if_neg (by omega)]
      · simp only [if_neg (show ¬ ¬ (0 ≤ v1.toInt ∧ v1.toInt < 6) from fun q => q h1), if_pos (show ¬ (0 ≤ v2.toInt ∧ v2.toInt ≤ 7) from h2)]
        rfl
  · simp only [if_pos (show ¬ (0 ≤ v1.toInt ∧ v1.toInt < 6) from h1)]
    exact ⟨-1, m, m, rfl, rfl, _, _, _, _, _, _, J⟩
end TAKEN
