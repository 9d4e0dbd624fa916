/-! ===== beliefs: the reference's side ===== -/
theorem ltN {x : Int32} {n : Nat} (h : x.toInt = n) : x.toNatClampNeg = n := by rw [clampN, h]; exact Int.toNat_natCast n
theorem lMax_le {x y : Int64} : (if x ≤ y then y else x) = lMax y x := by
  unfold lMax
  simp only [toL_lt, toL_le]
  by_cases h1 : x.toInt < y.toInt
  · rw [if_pos h1, if_pos (by omega)]
  · rw [if_neg h1]
    by_cases h2 : x.toInt ≤ y.toInt
    · rw [if_pos h2]; exact Int64.toInt_inj.mp (by omega)
    · rw [if_neg h2]
section BELM
variable {mm : Mm} {s b : Nat} {lv : Option LF} {w : Nat → Int64}
theorem chance_m (J : Jt mm s b) {bn gn cn : Nat} {c d : Int32} {v : Int64} (hb : bn < b) (hg : gn < 6) (hc : cn < 3) (ec : c.toInt = cn) (ed : v.toInt = d.toInt) : dX10_chance (nI bn) (nI gn) c v mm = some ((seS (TT mm) bn gn cn d).toInt64, mm) := by
  have hb6 := J.1.b6
  have eb : (nI bn).toInt = bn := nI_toInt (by omega)
  have eg : (nI gn).toInt = gn := nI_toInt (by omega)
  have e1 : (56 + nI bn).toInt = (56 + bn : Nat) := by rw [iAdd (by rw [eb]; simp; omega) (by rw [eb]; simp; omega), eb]; simp
  have e2 : (6 * c).toInt = (6 * cn : Nat) := by rw [iMul (by rw [ec]; simp; omega) (by rw [ec]; simp; omega), ec]; simp
  have e3 : (6 + 6 * c).toInt = (6 + 6 * cn : Nat) := by rw [iAdd (by rw [e2]; simp; omega) (by rw [e2]; simp; omega), e2]; simp
  have e4 : (6 + 6 * c + nI gn).toInt = (6 + 6 * cn + gn : Nat) := by rw [iAdd (by rw [e3, eg]; omega) (by rw [e3, eg]; omega), e3, eg]; omega
  have r1 : gI mm 59 (56 + bn) = TT mm 8 bn := (J.2.2.2.2 bn hb).2.2.1
  have r2 : gI mm 59 (6 + 6 * cn + gn) = TT mm (1 + cn) gn := by
    have := (J.2.1 (1 + cn) gn (by omega) hg).1
    unfold TT
    rw [if_pos (by omega), ← this]
    congr 1
    omega
  unfold dX10_chance
  rw [if_pos (inB_iff.mpr (by rw [e1]; omega)), if_pos (inB_iff.mpr (by rw [e4]; omega))]
  simp only [ltN e1, ltN e4, r1, r2]
  unfold seS
  have e5 : ((TT mm (1 + cn) gn).toInt64 = v) = (TT mm (1 + cn) gn = d) := propext (by rw [toL_eq, i64, ed, toI_eq])
  simp only [e5]
  split <;> rfl
theorem weighs_0 (J : Jt mm s b) {kn : Nat} (hk : kn < s) {v1 v2 : Int32} : ∀ N i : Nat, i ≤ 6 → 6 < i + N → ∀ m1 : Mm, ch (P1 68) mm m1 → (∀ g, g < i → gL m1 68 g = if TT mm 10 kn = 1 then (if (TT mm 4 kn).toInt = g then 1 else 0) else 1) → ∃ m2, ch (P1 68) mm m2 ∧ WtAt 68 m2 (fun g => if TT mm 10 kn = 1 then (if (TT mm 4 kn).toInt = g then 1 else 0) else 1) ∧ DX10_weighs_3 N v1 v2 (nI kn) (nI i) m1 = (if v1 < 0 ∨ TT mm 10 kn = 1 then DX10_weighs_69 v1 v2 (nI kn) 0 m2 else DX10_weighs_69 v1 v2 (nI kn) 1 m2) := by
  have h3 := J.1.s10
  have hkk := J.2.2.1 kn hk
  have eo : gI mm 64 kn = TT mm 10 kn := hkk.2.2.2.1
  have ei : gI mm 59 (24 + kn) = TT mm 4 kn := hkk.1.1
  have ho : TT mm 10 kn = 0 ∨ TT mm 10 kn = 1 := hkk.2.2.2.2
  have e24 : (24 : Int32) + nI kn = nI (24 + kn) := by rw [show (24 : Int32) = nI 24 from rfl, nI_add]
  intro N
  induction N with
  | zero => intro i h2 h4; omega
  | succ N ih =>
    intro i h2 h4 m1 h5 h6
    show ∃ m2, _ ∧ _ ∧ BX10_weighs_3 (DX10_weighs_3 N) v1 v2 (nI kn) (nI i) m1 = _
    unfold BX10_weighs_3 DX10_weighs_68 DX10_weighs_39 DX10_weighs_44
    have e : (nI i).toInt = i := nI_toInt (by omega)
    have c5 := h5.up (P1_Sc (a := 68) (by omega))
    have eo1 : gI m1 64 kn = TT mm 10 kn := by rw [c5.I rfl]; exact eo
    have ei1 : gI m1 59 (24 + kn) = TT mm 4 kn := by rw [c5.I rfl]; exact ei
    by_cases h : i = 6
    · subst h
      refine ⟨m1, h5, fun g hg => h6 g hg, ?_⟩
      rw [if_pos (by rw [toI_le, e]; simp), if_pos (inB_nI (by omega) (by omega))]
      simp only [nI_clamp (show kn < 2 ^ 31 by omega), eo1]
      by_cases hv : v1 < 0
      · rw [if_pos hv, if_pos (Or.inl hv)]
      · rw [if_neg hv]
        rcases ho with ho | ho
        · rw [if_pos ho, if_neg (fun q => by rcases q with q | q; exact hv q; rw [ho] at q; exact absurd q (by decide))]
        · rw [if_neg (by rw [ho]; decide), if_pos (Or.inr ho)]
    · rw [if_neg (by rw [toI_le, e]; simp; omega), e24, nI_1]
      simp only [if_pos (show inB (nI kn) 10 from inB_nI (by omega) (by omega)), if_pos (show inB (nI i) 6 from inB_nI (by omega) (by omega)), if_pos (show inB (nI (24 + kn)) 62 from inB_nI (by omega) (by omega))]
      simp only [nI_clamp (show kn < 2 ^ 31 by omega), nI_clamp (show i < 2 ^ 31 by omega), nI_clamp (show 24 + kn < 2 ^ 31 by omega), eo1, ei1]
      have step : ∀ x : Int64, (x = if TT mm 10 kn = 1 then (if (TT mm 4 kn).toInt = i then 1 else 0) else 1) → ∃ m2, ch (P1 68) mm m2 ∧ WtAt 68 m2 (fun g => if TT mm 10 kn = 1 then (if (TT mm 4 kn).toInt = g then 1 else 0) else 1) ∧ DX10_weighs_3 N v1 v2 (nI kn) (nI (i + 1)) (sL m1 68 i x) = (if v1 < 0 ∨ TT mm 10 kn = 1 then DX10_weighs_69 v1 v2 (nI kn) 0 m2 else DX10_weighs_69 v1 v2 (nI kn) 1 m2) := by
        intro x hx
        refine ih (i + 1) (by omega) (by omega) _ (h5.tr (ch.sL rfl)) (fun g hg => ?_)
        rw [gL_sL]
        by_cases hgi : g = i
        · subst hgi; rw [if_pos ⟨rfl, rfl⟩]; exact hx
        · rw [if_neg (fun q => hgi q.2)]; exact h6 g (by omega)
      rcases ho with ho | ho
      · rw [if_pos ho]
        exact step 1 (by rw [if_neg (by rw [ho]; decide)])
      · rw [if_neg (by rw [ho]; decide)]
        have e6 : (TT mm 4 kn = nI i) = ((TT mm 4 kn).toInt = i) := propext (by rw [toI_eq, e])
        simp only [e6]
        by_cases h7 : (TT mm 4 kn).toInt = i
        · rw [if_pos h7]; exact step 1 (by rw [if_pos ho, if_pos h7])
        · rw [if_neg h7]; exact step 0 (by rw [if_pos ho, if_neg h7])
theorem weighs_in (J : Jt mm s b) {bn kn dn cn : Nat} {cc dd : Int32} {i : Nat} {v1 v6 : Int32} {vn : Nat} {k74 : Int32 → Int32 → Int32 → Int32 → Int32 → Mm → Option (Unit × Mm)} (hb : bn < b) (hc : cn < 3) (e6 : v6.toInt = vn) (hv : vn + 2 < 360) (hkk : (gL mm 81 vn).toInt = kn) (hk : kn < s) (h1 : (gL mm 81 (vn + 1)).toInt32.toInt = cn) (h2 : (gL mm 81 (vn + 2)).toInt = dd.toInt) : ∀ N g : Nat, g ≤ 6 → 6 < g + N → ∀ (m1 : Mm), ch (P1 68) mm m1 → (∀ j, j < 6 → gL m1 68 j = if j < g then lrn (TT mm) bn cn dd w j else w j) → ∃ m2, DX10_weighs_174 k74 N v1 (nI bn) (nI kn) 1 (nI i) v6 (nI g) m1 = k74 v1 (nI bn) (nI kn) 1 (nI (i + 1)) m2 ∧ ch (P1 68) mm m2 ∧ WtAt 68 m2 (lrn (TT mm) bn cn dd w) := by
  have h3 := J.1.s10
  have e61 : (v6 + 1).toInt = (vn + 1 : Nat) := by rw [iAdd (by rw [e6]; simp; omega) (by rw [e6]; simp; omega), e6]; simp
  have e62 : (v6 + 2).toInt = (vn + 2 : Nat) := by rw [iAdd (by rw [e6]; simp; omega) (by rw [e6]; simp; omega), e6]; simp
  have ek : (nI kn).toInt = kn := nI_toInt (by omega)
  intro N
  induction N with
  | zero => intro g q1 q2; omega
  | succ N ih =>
    intro g q1 q2 m1 h5 h6
    show ∃ m2, BX10_weighs_174 k74 (DX10_weighs_174 k74 N) v1 (nI bn) (nI kn) 1 (nI i) v6 (nI g) m1 = _ ∧ _
    unfold BX10_weighs_174 DX10_weighs_241
    have e : (nI g).toInt = g := nI_toInt (by omega)
    by_cases h : g = 6
    · subst h
      rw [if_pos (by rw [toI_le, e]; simp), nI_1]
      exact ⟨m1, rfl, h5, fun j hj => by rw [h6 j hj, if_pos hj]⟩
    · have c5 := h5.up (P1_Sc (a := 68) (by omega))
      rw [if_neg (by rw [toI_le, e]; simp; omega), if_neg (show ¬ (1 : Int32) = 0 by decide)]
      simp only [if_pos (show inB v6 360 from inB_iff.mpr (by rw [e6]; omega)), if_pos (show inB (nI g) 6 from inB_nI (by omega) (by omega)), if_pos (show inB (v6 + 1) 360 from inB_iff.mpr (by rw [e61]; omega)), if_pos (show inB (v6 + 2) 360 from inB_iff.mpr (by rw [e62]; omega))]
      simp only [ltN e6, ltN e61, ltN e62, nI_clamp (show g < 2 ^ 31 by omega), c5.L (o := 81) rfl]
      rw [if_pos (by rw [toL_eq, i64, ek]; exact hkk), chance_m (J.ch c5) hb (by omega) hc h1 h2, Option.bind_some, TT_Sc c5, nI_1]
      refine ih (g + 1) (by omega) (by omega) _ (h5.tr (ch.sL rfl)) (fun j hj => ?_)
      rw [gL_sL]
      by_cases hgi : j = g
      · subst hgi
        rw [if_pos ⟨rfl, rfl⟩, if_pos (by omega), h6 j hj, if_neg (by omega)]
        rfl
      · rw [if_neg (fun q => hgi q.2), h6 j hj]
        by_cases hlt : j < g
        · rw [if_pos hlt, if_pos (by omega)]
        · rw [if_neg hlt, if_neg (by omega)]
theorem weighs_stop {v1 v2 v3 : Int32} {i : Nat} (hi : i < 6) {N : Nat} (hN : 2 ≤ N) {v6 : Int32} {m1 : Mm} : DX10_weighs_174 (DX10_weighs_74 N) FU v1 v2 v3 0 (nI i) v6 0 m1 = some ((), m1) := by
  obtain ⟨M, rfl⟩ : ∃ M, N = M + 1 := ⟨N - 1, by omega⟩
  show BX10_weighs_174 (DX10_weighs_74 (M + 1)) (DX10_weighs_174 (DX10_weighs_74 (M + 1)) 39999) v1 v2 v3 0 (nI i) v6 0 m1 = _
  unfold BX10_weighs_174 DX10_weighs_241
  rw [if_neg (by decide), if_pos rfl, nI_1]
  show BX10_weighs_74 (DX10_weighs_74 M) v1 v2 v3 0 (nI (i + 1)) m1 = _
  unfold BX10_weighs_74
  have e : (nI (i + 1)).toInt = (i + 1 : Nat) := nI_toInt (by omega)
  by_cases h : i + 1 = 6
  · rw [if_pos (by rw [toI_le, e]; simp; omega)]
  · rw [if_neg (by rw [toI_le, e]; simp; omega), if_pos rfl]
theorem weighs_l (J : Jt mm s b) {bn kn dn n : Nat} (hb : bn < b) (hk : kn < s) (hd : dn < 6) (B : BR mm dn n) : ∀ N i : Nat, i ≤ 6 → 8 < i + N → ∀ (m1 : Mm) (w : Nat → Int64), ch (P1 68) mm m1 → WtAt 68 m1 w → ∃ m2, DX10_weighs_74 N (nI dn) (nI bn) (nI kn) 1 (nI i) m1 = some ((), m2) ∧ ch (P1 68) mm m2 ∧ WtAt 68 m2 (lkS (fun i => byV mm dn n i) (TT mm) s bn kn (6 - i) i w) := by
  have h3 := J.1.s10
  intro N
  induction N with
  | zero => intro i h2 h4; omega
  | succ N ih =>
    intro i h2 h4 m1 w h5 h6
    show ∃ m2, BX10_weighs_74 (DX10_weighs_74 N) (nI dn) (nI bn) (nI kn) 1 (nI i) m1 = some ((), m2) ∧ _
    unfold BX10_weighs_74
    have e : (nI i).toInt = i := nI_toInt (by omega)
    have ek : (nI kn).toInt = kn := nI_toInt (by omega)
    have ed : (nI dn).toInt = dn := nI_toInt (by omega)
    by_cases h : i = 6
    · subst h
      rw [if_pos (by rw [toI_le, e]; simp)]
      exact ⟨m1, rfl, h5, h6⟩
    · have c5 := h5.up (P1_Sc (a := 68) (by omega))
      obtain ⟨B1, B2, B3, B4, B5, B6, B7, B8⟩ := id B
      have e3 : (3 * nI i).toInt = (3 * i : Nat) := by rw [iMul (by rw [e]; simp; omega) (by rw [e]; simp; omega), e]; simp
      have e32 : (3 * nI i + 2).toInt = (3 * i + 2 : Nat) := by rw [iAdd (by rw [e3]; simp; omega) (by rw [e3]; simp; omega), e3]; simp
      have e60 : (60 * nI dn).toInt = (60 * dn : Nat) := by rw [iMul (by rw [ed]; simp; omega) (by rw [ed]; simp; omega), ed]; simp
      have ev : (60 * nI dn + 3 * nI i).toInt = (60 * dn + 3 * i : Nat) := by rw [iAdd (by rw [e60, e3]; omega) (by rw [e60, e3]; omega), e60, e3]; omega
      have ev1 : (60 * nI dn + 3 * nI i + 1).toInt = (60 * dn + 3 * i + 1 : Nat) := by rw [iAdd (by rw [ev]; simp; omega) (by rw [ev]; simp; omega), ev]; simp
      have ev2 : (60 * nI dn + 3 * nI i + 2).toInt = (60 * dn + 3 * i + 2 : Nat) := by rw [iAdd (by rw [ev]; simp; omega) (by rw [ev]; simp; omega), ev]; simp
      have en : (nI n).toInt = n := nI_toInt (by omega)
      have em : gI m1 80 dn = nI n := by rw [c5.I rfl]; exact B6
      have r0 : gL m1 81 (60 * dn + 3 * i) = gL mm (44 + dn) (3 * i) := by rw [c5.L rfl]; exact B7 _ (by omega)
      have r1 : gL m1 81 (60 * dn + 3 * i + 1) = gL mm (44 + dn) (3 * i + 1) := by rw [c5.L rfl]; exact B7 (3 * i + 1) (by omega)
      have r2 : gL m1 81 (60 * dn + 3 * i + 2) = gL mm (44 + dn) (3 * i + 2) := by rw [c5.L rfl]; exact B7 (3 * i + 2) (by omega)
      rw [if_neg (by rw [toI_le, e]; simp; omega), if_neg (show ¬ (1 : Int32) = 0 by decide), if_pos (inB_nI (by omega) (by omega))]
      simp only [nI_clamp (show dn < 2 ^ 31 by omega), em, toI_le, en, e32]
      unfold DX10_weighs_168 DX10_weighs_169
      rw [show 6 - i = (6 - (i + 1)) + 1 by omega]
      unfold lkS
      by_cases hn : n ≤ 3 * i + 2
      · have e9 : byV mm dn n (3 * i + 2 : Nat) = -1000 := by unfold byV; rw [if_neg (by omega)]
        rw [if_pos (by omega), weighs_stop (by omega) (by omega), if_neg (fun q => by have := q.2.2.2.2.1; rw [e9] at this; simp at this)]
        exact ⟨m1, rfl, h5, h6⟩
      · rw [if_neg (by omega)]
        simp only [if_pos (show inB (60 * nI dn + 3 * nI i) 360 from inB_iff.mpr (by rw [ev]; omega)), if_pos (show inB (60 * nI dn + 3 * nI i + 1) 360 from inB_iff.mpr (by rw [ev1]; omega)), if_pos (show inB (60 * nI dn + 3 * nI i + 2) 360 from inB_iff.mpr (by rw [ev2]; omega))]
        simp only [ltN ev, ltN ev1, ltN ev2, isSack_m (J.1.ch c5), Option.bind_some, within_m, b01_0, r0, r1, r2, Int64.reduceToInt]
        have a0 := byV_toInt B (show 3 * i < n by omega)
        have a1 := byV_toInt B (show 3 * i + 1 < n by omega)
        have a2 := byV_toInt B (show 3 * i + 2 < n by omega)
        have f1 : byV mm dn n (3 * i + 1 : Nat) = (gL mm (44 + dn) (3 * i + 1)).toInt32 := by unfold byV; rw [if_pos (by omega), Int.toNat_natCast]
        rw [← a0, ← a1, ← a2]
        by_cases hv : vld s (byV mm dn n (3 * i : Nat)) (byV mm dn n (3 * i + 1 : Nat)) (byV mm dn n (3 * i + 2 : Nat))
        · rw [if_pos hv]
          obtain ⟨v1, v2, v3, v4, v5, v6⟩ := hv
          rw [if_neg (by omega), if_neg (by omega), if_neg (by omega)]
          by_cases hak : (byV mm dn n (3 * i : Nat)).toInt = kn
          · rw [if_pos hak]
            obtain ⟨m3, e4, c4, w4⟩ := weighs_in (w := w) (dn := dn) (cc := byV mm dn n (3 * i + 1 : Nat)) (dd := byV mm dn n (3 * i + 2 : Nat)) (cn := (byV mm dn n (3 * i + 1 : Nat)).toInt.toNat) (kn := kn) (i := i) (v1 := nI dn) (k74 := DX10_weighs_74 N) (J.ch c5) hb (by omega) ev (by omega) (by rw [r0, ← a0]; exact hak) hk (by rw [r1, ← f1]; omega) (by rw [r2, ← a2]) FU 0 (by omega) (by unfold FU; omega) m1 ch.rf (fun j hj => by rw [if_neg (by omega)]; exact h6 j hj)
            rw [TT_Sc c5] at w4
            rw [show (0 : Int32) = nI 0 from rfl, e4]
            exact ih (i + 1) (by omega) (by omega) m3 _ (h5.tr c4) w4
          · rw [if_neg hak]
            have e4 : DX10_weighs_174 (DX10_weighs_74 N) FU (nI dn) (nI bn) (nI kn) 1 (nI i) (60 * nI dn + 3 * nI i) 0 m1 = DX10_weighs_74 N (nI dn) (nI bn) (nI kn) 1 (nI (i + 1)) m1 := by
              show BX10_weighs_174 (DX10_weighs_74 N) (DX10_weighs_174 (DX10_weighs_74 N) 39999) (nI dn) (nI bn) (nI kn) 1 (nI i) (60 * nI dn + 3 * nI i) 0 m1 = _
              unfold BX10_weighs_174 DX10_weighs_241
              rw [if_neg (by decide), if_neg (show ¬ (1 : Int32) = 0 by decide), if_pos (inB_iff.mpr (by rw [ev]; omega)), if_neg (by rw [toL_eq, i64, ek, ltN ev, r0, ← a0]; exact hak), nI_1]
            rw [e4]
            exact ih (i + 1) (by omega) (by omega) m1 w h5 h6
        · rw [if_neg hv]
          refine ⟨m1, ?_, h5, h6⟩
          repeat' split
          all_goals first | exact weighs_stop (by omega) (by omega) | (exfalso; omega)
theorem weighs_m (J : Jt mm s b) {bn kn dn n : Nat} (hb : bn < b) (hk : kn < s) (hd : dn < 6) (B : BR mm dn n) : ∃ m2, dX10_weighs (nI dn) (nI bn) (nI kn) mm = some ((), m2) ∧ ch (P1 68) mm m2 ∧ WtAt 68 m2 (wghS (fun i => byV mm dn n i) (TT mm) s bn kn) := by
  have ed : (nI dn).toInt = dn := nI_toInt (by omega)
  unfold dX10_weighs
  obtain ⟨m2, c2, w2, e2⟩ := weighs_0 J hk (v1 := nI dn) (v2 := nI bn) FU 0 (by omega) (by unfold FU; omega) mm ch.rf (fun g hg => by omega)
  rw [show (0 : Int32) = nI 0 from rfl, e2]
  unfold wghS DX10_weighs_69
  by_cases ho : TT mm 10 kn = 1
  · rw [if_pos (Or.inr ho), if_pos ho]
    refine ⟨m2, rfl, c2, fun g hg => ?_⟩
    rw [w2 g hg]
    dsimp only
    rw [if_pos ho]
  · rw [if_neg (fun q => by rcases q with q | q; (rw [toI_lt, ed] at q; simp at q; omega); exact ho q), if_neg ho]
    have c5 := c2.up (P1_Sc (a := 68) (by omega))
    obtain ⟨m3, e3, c3, w3⟩ := weighs_l (J.ch c5) hb hk hd (B.ch hd c5) FU 0 (by omega) (by unfold FU; omega) m2 (fun _ => 1) ch.rf (fun g hg => by rw [w2 g hg]; dsimp only; rw [if_neg ho])
    refine ⟨m3, e3, c2.tr c3, ?_⟩
    rw [TT_Sc c5] at w3
    have : (fun i : Nat => byV m2 dn n i) = (fun i : Nat => byV mm dn n i) := funext fun i => by unfold byV; rw [c5.L (Sc_el hd)]
    rw [this] at w3
    exact w3
/-- without looks -/
theorem weighs_n (J : Jt mm s b) {bn kn : Nat} (hb : bn < b) (hk : kn < s) (ho : ¬ TT mm 10 kn = 1) : ∃ m2, dX10_weighs (-1) (nI bn) (nI kn) mm = some ((), m2) ∧ ch (P1 68) mm m2 ∧ WtAt 68 m2 (fun _ => 1) := by
  unfold dX10_weighs
  obtain ⟨m2, c2, w2, e2⟩ := weighs_0 J hk (v1 := -1) (v2 := nI bn) FU 0 (by omega) (by unfold FU; omega) mm ch.rf (fun g hg => by omega)
  rw [show (0 : Int32) = nI 0 from rfl, e2, if_pos (Or.inl (by decide))]
  exact ⟨m2, rfl, c2, fun g hg => by rw [w2 g hg]; dsimp only; rw [if_neg ho]⟩
theorem weightAll_l (hw : WtAt 68 mm w) : ∀ N i : Nat, i ≤ 6 → 6 < i + N → DX10_weightAll_4 N (sumL w i) (nI i) mm = some (sumL w 6, mm) := by
  intro N
  induction N with
  | zero => intro i h2 h4; omega
  | succ N ih =>
    intro i h2 h4
    show BX10_weightAll_4 (DX10_weightAll_4 N) _ _ mm = _
    unfold BX10_weightAll_4
    have e : (nI i).toInt = i := nI_toInt (by omega)
    by_cases h : i = 6
    · subst h; rw [if_pos (by rw [toI_le, e]; simp)]
    · rw [if_neg (by rw [toI_le, e]; simp; omega), if_pos (inB_nI (by omega) (by omega)), nI_clamp (by omega), nI_1, hw i (by omega)]
      exact ih (i + 1) (by omega) (by omega)
theorem weightAll_m (hw : WtAt 68 mm w) : dX10_weightAll mm = some (sumL w 6, mm) := weightAll_l hw FU 0 (by omega) (by unfold FU; omega)
theorem heaviest_l (hw : WtAt 68 mm w) : ∀ N i : Nat, 1 ≤ i → i ≤ 6 → 6 < i + N → DX10_heaviest_4 N (nI (hvS w i)) (nI i) mm = some (nI (hvS w 6), mm) := by
  intro N
  induction N with
  | zero => intro i h1 h2 h4; omega
  | succ N ih =>
    intro i h1 h2 h4
    show BX10_heaviest_4 (DX10_heaviest_4 N) _ _ mm = _
    unfold BX10_heaviest_4 DX10_heaviest_31
    have e : (nI i).toInt = i := nI_toInt (by omega)
    by_cases h : i = 6
    · subst h; rw [if_pos (by rw [toI_le, e]; simp)]
    · have hlt : hvS w i < i := by have := hvS_lt w (i - 1); rwa [show i - 1 + 1 = i by omega] at this
      rw [if_neg (by rw [toI_le, e]; simp; omega), if_pos (inB_nI (by omega) (by omega)), if_pos (inB_nI (by omega) (by omega)), nI_1]
      simp only [nI_clamp (show i < 2 ^ 31 by omega), nI_clamp (show hvS w i < 2 ^ 31 by omega), hw i (by omega), hw (hvS w i) (by omega)]
      have := ih (i + 1) (by omega) (by omega) (by omega)
      unfold hvS at this
      by_cases h5 : w i ≤ w (hvS w i)
      · rw [if_pos h5]; rw [if_pos h5] at this; exact this
      · rw [if_neg h5]; rw [if_neg h5] at this; exact this
theorem heaviest_m (hw : WtAt 68 mm w) : dX10_heaviest mm = some (nI (hvS w 6), mm) := by
  have e : hvS w 1 = 0 := by unfold hvS; split <;> rfl
  have := heaviest_l hw FU 1 (by omega) (by omega) (by unfold FU; omega)
  rw [e] at this
  exact this
theorem worthAll_l (J : Jt mm s b) (L : LvR mm lv) {bn : Nat} (hb : bn < b) (hw : WtAt 68 mm w) {asked : Int32} : ∀ N i : Nat, i ≤ 6 → 6 < i + N → ∀ m1 : Mm, ch PWr mm m1 → ∃ m2, DX10_worthAll_6 N (nI bn) asked (sumL (fun g => w g * (worthS (TT mm) s lv bn g asked).toInt64) i) (nI i) m1 = some (wallS (TT mm) s lv w bn asked, m2) ∧ ch PWr mm m2 := by
  intro N
  induction N with
  | zero => intro i h2 h4; omega
  | succ N ih =>
    intro i h2 h4 m1 h5
    show ∃ m2, BX10_worthAll_6 (DX10_worthAll_6 N) _ _ _ _ m1 = _ ∧ _
    unfold BX10_worthAll_6
    have e : (nI i).toInt = i := nI_toInt (by omega)
    by_cases h : i = 6
    · subst h; rw [if_pos (by rw [toI_le, e]; simp)]; exact ⟨m1, rfl, h5⟩
    · have c5 := h5.up PWr_Sc
      obtain ⟨m2, e2, c2⟩ := worthFor_m (J.ch c5) (L.ch c5) hb (show i < 6 by omega) (asked := asked) rfl rfl
      rw [if_neg (by rw [toI_le, e]; simp; omega), if_pos (inB_nI (by omega) (by omega)), nI_clamp (by omega), nI_1, e2, Option.bind_some, TT_Sc c5, (hw.ch h5 (fun g => rfl)) i (by omega)]
      exact ih (i + 1) (by omega) (by omega) m2 (h5.tr c2)
theorem worthAll_m (J : Jt mm s b) (L : LvR mm lv) {bn : Nat} {v2 : Int32} (hb : bn < b) (hw : WtAt 68 mm w) {asked : Int32} : ∃ m2, dX10_worthAll (nI bn) v2 asked mm = some (wallS (TT mm) s lv w bn asked, m2) ∧ ch PWr mm m2 :=
  worthAll_l J L hb hw FU 0 (by omega) (by unfold FU; omega) mm ch.rf
theorem rightBy_l2 (J : Jt mm s b) {bn cn an : Nat} (hb : bn < b) (hc : cn < 3) (ha : an < 4) (hw : WtAt 68 mm w) {k5 : Int32 → Int32 → Int64 → Int32 → Mm → Option (Int64 × Mm)} {acc : Int64} : ∀ N i : Nat, i ≤ 6 → 6 < i + N → DX10_rightBy_17 k5 N (nI bn) (nI cn) acc (nI an) (mxS (fun g => w g * (seS (TT mm) bn g cn (nI an)).toInt64) i) (nI i) mm = k5 (nI bn) (nI cn) (acc + mxS (fun g => w g * (seS (TT mm) bn g cn (nI an)).toInt64) 6) (nI (an + 1)) mm := by
  intro N
  induction N with
  | zero => intro i h2 h4; omega
  | succ N ih =>
    intro i h2 h4
    show BX10_rightBy_17 k5 (DX10_rightBy_17 k5 N) _ _ _ _ _ _ mm = _
    unfold BX10_rightBy_17 DX10_rightBy_60
    have e : (nI i).toInt = i := nI_toInt (by omega)
    by_cases h : i = 6
    · subst h; rw [if_pos (by rw [toI_le, e]; simp), nI_1]
    · rw [if_neg (by rw [toI_le, e]; simp; omega), if_pos (inB_nI (by omega) (by omega)), chance_m J hb (by omega) hc (nI_toInt (by omega)) (d := nI an) (by rw [i64]), Option.bind_some, nI_1]
      simp only [nI_clamp (show i < 2 ^ 31 by omega), hw i (by omega)]
      have := ih (i + 1) (by omega) (by omega)
      unfold mxS at this
      rw [← lMax_le] at this
      by_cases h5 : w i * (seS (TT mm) bn i cn (nI an)).toInt64 ≤ mxS (fun g => w g * (seS (TT mm) bn g cn (nI an)).toInt64) i
      · rw [if_pos h5]; rw [if_pos h5] at this; exact this
      · rw [if_neg h5]; rw [if_neg h5] at this; exact this
theorem rightBy_l (J : Jt mm s b) {bn cn : Nat} (hb : bn < b) (hc : cn < 3) (hw : WtAt 68 mm w) : ∀ N i : Nat, i ≤ 4 → 4 < i + N → DX10_rightBy_5 N (nI bn) (nI cn) (sumL (fun a => mxS (fun g => w g * (seS (TT mm) bn g cn (nI a)).toInt64) 6) i) (nI i) mm = some (foS (TT mm) bn w cn, mm) := by
  intro N
  induction N with
  | zero => intro i h2 h4; omega
  | succ N ih =>
    intro i h2 h4
    show BX10_rightBy_5 (DX10_rightBy_5 N) _ _ _ _ mm = _
    unfold BX10_rightBy_5
    have e : (nI i).toInt = i := nI_toInt (by omega)
    by_cases h : i = 4
    · subst h; rw [if_pos (by rw [toI_le, e]; simp)]; rfl
    · rw [if_neg (by rw [toI_le, e]; simp; omega)]
      exact (rightBy_l2 J hb hc (by omega) hw FU 0 (by omega) (by unfold FU; omega)).trans (ih (i + 1) (by omega) (by omega))
theorem rightBy_m (J : Jt mm s b) {bn cn : Nat} (hb : bn < b) (hc : cn < 3) (hw : WtAt 68 mm w) : dX10_rightBy (nI bn) (nI cn) mm = some (flS (TT mm) bn w cn, mm) := by
  unfold flS
  rw [if_neg (by omega)]
  exact rightBy_l J hb hc hw FU 0 (by omega) (by unfold FU; omega)
theorem bestLook_lm (J : Jt mm s b) {bn : Nat} (hb : bn < b) (hw : WtAt 68 mm w) : ∀ N i : Nat, i ≤ 3 → 3 < i + N → DX10_bestLook_19 N (nI bn) (nI (blS (TT mm) bn w i)) (flS (TT mm) bn w (blS (TT mm) bn w i)) (nI i) mm = some (nI (blS (TT mm) bn w 3), mm) := by
  intro N
  induction N with
  | zero => intro i h2 h4; omega
  | succ N ih =>
    intro i h2 h4
    show BX10_bestLook_19 (DX10_bestLook_19 N) _ _ _ _ mm = _
    unfold BX10_bestLook_19 DX10_bestLook_48
    have e : (nI i).toInt = i := nI_toInt (by omega)
    by_cases h : i = 3
    · subst h; rw [if_pos (by rw [toI_le, e]; simp)]
    · rw [if_neg (by rw [toI_le, e]; simp; omega), rightBy_m J hb (by omega) hw, Option.bind_some, nI_1]
      have := ih (i + 1) (by omega) (by omega)
      unfold blS at this
      dsimp only
      by_cases h5 : flS (TT mm) bn w i ≤ flS (TT mm) bn w (blS (TT mm) bn w i)
      · rw [if_pos h5]; rw [if_pos h5] at this; exact this
      · rw [if_neg h5, rightBy_m J hb (by omega) hw, Option.bind_some]; rw [if_neg h5] at this; exact this
theorem bestLook_m (J : Jt mm s b) {bn : Nat} (hb : bn < b) (hw : WtAt 68 mm w) : dX10_bestLook (nI bn) mm = some (nI (blS (TT mm) bn w 3), mm) := by
  have hl : hvS w 6 < 6 := hvS_lt w 5
  unfold dX10_bestLook
  rw [heaviest_m hw, Option.bind_some, if_pos (inB_nI (by omega) (by omega)), nI_clamp (by omega), hw _ (by omega)]
  exact bestLook_lm J hb hw FU 0 (by omega) (by unfold FU; omega)
end BELM
