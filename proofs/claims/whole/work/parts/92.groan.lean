/-! ===== groan: alike on both sides ===== -/
section GROAN
variable {m : Mm} {s b kn n d ln : Nat} {t : Nat → Nat} {lv : Option LF} {v1 v2 v3 v4 : Int32}
theorem dbl {c : Nat} (h : c ≤ 10) : (2 * nI c : Int32) = nI (2 * c) := by
  have : c = 0 ∨ c = 1 ∨ c = 2 ∨ c = 3 ∨ c = 4 ∨ c = 5 ∨ c = 6 ∨ c = 7 ∨ c = 8 ∨ c = 9 ∨ c = 10 := by omega
  rcases this with rfl | rfl | rfl | rfl | rfl | rfl | rfl | rfl | rfl | rfl | rfl <;> decide
abbrev gOk (s : Nat) (B : Int → Int32) (i : Nat) : Prop := (0 ≤ (B (2 * i)).toInt ∧ (B (2 * i)).toInt < (s : Int)) ∧ 0 ≤ (B (2 * i + 1)).toInt ∧ (B (2 * i + 1)).toInt ≤ 5
def lsS (T : Nat → Nat → Int32) (s : Nat) (lv : Option LF) (a g : Nat) : Int32 := if 0 ≤ (T 9 a).toInt ∧ (worthS T s lv (T 9 a).toInt.toNat g (T 5 a)).toInt < (T 5 a).toInt then 1 else 0
/-- how many differ, how many groan, which differs first -/
def grnS (T : Nat → Nat → Int32) (s : Nat) (lv : Option LF) (B : Int → Int32) : Nat → Nat → Int32 → Int32 → Int32 → Int32 × Int32 × Int32
  | 0, _, di, le, fi => (di, le, fi)
  | f + 1, i, di, le, fi =>
    if gOk s B i then
      (if B (2 * i + 1) = T 4 (B (2 * i)).toInt.toNat then grnS T s lv B f (i + 1) di (le + lsS T s lv (B (2 * i)).toInt.toNat (B (2 * i + 1)).toInt.toNat) fi
       else grnS T s lv B f (i + 1) (di + 1) (le + lsS T s lv (B (2 * i)).toInt.toNat (B (2 * i + 1)).toInt.toNat) (if di = 0 then B (2 * i) else fi))
    else (di, le, fi)
theorem lsS_01 {T : Nat → Nat → Int32} {a g : Nat} : lsS T s lv a g = 0 ∨ lsS T s lv a g = 1 := by
  unfold lsS
  by_cases h : 0 ≤ (T 9 a).toInt ∧ (worthS T s lv (T 9 a).toInt.toNat g (T 5 a)).toInt < (T 5 a).toInt
  · rw [if_pos h]; exact Or.inr rfl
  · rw [if_neg h]; exact Or.inl rfl
theorem told_l (k : K m s b kn lv) (hd' : d < 6) (B : BR m d ln) : ∀ (N f i : Nat) (di le fi : Int32) (M : Mm), i + f = 10 → f < N → ch PW m M → ∃ M2, DX9_groansTold_12 N (38 + d) v2 di le fi (nI i) M = DX9_groansTold_124 v2 (grnS (TT m) s lv (byV m d ln) f i di le fi).1 (grnS (TT m) s lv (byV m d ln) f i di le fi).2.1 (grnS (TT m) s lv (byV m d ln) f i di le fi).2.2 M2 ∧ ch PW m M2 := by
  have s10 := k.1.1.s10
  intro N
  induction N with
  | zero => intro f i di le fi M h1 h2; omega
  | succ N ih =>
    intro f i di le fi M h1 h2 c
    have cS := c.up PW_Sc
    have KM := k.ch cS
    have eT := TT_Sc cS
    have B1 := B.ch hd' cS
    have eB : byV M d ln = byV m d ln := byV_c cS (fun k => Sc_el hd')
    show ∃ M2, BX9_groansTold_12 (DX9_groansTold_12 N) (38 + d) v2 di le fi (nI i) M = _ ∧ _
    unfold BX9_groansTold_12 DX9_groansTold_96 DX9_groansTold_101 DX9_groansTold_118
    cases f with
    | zero =>
      have e : i = 10 := by omega
      subst e
      rw [if_pos (show (10 : Int32) ≤ nI 10 by decide)]
      exact ⟨M, rfl, c⟩
    | succ f =>
      have e1 : (nI (2 * i)).toInt = 2 * (i : Int) := by rw [nI_toInt (by omega)]; omega
      have e2 : (nI (2 * i + 1)).toInt = 2 * (i : Int) + 1 := by rw [nI_toInt (by omega)]; omega
      rw [if_neg (show ¬ (10 : Int32) ≤ nI i from nI_ge (b := 10) (by omega) (by omega)), dbl (by omega), byteAt_x hd' B1, Option.bind_some]
      simp only []
      rw [nI_1, byteAt_x hd' B1, Option.bind_some, eB, e1, e2]
      simp only [holds_x KM.1.1, Option.bind_some, b01_0, nI_1]
      unfold grnS
      have z4 : (4 : Int32).toInt = 4 := rfl
      have z0 : (0 : Int32).toInt = 0 := rfl
      rw [z4, z0]
      by_cases q : gOk s (byV m d ln) i
      · obtain ⟨an, ha⟩ : ∃ q : Nat, (byV m d ln (2 * i)).toInt = q := ⟨(byV m d ln (2 * i)).toInt.toNat, by omega⟩
        obtain ⟨gn, hg⟩ : ∃ q : Nat, (byV m d ln (2 * i + 1)).toInt = q := ⟨(byV m d ln (2 * i + 1)).toInt.toNat, by omega⟩
        rw [if_neg (fun z => z (by unfold hd; omega)), if_neg (fun z => z (by unfold hd; omega)), if_pos q]
        rw [told_x KM.1.1 (wn := 4) rfl ha (by unfold hd; omega), Option.bind_some]
        dsimp only [Nat.reduceAdd]
        have e7 : gI M 7 an = TT m 4 an := by rw [← eT]; rfl
        rw [e7, ha, hg, Int.toNat_natCast, Int.toNat_natCast]
        have fa := nI_of_toInt ha
        have fg := nI_of_toInt hg
        have R := Rk_of KM.1 (show an < s by omega)
        obtain ⟨M1, y1, y2⟩ := groans_x KM.1.1 KM.2.1 (show an < s by omega) (g := gn) (by omega) R.2.2.1 R.2.2.2
        have y1' : dX7_groans (byV m d ln (2 * i)) (byV m d ln (2 * i + 1)) M = some (lsS (TT m) s lv an gn, M1) := by rw [fa, fg, y1, eT]; rfl
        have fin : ∀ (di' fi' : Int32), ∃ M2, ((dX7_groans (byV m d ln (2 * i)) (byV m d ln (2 * i + 1)) M).bind fun q109 => (if q109.1 = 0 then DX9_groansTold_12 N (38 + d) v2 di' le fi' (nI (i + 1)) q109.2 else DX9_groansTold_12 N (38 + d) v2 di' (le + 1) fi' (nI (i + 1)) q109.2)) = DX9_groansTold_124 v2 (grnS (TT m) s lv (byV m d ln) f (i + 1) di' (le + lsS (TT m) s lv an gn) fi').1 (grnS (TT m) s lv (byV m d ln) f (i + 1) di' (le + lsS (TT m) s lv an gn) fi').2.1 (grnS (TT m) s lv (byV m d ln) f (i + 1) di' (le + lsS (TT m) s lv an gn) fi').2.2 M2 ∧ ch PW m M2 := by
          intro di' fi'
          rw [y1', Option.bind_some]
          rcases lsS_01 (T := TT m) (s := s) (lv := lv) (a := an) (g := gn) with h01 | h01
          · rw [h01, if_pos rfl, Int32.add_zero]
            exact ih f (i + 1) di' le fi' M1 (by omega) (by omega) (c.tr y2)
          · rw [h01, if_neg (show ¬ (1 : Int32) = 0 by decide)]
            exact ih f (i + 1) di' (le + 1) fi' M1 (by omega) (by omega) (c.tr y2)
        by_cases h4 : byV m d ln (2 * i + 1) = TT m 4 an
        · rw [if_pos h4, if_pos h4]
          exact fin di fi
        · rw [if_neg h4, if_neg h4]
          by_cases hdi : di = 0
          · rw [if_pos hdi, if_pos hdi]; exact fin (di + 1) (byV m d ln (2 * i))
          · rw [if_neg hdi, if_neg hdi]; exact fin (di + 1) fi
      · rw [if_neg q]
        refine ⟨M, ?_, c⟩
        by_cases q1 : 0 ≤ (byV m d ln (2 * i)).toInt ∧ (byV m d ln (2 * i)).toInt < (s : Int)
        · rw [if_neg (fun z => z (by unfold hd; omega)), if_pos (by unfold hd; omega)]
        · rw [if_pos (by unfold hd; omega)]
def groQ (mm : Mm) (s : Nat) (lv : Option LF) (v1 v2 : Int32) : Int32 := if okD v1 ∧ (0 ≤ v2.toInt ∧ v2.toInt ≤ 2) then (if brS mm (dN v1) = 0 then (if v2 = 0 then (grnS (TT mm) s lv (byV mm (dN v1) (rn mm (dN v1))) 10 0 0 0 (-2)).1 else if v2 = 1 then (grnS (TT mm) s lv (byV mm (dN v1) (rn mm (dN v1))) 10 0 0 0 (-2)).2.1 else (grnS (TT mm) s lv (byV mm (dN v1) (rn mm (dN v1))) 10 0 0 0 (-2)).2.2) else brS mm (dN v1)) else -1
theorem groQ_ch {m' : Mm} (h : ch Sc m m') : groQ m' s lv v1 v2 = groQ m s lv v1 v2 := by
  unfold groQ
  by_cases hd' : okD v1 ∧ (0 ≤ v2.toInt ∧ v2.toInt ≤ 2)
  · have d6 : dN v1 < 6 := (d_n hd'.1).2
    rw [if_pos hd', if_pos hd', brS_ch d6 h, TT_Sc h, byV_c h (fun k => Sc_el d6)]
    unfold rn
    rw [h.I (Sc_sh d6)]
  · rw [if_neg hd', if_neg hd']
theorem groan_x (k : K m s b kn lv) : ∃ m1, dX9_groan v1 v2 m = some (groQ m s lv v1 v2, m1) ∧ ch Sc m m1 := by
  have z0 : (0 : Int32).toInt = 0 := rfl
  have z2 : (2 : Int32).toInt = 2 := rfl
  unfold dX9_groan DX9_groan_16 groQ dX9_groansTold
  simp only [isShelf_x, Option.bind_some, b01_0, toI_lt, toI_le, z0, z2]
  by_cases h1 : okD v1
  · obtain ⟨e1, d6⟩ := d_n h1
    simp only [if_neg (show ¬ ¬ (0 ≤ v1.toInt ∧ v1.toInt < 6) from fun q => q h1), if_pos (okD_i h1), clE h1, bytesRefusal_x d6, Option.bind_some]
    by_cases h2 : 0 ≤ v2.toInt ∧ v2.toInt ≤ 2
    · rw [if_neg (by omega), if_pos h2.2, if_pos (show okD v1 ∧ (0 ≤ v2.toInt ∧ v2.toInt ≤ 2) from ⟨h1, h2⟩)]
      by_cases hr : brS m (dN v1) = 0
      · obtain ⟨n0, B0⟩ := BR_of k.2.2.2 d6 hr
        have B := BR_rn B0
        obtain ⟨M2, y1, y2⟩ := told_l (v2 := v2) k d6 B FU 10 0 0 0 (-2) m (by omega) (by unfold FU; omega) ch.rf
        rw [nI_0] at y1
        rw [if_pos hr, if_pos hr, if_pos (pSh (shO d6)), y1]
        unfold DX9_groansTold_124
        refine ⟨M2, ?_, y2.up PW_Sc⟩
        by_cases q0 : v2 = 0
        · rw [if_pos q0, if_pos q0, Option.bind_some]
        · rw [if_neg q0, if_neg q0]
          by_cases q1 : v2 = 1
          · rw [if_pos q1, if_pos q1, Option.bind_some]
          · rw [if_neg q1, if_neg q1, Option.bind_some]
      · rw [if_neg hr, if_neg hr]; exact ⟨m, rfl, ch.rf⟩
    · rw [if_neg (show ¬ (okD v1 ∧ (0 ≤ v2.toInt ∧ v2.toInt ≤ 2)) from fun q => h2 q.2)]
      refine ⟨m, ?_, ch.rf⟩
      by_cases h3 : v2.toInt < 0
      · rw [if_pos h3]
      · rw [if_neg h3, if_neg (by omega)]
  · simp only [if_pos (show ¬ (0 ≤ v1.toInt ∧ v1.toInt < 6) from h1)]
    rw [if_neg (fun q => h1 q.1)]; exact ⟨m, rfl, ch.rf⟩
theorem gro_st {N : Nat} (hN : 0 < N) {di le fi i : Int32} : DX10_groan_52 N v1 v2 di le fi 0 i m = DX10_groan_246 v2 di le fi m := by
  obtain ⟨N, rfl⟩ : ∃ q, N = q + 1 := ⟨N - 1, by omega⟩
  show BX10_groan_52 (DX10_groan_52 N) _ _ _ _ _ _ _ _ = _
  unfold BX10_groan_52
  split
  · rfl
  · rw [if_pos rfl]
theorem gro_l (k : K m s b kn lv) (hd' : d < 6) (B : BR m d ln) : ∀ (N f i : Nat) (di le fi : Int32) (M : Mm), i + f = 10 → f + 1 < N → ch PWr m M → ∃ M2, DX10_groan_52 N (nI d) v2 di le fi 1 (nI i) M = DX10_groan_246 v2 (grnS (TT m) s lv (byV m d ln) f i di le fi).1 (grnS (TT m) s lv (byV m d ln) f i di le fi).2.1 (grnS (TT m) s lv (byV m d ln) f i di le fi).2.2 M2 ∧ ch PWr m M2 := by
  have s10 := k.1.1.s10
  have hl := B.2.2.2.1
  intro N
  induction N with
  | zero => intro f i di le fi M h1 h2; omega
  | succ N ih =>
    intro f i di le fi M h1 h2 c
    have cS := c.up PWr_Sc
    have KM := k.ch cS
    have eT := TT_Sc cS
    show ∃ M2, BX10_groan_52 (DX10_groan_52 N) (nI d) v2 di le fi 1 (nI i) M = _ ∧ _
    unfold BX10_groan_52
    cases f with
    | zero =>
      have e : i = 10 := by omega
      subst e
      rw [if_pos (show (10 : Int32) ≤ nI 10 by decide)]
      exact ⟨M, rfl, c⟩
    | succ f =>
      have e80 : gI M 80 d = nI ln := by rw [c.I rfl]; exact B.2.2.2.2.2.1
      have e81 : ∀ p, p < 60 → gL M 81 (60 * d + p) = gL m (44 + d) p := fun p hp => by rw [c.L rfl]; exact B.2.2.2.2.2.2.1 p hp
      have i1 : inB (nI (60 * d + 2 * i)) 360 := inB_nI (by omega) (by omega)
      have i2 : inB (nI (60 * d + 2 * i + 1)) 360 := inB_nI (by omega) (by omega)
      rw [if_neg (show ¬ (10 : Int32) ≤ nI i from nI_ge (b := 10) (by omega) (by omega)), if_neg (show ¬ (1 : Int32) = 0 by decide), if_pos (inB_nI hd' (by omega)), nI_clamp (by omega), e80, dbl (by omega), nI_1, m60 hd', nI_add]
      have stop : ∀ v8 : Int32, DX10_groan_123 (DX10_groan_52 N) (nI d) v2 di le fi (nI i) v8 M = DX10_groan_246 v2 di le fi M := fun v8 => by
        unfold DX10_groan_123 DX10_groan_124 DX10_groan_240
        rw [if_pos rfl]
        exact gro_st (by omega)
      unfold grnS
      by_cases hp : 2 * i + 1 < ln
      · have b1 : (byV m d ln (2 * (i : Int))).toInt = (gL m (44 + d) (2 * i)).toInt := by
          have := byV_toInt B (show 2 * i < ln by omega)
          rw [show ((2 * i : Nat) : Int) = 2 * (i : Int) by omega] at this
          exact this
        have b2 : (byV m d ln (2 * (i : Int) + 1)).toInt = (gL m (44 + d) (2 * i + 1)).toInt := by
          have := byV_toInt B (show 2 * i + 1 < ln by omega)
          rw [show ((2 * i + 1 : Nat) : Int) = 2 * (i : Int) + 1 by omega] at this
          exact this
        have f1 : (gL m (44 + d) (2 * i)).toInt32 = byV m d ln (2 * (i : Int)) := by
          unfold byV
          rw [if_pos (by omega), show (2 * (i : Int)).toNat = 2 * i by omega]
        have f2 : (gL m (44 + d) (2 * i + 1)).toInt32 = byV m d ln (2 * (i : Int) + 1) := by
          unfold byV
          rw [if_pos (by omega), show (2 * (i : Int) + 1).toNat = 2 * i + 1 by omega]
        have q1e := e81 (2 * i) (by omega)
        have q2e := e81 (2 * i + 1) (by omega)
        rw [← Nat.add_assoc] at q2e
        rw [if_neg (nI_ge hp (by omega))]
        simp only [nI_1, if_pos i1, if_pos i2, nI_clamp (show 60 * d + 2 * i < 2 ^ 31 by omega), nI_clamp (show 60 * d + 2 * i + 1 < 2 ^ 31 by omega), q1e, q2e, isSack_m KM.1.1, isGood_m, Option.bind_some, b01_0, stop]
        by_cases h1' : 0 ≤ (gL m (44 + d) (2 * i)).toInt ∧ (gL m (44 + d) (2 * i)).toInt < (s : Int)
        · by_cases h2' : 0 ≤ (gL m (44 + d) (2 * i + 1)).toInt ∧ (gL m (44 + d) (2 * i + 1)).toInt ≤ 5
          · rw [if_neg (fun q => q h1'), if_neg (fun q => q h2'), if_pos (show gOk s (byV m d ln) i from ⟨by rw [b1]; exact h1', by rw [b2]; exact h2'⟩)]
            obtain ⟨an, ha⟩ : ∃ q : Nat, (byV m d ln (2 * i)).toInt = q := ⟨(byV m d ln (2 * i)).toInt.toNat, by omega⟩
            obtain ⟨gn, hg⟩ : ∃ q : Nat, (byV m d ln (2 * i + 1)).toInt = q := ⟨(byV m d ln (2 * i + 1)).toInt.toNat, by omega⟩
            have fa := nI_of_toInt ha
            have fg := nI_of_toInt hg
            have has : an < s := by omega
            have hg6 : gn < 6 := by omega
            have jk := k.1.2.2.1 an has
            have e24 : (24 : Int32) + nI an = nI (24 + an) := by rw [show (24 : Int32) = nI 24 from rfl, nI_add]
            have e34 : (34 : Int32) + nI an = nI (34 + an) := by rw [show (34 : Int32) = nI 34 from rfl, nI_add]
            have i24 : inB (nI (24 + an)) 62 := inB_nI (by omega) (by omega)
            have i34 : inB (nI (34 + an)) 62 := inB_nI (by omega) (by omega)
            have ia : inB (nI an) 10 := inB_nI (by omega) (by omega)
            have g24 : gI M 59 (24 + an) = TT m 4 an := by rw [c.I rfl]; exact jk.1.1
            have z0 : (0 : Int32).toInt = 0 := rfl
            have t9 : TT m 9 an = gI m 12 an := rfl
            have t5 : TT m 5 an = gI m 8 an := rfl
            rw [ha, hg, Int.toNat_natCast, Int.toNat_natCast]
            have fin : ∀ (di' fi' : Int32), ∃ M2, DX10_groan_184 (DX10_groan_52 N) (nI d) v2 di' le fi' 1 (nI i) (nI an) (nI gn) M = DX10_groan_246 v2 (grnS (TT m) s lv (byV m d ln) f (i + 1) di' (le + lsS (TT m) s lv an gn) fi').1 (grnS (TT m) s lv (byV m d ln) f (i + 1) di' (le + lsS (TT m) s lv an gn) fi').2.1 (grnS (TT m) s lv (byV m d ln) f (i + 1) di' (le + lsS (TT m) s lv an gn) fi').2.2 M2 ∧ ch PWr m M2 := by
              intro di' fi'
              have g63 : gI M 63 an = gI m 12 an := by rw [c.I rfl]; exact jk.2.2.1.1
              have g34 : ∀ M' : Mm, ch PWr m M' → gI M' 59 (34 + an) = gI m 8 an := fun M' c' => by rw [c'.I rfl]; exact jk.2.1.1
              unfold DX10_groan_184 DX10_groan_236 DX10_groan_237 DX10_groan_240 lsS
              rw [t9, t5]
              simp only [if_pos ia, e34, if_pos i34, nI_clamp (show an < 2 ^ 31 by omega), nI_clamp (show 34 + an < 2 ^ 31 by omega), g63, g34 M c, nI_1, toI_lt, z0]
              have j12 := jk.2.2.1.2
              by_cases h9 : 0 ≤ (gI m 12 an).toInt
              · obtain ⟨M1, y1, y2⟩ := worthFor_m (asked := gI m 8 an) KM.1 KM.2.2.1 (bn := (gI m 12 an).toInt.toNat) (gn := gn) (bi := gI m 12 an) (gi := nI gn) (by omega) hg6 (nI_of_toInt (by omega)) rfl
                rw [eT] at y1
                have c1 := c.tr y2
                rw [if_neg (by omega), y1, Option.bind_some]
                simp only [g34 M1 c1, toI_le]
                by_cases hw : (worthS (TT m) s lv (gI m 12 an).toInt.toNat gn (gI m 8 an)).toInt < (gI m 8 an).toInt
                · rw [if_neg (by omega), if_pos ⟨h9, hw⟩]
                  exact ih f (i + 1) di' (le + 1) fi' M1 (by omega) (by omega) c1
                · rw [if_pos (by omega), if_neg (fun z => hw z.2)]
                  exact ih f (i + 1) di' (le + 0) fi' M1 (by omega) (by omega) c1
              · rw [if_pos (by omega), if_neg (fun z => h9 z.1)]
                exact ih f (i + 1) di' (le + 0) fi' M (by omega) (by omega) c
            unfold DX10_groan_124 DX10_groan_179
            simp only [if_neg (show ¬ (1 : Int32) = 0 by decide), nI_1, if_pos i1, if_pos i2, nI_clamp (show 60 * d + 2 * i < 2 ^ 31 by omega), nI_clamp (show 60 * d + 2 * i + 1 < 2 ^ 31 by omega), q1e, q2e, f1, f2, fa, fg, e24, if_pos i24, nI_clamp (show 24 + an < 2 ^ 31 by omega), g24]
            by_cases h4 : nI gn = TT m 4 an
            · rw [if_pos h4, if_pos h4]; exact fin di fi
            · rw [if_neg h4, if_neg h4]
              by_cases hdi : di = 0
              · rw [if_pos hdi, if_pos hdi]; exact fin (di + 1) (nI an)
              · rw [if_neg hdi, if_neg hdi]; exact fin (di + 1) fi
          · rw [if_neg (fun q => q h1'), if_pos h2', if_neg (fun q => h2' (by rw [← b2]; exact q.2))]
            exact ⟨M, rfl, c⟩
        · rw [if_pos h1', if_neg (fun q => h1' (by rw [← b1]; exact q.1))]
          exact ⟨M, rfl, c⟩
      · have lk : byV m d ln (2 * (i : Int) + 1) = -1000 := by
          unfold byV
          rw [if_neg (by omega)]
        rw [if_pos (nI_le (by omega) (by omega)), stop, if_neg (fun q => by have := q.2.1; rw [lk] at this; exact absurd this (by decide))]
        exact ⟨M, rfl, c⟩
theorem groan_m (k : K m s b kn lv) : ∃ m1, dX10_groan v1 v2 m = some (groQ m s lv v1 v2, m1) ∧ ch Sc m m1 := by
  have c0 : (0 : Int64).toInt = 0 := rfl
  have c2 : (2 : Int64).toInt = 2 := rfl
  unfold dX10_groan DX10_groan_21 groQ
  simp only [bytesIs_q k.2.2.2, within_m, i64, Option.bind_some, b01_0, biS_bad, c0, c2]
  by_cases h1 : okD v1
  · obtain ⟨e1, d6⟩ := d_n h1
    rw [if_neg (fun q => q h1)]
    by_cases h2 : 0 ≤ v2.toInt ∧ v2.toInt ≤ 2
    · rw [if_neg (fun q => q h2), if_pos (show okD v1 ∧ (0 ≤ v2.toInt ∧ v2.toInt ≤ 2) from ⟨h1, h2⟩)]
      simp only [biS_nn h1]
      by_cases hr : brS m (dN v1) = 0
      · obtain ⟨n0, B0⟩ := BR_of k.2.2.2 d6 hr
        have B := BR_rn B0
        obtain ⟨M2, y1, y2⟩ := gro_l (v2 := v2) k d6 B FU 10 0 0 0 (-2) m (by omega) (by unfold FU; omega) ch.rf
        rw [nI_0, ← e1] at y1
        rw [if_pos hr, if_pos hr, y1]
        unfold DX10_groan_246
        refine ⟨M2, ?_, y2.up PWr_Sc⟩
        by_cases q0 : v2 = 0
        · rw [if_pos q0, if_pos q0]
        · rw [if_neg q0, if_neg q0]
          by_cases q1 : v2 = 1
          · rw [if_pos q1, if_pos q1]
          · rw [if_neg q1, if_neg q1]
      · rw [if_neg hr, if_neg hr]
        refine ⟨m, ?_, ch.rf⟩
        unfold biS
        rw [if_pos h1, if_neg hr]
    · rw [if_pos h2, if_neg (fun q => h2 q.2)]; exact ⟨m, rfl, ch.rf⟩
  · rw [if_pos h1, if_neg (fun q => h1 q.1)]; exact ⟨m, rfl, ch.rf⟩
theorem groan_j (J : JA m s b kn n t lv) : Ans (dX9_groan v1 v2) (dX10_groan v1 v2) m := Ans_sc J (pairQ (fun _ k => groan_x k) (fun _ k => groan_m k) (fun _ _ h => groQ_ch h) J.1)
end GROAN
