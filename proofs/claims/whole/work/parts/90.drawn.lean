/-! ===== drawn: alike on both sides ===== -/
section DRAWN
variable {m : Mm} {s b kn n : Nat} {t : Nat → Nat} {lv : Option LF} {v1 v2 v3 v4 : Int32}
def frS (T : Nat → Nat → Int32) (k : Nat) : Prop := (T 9 k).toInt < 0 ∧ ¬ T 10 k = 1
theorem free_x (J : Jt m s b) {k : Nat} (hk : k < s) : dX7_isFree (nI k) m = some (b01 ((TT m 9 k).toInt < 0 ∧ ¬ TT m 10 k = 1), m) := isFree_x J.1 (nI_toInt (by have := J.1.s10; omega)) hk
theorem free_m (J : Jt m s b) {k : Nat} (hk : k < s) : dX10_isFree (nI k) m = some (b01 ((TT m 9 k).toInt < 0 ∧ ¬ TT m 10 k = 1), m) := isFree_m J (nI_toInt (by have := J.1.s10; omega)) hk
theorem ush8 {z : Int32} : ∃ q : Nat, q < 16777216 ∧ iUshr z 8 = nI q := by
  have e1 : (iUshr z 8).toInt = (z.toUInt32 >>> (8 : UInt32)).toBitVec.toInt := rfl
  have e2 : (z.toUInt32 >>> (8 : UInt32)).toNat = z.toUInt32.toNat / 256 := by
    rw [UInt32.toNat_shiftRight]
    show z.toUInt32.toNat >>> 8 = _
    rw [Nat.shiftRight_eq_div_pow]
  have h1 : z.toUInt32.toNat < 4294967296 := z.toUInt32.toBitVec.isLt
  have h2 : (z.toUInt32 >>> (8 : UInt32)).toBitVec.toNat = z.toUInt32.toNat / 256 := e2
  have e3 : (iUshr z 8).toInt = ((z.toUInt32.toNat / 256 : Nat) : Int) := by
    rw [e1, BitVec.toInt_eq_toNat_of_lt (by rw [h2]; omega), h2]
  exact ⟨z.toUInt32.toNat / 256, by omega, nI_of_toInt e3⟩
def gdS (z : Int32) : Nat := ((iUshr z 8).toInt % 6).toNat
theorem gd_n {z : Int32} : iRem (iUshr z 8) 6 = nI (gdS z) ∧ gdS z < 6 := by
  obtain ⟨q, hq, e⟩ := ush8 (z := z)
  have eq : (nI q).toInt = q := nI_toInt (by omega)
  have h : (iRem (iUshr z 8) 6).toInt = (iUshr z 8).toInt % 6 := by
    rw [iRem_toInt (by rw [e, eq]; omega) (by decide)]; rfl
  unfold gdS
  rw [e, eq] at h ⊢
  exact ⟨nI_of_toInt (by omega), by omega⟩
def nxS (z : Int32) : Int32 := z * 1103515245 + 12345
/-- a day: what is drawn, how many are bought, what is gained, and what is left of the purse -/
def dyS (T : Nat → Nat → Int32) (s : Nat) (lv : Option LF) (b : Nat) : Nat → Nat → Int32 → Int32 → Int32 → Int32 → Int32 × Int32 × Int32
  | 0, _, z, bo, ga, _ => (z, bo, ga)
  | f + 1, k, z, bo, ga, pu =>
    if (T 9 k).toInt < 0 ∧ ¬ T 10 k = 1 then
      (if (T 5 k).toInt ≤ pu.toInt ∧ (T 5 k).toInt ≤ (worthS T s lv b (gdS (nxS z)) (T 5 k)).toInt then
        dyS T s lv b f (k + 1) (nxS z) (bo + 1) (ga + (worthS T s lv b (T 4 k).toInt.toNat (T 5 k) - T 5 k)) (pu - T 5 k)
      else dyS T s lv b f (k + 1) (nxS z) bo ga pu)
    else dyS T s lv b f (k + 1) z bo ga pu
def dzS (T : Nat → Nat → Int32) (s : Nat) (lv : Option LF) (b : Nat) : Nat → Int32 × Int32 × Int32 → Int32 × Int32 × Int32
  | 0, st => st
  | f + 1, st => dzS T s lv b f (dyS T s lv b s 0 st.1 st.2.1 st.2.2 (T 6 b))
def drwQ (mm : Mm) (s b : Nat) (lv : Option LF) (v1 v2 v3 v4 : Int32) : Int32 := if (1 ≤ v2.toInt ∧ v2.toInt ≤ 30) ∧ (0 ≤ v3.toInt ∧ v3.toInt < (b : Int)) ∧ okP v4 then (if v4 = 0 then (dzS (TT mm) s lv v3.toInt.toNat v2.toInt.toNat (v1, 0, 0)).2.1 else (dzS (TT mm) s lv v3.toInt.toNat v2.toInt.toNat (v1, 0, 0)).2.2) else -2000000000
theorem days_1 (k : K m s b kn lv) {bn : Nat} (hb : bn < b) {k12 : Int32 → Int32 → Int32 → Int32 → Int32 → Int32 → Int32 → Mm → Option (Int32 × Mm)} {day : Int32} : ∀ (N f i : Nat) (z bo ga pu : Int32) (M : Mm), i + f = s → f < N → ch PW m M → ∃ M2, DX2_days_33 k12 N v2 (nI bn) v4 z bo ga day pu (nI i) M = k12 v2 (nI bn) v4 (dyS (TT m) s lv bn f i z bo ga pu).1 (dyS (TT m) s lv bn f i z bo ga pu).2.1 (dyS (TT m) s lv bn f i z bo ga pu).2.2 (day + 1) M2 ∧ ch PW m M2 := by
  have s10 := k.1.1.s10
  intro N
  induction N with
  | zero => intro f i z bo ga pu M h1 h2; omega
  | succ N ih =>
    intro f i z bo ga pu M h1 h2 c
    have cS := c.up PW_Sc
    have KM := k.ch cS
    have eT := TT_Sc cS
    show ∃ M2, BX2_days_33 k12 (DX2_days_33 k12 N) v2 (nI bn) v4 z bo ga day pu (nI i) M = _ ∧ _
    unfold BX2_days_33 DX2_days_151
    rw [KM.1.1.2.2.1]
    cases f with
    | zero =>
      have e : i = s := by omega
      subst e
      rw [if_pos (Int32.le_refl _)]
      exact ⟨M, rfl, c⟩
    | succ f =>
      have his : i < s := by omega
      have ei : (nI i).toInt = i := nI_toInt (by omega)
      rw [if_neg (nI_ge his (by omega)), free_x KM.1 his, Option.bind_some, eT]
      simp only [b01_0, nI_1]
      unfold dyS
      by_cases hf : (TT m 9 i).toInt < 0 ∧ ¬ TT m 10 i = 1
      · rw [if_neg (fun q => q hf), if_pos hf, told_x KM.1.1 (wn := 5) (by simp) ei (by unfold hd; omega), Option.bind_some]
        dsimp only [Nat.reduceAdd]
        have e5 : gI M 8 i = TT m 5 i := by rw [← eT]; rfl
        obtain ⟨g1, g2⟩ := gd_n (z := nxS z)
        rw [e5, show z * 1103515245 + 12345 = nxS z from rfl]
        simp only [toI_lt]
        by_cases hp : (TT m 5 i).toInt ≤ pu.toInt
        · obtain ⟨M1, y1, y2⟩ := worthTo_x (asked := TT m 5 i) KM.1 KM.2.1 (bn := bn) (gn := gdS (nxS z)) hb g2 rfl g1
          rw [eT] at y1
          rw [if_neg (by omega), y1, Option.bind_some]
          dsimp only
          have c1 := c.tr y2
          by_cases hw : (TT m 5 i).toInt ≤ (worthS (TT m) s lv bn (gdS (nxS z)) (TT m 5 i)).toInt
          · have KM1 := k.ch (c1.up PW_Sc)
            have e4 : gI M1 7 i = TT m 4 i := by rw [← TT_Sc (c1.up PW_Sc)]; rfl
            have r4 := (k.1.2.2.1 i his).1.2
            have r4' : 0 ≤ (TT m 4 i).toInt ∧ (TT m 4 i).toInt ≤ 5 := r4
            obtain ⟨M2, w1, w2⟩ := worthTo_x (asked := TT m 5 i) KM1.1 KM1.2.1 (bn := bn) (gn := (TT m 4 i).toInt.toNat) (bi := nI bn) (gi := TT m 4 i) hb (by omega) rfl (nI_of_toInt (by omega))
            rw [TT_Sc (c1.up PW_Sc)] at w1
            rw [if_neg (by omega), told_x KM1.1.1 (wn := 4) (by simp) ei (by unfold hd; omega), Option.bind_some, if_pos ⟨hp, hw⟩]
            dsimp only [Nat.reduceAdd]
            rw [e4, w1, Option.bind_some]
            exact ih f (i + 1) _ _ _ _ M2 (by omega) (by omega) (c1.tr w2)
          · rw [if_pos (by omega), if_neg (fun q => hw q.2)]
            exact ih f (i + 1) _ _ _ _ M1 (by omega) (by omega) c1
        · rw [if_pos (by omega), if_neg (fun q => hp q.1)]
          exact ih f (i + 1) _ _ _ _ M (by omega) (by omega) c
      · rw [if_pos hf, if_neg hf]
        exact ih f (i + 1) _ _ _ _ M (by omega) (by omega) c
theorem days_2 (k : K m s b kn lv) {bn nn : Nat} (hb : bn < b) (hn : nn ≤ 30) : ∀ (N f d : Nat) (z bo ga : Int32) (M : Mm), d + f = nn → f < N → ch PW m M → ∃ M2, DX2_days_12 N (nI nn) (nI bn) v4 z bo ga (nI d) M = some (if v4 = 0 then (dzS (TT m) s lv bn f (z, bo, ga)).2.1 else (dzS (TT m) s lv bn f (z, bo, ga)).2.2, M2) ∧ ch PW m M2 := by
  have b6 := k.1.1.b6
  intro N
  induction N with
  | zero => intro f d z bo ga M h1 h2; omega
  | succ N ih =>
    intro f d z bo ga M h1 h2 c
    have cS := c.up PW_Sc
    have KM := k.ch cS
    show ∃ M2, BX2_days_12 (DX2_days_12 N) (nI nn) (nI bn) v4 z bo ga (nI d) M = _ ∧ _
    unfold BX2_days_12
    cases f with
    | zero =>
      have e : d = nn := by omega
      subst e
      rw [if_pos (Int32.le_refl _)]
      refine ⟨M, ?_, c⟩
      unfold dzS
      split <;> rfl
    | succ f =>
      have eb : (nI bn).toInt = bn := nI_toInt (by omega)
      rw [if_neg (nI_ge (by omega) (by omega)), told_x KM.1.1 (wn := 6) (by simp) eb (by unfold hd; omega), Option.bind_some]
      dsimp only [Nat.reduceAdd]
      have e6 : gI M 9 bn = TT m 6 bn := by rw [← TT_Sc cS]; rfl
      rw [e6]
      obtain ⟨M1, y1, y2⟩ := days_1 (v2 := nI nn) (v4 := v4) (day := nI d) (k12 := DX2_days_12 N) k hb FU s 0 z bo ga (TT m 6 bn) M (by omega) (by unfold FU; have := k.1.1.s10; omega) c
      rw [nI_0, nI_1] at y1
      rw [y1]
      exact ih f (d + 1) _ _ _ M1 (by omega) (by omega) y2
theorem drawn_x (k : K m s b kn lv) : ∃ m1, dX9_drawn v1 v2 v3 v4 m = some (drwQ m s b lv v1 v2 v3 v4, m1) ∧ ch Sc m m1 := by
  have z1 : (1 : Int32).toInt = 1 := rfl
  have z6 : (6 : Int32).toInt = 6 := rfl
  have z30 : (30 : Int32).toInt = 30 := rfl
  unfold dX9_drawn DX9_drawn_32 drwQ dX2_days
  simp only [holds_x k.1.1, isPart_x, Option.bind_some, b01_0, toI_lt, z1, z6, z30]
  by_cases h1 : 1 ≤ v2.toInt ∧ v2.toInt ≤ 30
  · by_cases h2 : 0 ≤ v3.toInt ∧ v3.toInt < (b : Int)
    · by_cases h3 : okP v4
      · obtain ⟨nn, hn⟩ : ∃ q : Nat, v2.toInt = q := ⟨v2.toInt.toNat, by omega⟩
        obtain ⟨bn, hbn⟩ : ∃ q : Nat, v3.toInt = q := ⟨v3.toInt.toNat, by omega⟩
        rw [if_neg (by omega), if_neg (by omega), if_neg (fun q => q (by unfold hd; omega)), if_neg (fun q => q h3), if_pos ⟨h1, h2, h3⟩, hn, hbn, Int.toNat_natCast, Int.toNat_natCast, nI_of_toInt hn, nI_of_toInt hbn]
        obtain ⟨M2, y1, y2⟩ := days_2 (v4 := v4) k (bn := bn) (nn := nn) (by omega) (by omega) FU nn 0 v1 0 0 m (by omega) (by unfold FU; omega) ch.rf
        rw [nI_0] at y1
        rw [y1, Option.bind_some]
        exact ⟨M2, rfl, y2.up PW_Sc⟩
      · rw [if_neg (by omega), if_neg (by omega), if_neg (fun q => q (by unfold hd; omega)), if_pos h3, if_neg (fun q => h3 q.2.2)]
        exact ⟨m, rfl, ch.rf⟩
    · rw [if_neg (by omega), if_neg (by omega), if_pos (by unfold hd; omega), if_neg (fun q => h2 q.2.1)]
      exact ⟨m, rfl, ch.rf⟩
  · rw [if_neg (show ¬ ((1 ≤ v2.toInt ∧ v2.toInt ≤ 30) ∧ (0 ≤ v3.toInt ∧ v3.toInt < (b : Int)) ∧ okP v4) from fun q => h1 q.1)]
    refine ⟨m, ?_, ch.rf⟩
    by_cases h4 : v2.toInt < 1
    · rw [if_pos h4]
    · rw [if_neg h4, if_pos (by omega)]
theorem drw_1 (k : K m s b kn lv) {bn : Nat} (hb : bn < b) {k47 : Int32 → Int32 → Int32 → Int32 → Int32 → Int32 → Int32 → Mm → Option (Int32 × Mm)} {day : Int32} : ∀ (N f i : Nat) (z bo ga pu : Int32) (M : Mm), i + f = s → f < N → ch PWr m M → ∃ M2, DX10_drawn_67 k47 N v2 (nI bn) v4 z bo ga day pu (nI i) M = k47 v2 (nI bn) v4 (dyS (TT m) s lv bn f i z bo ga pu).1 (dyS (TT m) s lv bn f i z bo ga pu).2.1 (dyS (TT m) s lv bn f i z bo ga pu).2.2 (day + 1) M2 ∧ ch PWr m M2 := by
  have s10 := k.1.1.s10
  intro N
  induction N with
  | zero => intro f i z bo ga pu M h1 h2; omega
  | succ N ih =>
    intro f i z bo ga pu M h1 h2 c
    have cS := c.up PWr_Sc
    have KM := k.ch cS
    have eT := TT_Sc cS
    show ∃ M2, BX10_drawn_67 k47 (DX10_drawn_67 k47 N) v2 (nI bn) v4 z bo ga day pu (nI i) M = _ ∧ _
    unfold BX10_drawn_67 DX10_drawn_171
    rw [KM.1.1.2.2.2.2.1]
    cases f with
    | zero =>
      have e : i = s := by omega
      subst e
      rw [if_pos (Int32.le_refl _)]
      exact ⟨M, rfl, c⟩
    | succ f =>
      have his : i < s := by omega
      have e34 : (34 : Int32) + nI i = nI (34 + i) := by rw [show (34 : Int32) = nI 34 from rfl, nI_add]
      have e24 : (24 : Int32) + nI i = nI (24 + i) := by rw [show (24 : Int32) = nI 24 from rfl, nI_add]
      have i34 : inB (nI (34 + i)) 62 := inB_nI (by omega) (by omega)
      have i24 : inB (nI (24 + i)) 62 := inB_nI (by omega) (by omega)
      have jk := k.1.2.2.1 i his
      have g34 : ∀ M' : Mm, ch PWr m M' → gI M' 59 (34 + i) = TT m 5 i := fun M' c' => by rw [c'.I rfl]; exact jk.2.1.1
      have g24 : ∀ M' : Mm, ch PWr m M' → gI M' 59 (24 + i) = TT m 4 i := fun M' c' => by rw [c'.I rfl]; exact jk.1.1
      rw [if_neg (nI_ge his (by omega)), free_m KM.1 his, Option.bind_some, eT]
      simp only [b01_0, nI_1, e34, e24, if_pos i34, if_pos i24, nI_clamp (show 34 + i < 2 ^ 31 by omega), nI_clamp (show 24 + i < 2 ^ 31 by omega), g34 M c]
      unfold dyS
      by_cases hf : (TT m 9 i).toInt < 0 ∧ ¬ TT m 10 i = 1
      · rw [if_neg (fun q => q hf), if_pos hf]
        obtain ⟨g1, g2⟩ := gd_n (z := nxS z)
        rw [show z * 1103515245 + 12345 = nxS z from rfl]
        simp only [toI_lt]
        obtain ⟨M1, y1, y2⟩ := worthFor_m (asked := TT m 5 i) KM.1 KM.2.2.1 (bn := bn) (gn := gdS (nxS z)) hb g2 rfl g1
        rw [eT] at y1
        rw [y1, Option.bind_some]
        have c1 := c.tr y2
        simp only [g24 M1 c1]
        by_cases hw : (TT m 5 i).toInt ≤ (worthS (TT m) s lv bn (gdS (nxS z)) (TT m 5 i)).toInt
        · rw [if_neg (by omega)]
          by_cases hp : (TT m 5 i).toInt ≤ pu.toInt
          · have KM1 := k.ch (c1.up PWr_Sc)
            have r4' : 0 ≤ (TT m 4 i).toInt ∧ (TT m 4 i).toInt ≤ 5 := jk.1.2
            obtain ⟨M2, w1, w2⟩ := worthFor_m (asked := TT m 5 i) KM1.1 KM1.2.2.1 (bn := bn) (gn := (TT m 4 i).toInt.toNat) (bi := nI bn) (gi := TT m 4 i) hb (by omega) rfl (nI_of_toInt (by omega))
            rw [TT_Sc (c1.up PWr_Sc)] at w1
            rw [if_neg (by omega), w1, Option.bind_some, if_pos ⟨hp, hw⟩]
            exact ih f (i + 1) _ _ _ _ M2 (by omega) (by omega) (c1.tr w2)
          · rw [if_pos (by omega), if_neg (fun q => hp q.1)]
            exact ih f (i + 1) _ _ _ _ M1 (by omega) (by omega) c1
        · rw [if_pos (by omega), if_neg (fun q => hw q.2)]
          exact ih f (i + 1) _ _ _ _ M1 (by omega) (by omega) c1
      · rw [if_pos hf, if_neg hf]
        exact ih f (i + 1) _ _ _ _ M (by omega) (by omega) c
theorem drw_2 (k : K m s b kn lv) {bn nn : Nat} (hb : bn < b) (hn : nn ≤ 30) : ∀ (N f d : Nat) (z bo ga : Int32) (M : Mm), d + f = nn → f < N → ch PWr m M → ∃ M2, DX10_drawn_47 N (nI nn) (nI bn) v4 z bo ga (nI d) M = some (if v4 = 0 then (dzS (TT m) s lv bn f (z, bo, ga)).2.1 else (dzS (TT m) s lv bn f (z, bo, ga)).2.2, M2) ∧ ch PWr m M2 := by
  have b6 := k.1.1.b6
  intro N
  induction N with
  | zero => intro f d z bo ga M h1 h2; omega
  | succ N ih =>
    intro f d z bo ga M h1 h2 c
    show ∃ M2, BX10_drawn_47 (DX10_drawn_47 N) (nI nn) (nI bn) v4 z bo ga (nI d) M = _ ∧ _
    unfold BX10_drawn_47
    cases f with
    | zero =>
      have e : d = nn := by omega
      subst e
      rw [if_pos (Int32.le_refl _)]
      refine ⟨M, ?_, c⟩
      unfold dzS
      split <;> rfl
    | succ f =>
      have e44 : (44 : Int32) + nI bn = nI (44 + bn) := by rw [show (44 : Int32) = nI 44 from rfl, nI_add]
      have e6 : gI M 59 (44 + bn) = TT m 6 bn := by rw [c.I rfl]; exact (k.1.2.2.2.2 bn hb).1.1
      rw [if_neg (nI_ge (by omega) (by omega)), e44, if_pos (inB_nI (by omega) (by omega)), nI_clamp (by omega), e6]
      obtain ⟨M1, y1, y2⟩ := drw_1 (v2 := nI nn) (v4 := v4) (day := nI d) (k47 := DX10_drawn_47 N) k hb FU s 0 z bo ga (TT m 6 bn) M (by omega) (by unfold FU; have := k.1.1.s10; omega) c
      rw [nI_0, nI_1] at y1
      rw [y1]
      exact ih f (d + 1) _ _ _ M1 (by omega) (by omega) y2
theorem drawn_m (k : K m s b kn lv) : ∃ m1, dX10_drawn v1 v2 v3 v4 m = some (drwQ m s b lv v1 v2 v3 v4, m1) ∧ ch Sc m m1 := by
  have c0 : (0 : Int64).toInt = 0 := rfl
  have c1 : (1 : Int64).toInt = 1 := rfl
  have c30 : (30 : Int64).toInt = 30 := rfl
  unfold dX10_drawn DX10_drawn_32 drwQ
  simp only [isBuyer_m k.1.1, within_m, i64, Option.bind_some, b01_0, c0, c1, c30]
  by_cases h1 : 1 ≤ v2.toInt ∧ v2.toInt ≤ 30
  · by_cases h2 : 0 ≤ v3.toInt ∧ v3.toInt < (b : Int)
    · by_cases h3 : okP v4
      · obtain ⟨nn, hn⟩ : ∃ q : Nat, v2.toInt = q := ⟨v2.toInt.toNat, by omega⟩
        obtain ⟨bn, hbn⟩ : ∃ q : Nat, v3.toInt = q := ⟨v3.toInt.toNat, by omega⟩
        rw [if_neg (fun q => q h1), if_neg (fun q => q h2), if_neg (fun q => q h3), if_pos ⟨h1, h2, h3⟩, hn, hbn, Int.toNat_natCast, Int.toNat_natCast, nI_of_toInt hn, nI_of_toInt hbn]
        obtain ⟨M2, y1, y2⟩ := drw_2 (v4 := v4) k (bn := bn) (nn := nn) (by omega) (by omega) FU nn 0 v1 0 0 m (by omega) (by unfold FU; omega) ch.rf
        rw [nI_0] at y1
        exact ⟨M2, y1, y2.up PWr_Sc⟩
      · rw [if_neg (fun q => q h1), if_neg (fun q => q h2), if_pos (show ¬ (0 ≤ v4.toInt ∧ v4.toInt ≤ 1) from h3), if_neg (fun q => h3 q.2.2)]
        exact ⟨m, rfl, ch.rf⟩
    · rw [if_neg (fun q => q h1), if_pos h2, if_neg (fun q => h2 q.2.1)]
      exact ⟨m, rfl, ch.rf⟩
  · rw [if_pos h1, if_neg (fun q => h1 q.1)]
    exact ⟨m, rfl, ch.rf⟩
theorem drawn_j (J : JA m s b kn n t lv) : Ans (dX9_drawn v1 v2 v3 v4) (dX10_drawn v1 v2 v3 v4) m := Ans_sc J (pairQ (fun _ k => drawn_x k) (fun _ k => drawn_m k) (fun _ _ h => by unfold drwQ; rw [TT_Sc h]) J.1)
end DRAWN
