/-! ===== worthOf and of: alike on both sides ===== -/
section EASY
variable {mm : Mm} {s b kn : Nat} {lv : Option LF} {v1 v2 : Int32}
/-- a sack and a good, told as one number -/
abbrev okG (s : Nat) (v : Int32) : Prop := 0 ≤ v.toInt ∧ v.toInt / 10 < (s : Int) ∧ v.toInt % 10 < 6
theorem sg_n (hs : s ≤ 10) (h : okG s v2) : v2 / 10 = nI (bN v2) ∧ iRem v2 10 = nI (sN v2) ∧ bN v2 < s ∧ sN v2 < 6 := by
  have h1 := dv10 h.1
  have h2 := rm10 h.1
  unfold bN sN
  refine ⟨nI_of_toInt (by omega), nI_of_toInt (by omega), by omega, by omega⟩
def wofQ (mm : Mm) (s b : Nat) (lv : Option LF) (v1 v2 : Int32) : Int32 := if (0 ≤ v1.toInt ∧ v1.toInt < (b : Int)) ∧ okG s v2 then worthS (TT mm) s lv (dN v1) (sN v2) (gI mm 8 (bN v2)) else -1
theorem wofQ_ch {m m' : Mm} (h : ch Sc m m') : wofQ m' s b lv v1 v2 = wofQ m s b lv v1 v2 := by
  unfold wofQ
  rw [TT_Sc h, h.I (o := 8) rfl]
theorem worthOf_x (k : K mm s b kn lv) : ∃ m1, dX9_worthOf v1 v2 mm = some (wofQ mm s b lv v1 v2, m1) ∧ ch Sc mm m1 := by
  unfold dX9_worthOf DX9_worthOf_21 wofQ
  simp only [holds_x k.1.1, isSg_x k.1.1, Option.bind_some, b01_0, Int32.reduceToInt]
  have s10 := k.1.1.s10
  have b6 := k.1.1.b6
  by_cases h1 : 0 ≤ v1.toInt ∧ v1.toInt < (b : Int)
  · rw [if_neg (fun q => q (by right; right; omega))]
    by_cases h2 : okG s v2
    · obtain ⟨e1, e2, e3, e4⟩ := sg_n s10 h2
      have et : dX7_told 5 (v2 / 10) mm = some (gI mm 8 (bN v2), mm) := told_x k.1.1 (wn := 5) (kn := bN v2) rfl (by rw [e1, nI_toInt (by omega)]) (by right; left; omega)
      obtain ⟨m2, y1, y2⟩ := worthTo_x (asked := gI mm 8 (bN v2)) k.1 k.2.1 (bn := dN v1) (gn := sN v2) (bi := v1) (gi := iRem v2 10) (by unfold dN; omega) e4 (nI_of_toInt (by unfold dN; omega)) e2
      rw [if_neg (fun q => q h2), et, Option.bind_some]
      dsimp only
      rw [y1, Option.bind_some, if_pos ⟨h1, h2⟩]
      exact ⟨m2, rfl, y2.up PW_Sc⟩
    · rw [if_pos h2, if_neg (fun q => h2 q.2)]; exact ⟨mm, rfl, ch.rf⟩
  · rw [if_pos (fun q => h1 (by omega)), if_neg (fun q => h1 q.1)]; exact ⟨mm, rfl, ch.rf⟩
theorem worthOf_m (k : K mm s b kn lv) : ∃ m1, dX10_worthOf v1 v2 mm = some (wofQ mm s b lv v1 v2, m1) ∧ ch Sc mm m1 := by
  unfold dX10_worthOf DX10_worthOf_60 wofQ
  simp only [isBuyer_m k.1.1, isSack_m k.1.1, isGood_m, i64, Option.bind_some, b01_0, toI_lt, Int32.reduceToInt]
  have s10 := k.1.1.s10
  have b6 := k.1.1.b6
  by_cases h1 : 0 ≤ v1.toInt ∧ v1.toInt < (b : Int)
  · rw [if_neg (fun q => q h1)]
    by_cases h0 : 0 ≤ v2.toInt
    · have d1 := dv10 h0
      have d2 := rm10 h0
      rw [if_neg (by omega)]
      by_cases h2 : okG s v2
      · obtain ⟨e1, e2, e3, e4⟩ := sg_n s10 h2
        have e34 : (34 : Int32) + v2 / 10 = nI (34 + bN v2) := by rw [e1, show (34 : Int32) = nI 34 from rfl, nI_add]
        have j8 := ((k.1.2.2.1 (bN v2) e3).2.1).1
        obtain ⟨m2, y1, y2⟩ := worthFor_m (asked := gI mm 8 (bN v2)) k.1 k.2.2.1 (bn := dN v1) (gn := sN v2) (bi := v1) (gi := iRem v2 10) (by unfold dN; omega) e4 (nI_of_toInt (by unfold dN; omega)) e2
        rw [if_neg (fun q => q (by omega)), if_neg (fun q => q (by omega)), e34, if_pos (inB_nI (by omega) (by omega)), nI_clamp (by omega), j8, y1, Option.bind_some, if_pos ⟨h1, h2⟩]
        exact ⟨m2, rfl, y2.up PWr_Sc⟩
      · rw [if_neg (show ¬ ((0 ≤ v1.toInt ∧ v1.toInt < (b : Int)) ∧ okG s v2) from fun q => h2 q.2)]
        refine ⟨mm, ?_, ch.rf⟩
        by_cases h3 : v2.toInt / 10 < (s : Int)
        · rw [if_neg (fun q => q (by omega)), if_pos (fun q => h2 ⟨h0, h3, by omega⟩)]
        · rw [if_pos (fun q => h3 (by omega))]
    · rw [if_pos (by omega), if_neg (fun q => h0 q.2.1)]; exact ⟨mm, rfl, ch.rf⟩
  · rw [if_pos h1, if_neg (fun q => h1 q.1)]; exact ⟨mm, rfl, ch.rf⟩
/-- a number told: what, whose -/
def ofQ (mm : Mm) (s b : Nat) (v1 v2 : Int32) : Int32 := if hd s b v2.toInt v1.toInt then gI mm (3 + v2.toInt.toNat) v1.toInt.toNat else -2000000000
theorem ofQ_ch {m m' : Mm} (h : ch Sc m m') : ofQ m' s b v1 v2 = ofQ m s b v1 v2 := by
  unfold ofQ
  by_cases hh : hd s b v2.toInt v1.toInt
  · rw [if_pos hh, if_pos hh]
    exact h.I (Sc_w (by unfold hd at hh; omega))
  · rw [if_neg hh, if_neg hh]
theorem of_x (k : K mm s b kn lv) : ∃ m1, dX9_of v1 v2 mm = some (ofQ mm s b v1 v2, m1) ∧ ch Sc mm m1 := by
  refine ⟨mm, ?_, ch.rf⟩
  unfold dX9_of ofQ
  simp only [holds_x k.1.1, Option.bind_some, b01_0]
  by_cases hh : hd s b v2.toInt v1.toInt
  · have t := told_x k.1.1 (w := v2) (k := v1) (wn := v2.toInt.toNat) (kn := v1.toInt.toNat) (by unfold hd at hh; omega) (by unfold hd at hh; omega) (by unfold hd at hh ⊢; omega)
    rw [if_neg (fun q => q hh), if_pos hh, t, Option.bind_some]
  · rw [if_pos hh, if_neg hh]
theorem placeOf_m (J : Js mm s b) : dX10_placeOf v1 v2 mm = some (if 0 ≤ v2.toInt ∧ v2.toInt ≤ 3 then (if 0 ≤ v1.toInt ∧ v1.toInt ≤ 5 then 6 * v2 + v1 else -1) else if 4 ≤ v2.toInt ∧ v2.toInt ≤ 5 then (if 0 ≤ v1.toInt ∧ v1.toInt < (s : Int) then 24 + 10 * (v2 - 4) + v1 else -1) else if 6 ≤ v2.toInt ∧ v2.toInt ≤ 8 then (if 0 ≤ v1.toInt ∧ v1.toInt < (b : Int) then 44 + 6 * (v2 - 6) + v1 else -1) else -1, mm) := by
  unfold dX10_placeOf DX10_placeOf_108
  simp only [within_m, isGood_m, isSack_m J, isBuyer_m J, i64, Option.bind_some, b01_0]
  have c0 : (0 : Int64).toInt = 0 := rfl
  have c3 : (3 : Int64).toInt = 3 := rfl
  have c4 : (4 : Int64).toInt = 4 := rfl
  have c5 : (5 : Int64).toInt = 5 := rfl
  have c6 : (6 : Int64).toInt = 6 := rfl
  have c8 : (8 : Int64).toInt = 8 := rfl
  rw [c0, c3, c4, c5, c6, c8]
  by_cases h1 : 0 ≤ v2.toInt ∧ v2.toInt ≤ 3
  · rw [if_neg (fun q => q h1), if_pos h1]
    by_cases h2 : 0 ≤ v1.toInt ∧ v1.toInt ≤ 5
    · rw [if_neg (fun q => q h2), if_pos h2]
    · rw [if_pos h2, if_neg h2]
  · rw [if_pos h1, if_neg h1]
    by_cases h3 : 4 ≤ v2.toInt ∧ v2.toInt ≤ 5
    · rw [if_neg (fun q => q h3), if_pos h3]
      by_cases h2 : 0 ≤ v1.toInt ∧ v1.toInt < (s : Int)
      · rw [if_neg (fun q => q h2), if_pos h2]
      · rw [if_pos h2, if_neg h2]
    · rw [if_pos h3, if_neg h3]
      by_cases h4 : 6 ≤ v2.toInt ∧ v2.toInt ≤ 8
      · rw [if_neg (fun q => q h4), if_pos h4]
        by_cases h2 : 0 ≤ v1.toInt ∧ v1.toInt < (b : Int)
        · rw [if_neg (fun q => q h2), if_pos h2]
        · rw [if_pos h2, if_neg h2]
      · rw [if_pos h4, if_neg h4]
theorem lin_n {c a : Int32} {cn : Nat} {x k : Int32} (hc : c.toInt = cn) (hcn : cn ≤ 10) (ha : 0 ≤ a.toInt ∧ a.toInt ≤ 50) (hx : 0 ≤ x.toInt ∧ x.toInt ≤ 3) (hk : 0 ≤ k.toInt ∧ k.toInt ≤ 10) : a + c * x + k = nI (a.toInt.toNat + cn * x.toInt.toNat + k.toInt.toNat) := by
  have m0 : c.toInt * x.toInt = ((cn * x.toInt.toNat : Nat) : Int) := by rw [hc, Int.natCast_mul, Int.toNat_of_nonneg hx.1]
  have m1 : cn * x.toInt.toNat ≤ 10 * 3 := Nat.mul_le_mul hcn (by omega)
  have e1 : (c * x).toInt = ((cn * x.toInt.toNat : Nat) : Int) := by rw [iMul (by rw [m0]; omega) (by rw [m0]; omega), m0]
  have e2 : (a + c * x).toInt = a.toInt + ((cn * x.toInt.toNat : Nat) : Int) := by rw [iAdd (by rw [e1]; omega) (by rw [e1]; omega), e1]
  exact nI_of_toInt (by rw [iAdd (by rw [e2]; omega) (by rw [e2]; omega), e2]; omega)
/-- a place of the reference's table, and what lies there -/
theorem place_m (J : Jt mm s b) (h : hd s b v2.toInt v1.toInt) (h8 : v2.toInt ≤ 8) : ∃ p, p < 62 ∧ dX10_placeOf v1 v2 mm = some (nI p, mm) ∧ gI mm 59 p = gI mm (3 + v2.toInt.toNat) v1.toInt.toNat := by
  have s10 := J.1.s10
  have b6 := J.1.b6
  rw [placeOf_m J.1]
  unfold hd at h
  by_cases h1 : 0 ≤ v2.toInt ∧ v2.toInt ≤ 3
  · have e := lin_n (c := 6) (a := 0) (cn := 6) (x := v2) (k := v1) rfl (by omega) ⟨by decide, by decide⟩ h1 (by omega)
    rw [Int32.zero_add] at e
    have j := (J.2.1 v2.toInt.toNat v1.toInt.toNat (by omega) (by omega)).1
    have z : (0 : Int32).toInt.toNat = 0 := rfl
    rw [z, Nat.zero_add] at e
    refine ⟨6 * v2.toInt.toNat + v1.toInt.toNat, by omega, ?_, j⟩
    rw [if_pos h1, if_pos (by omega), e]
  · rw [if_neg h1]
    by_cases h3 : 4 ≤ v2.toInt ∧ v2.toInt ≤ 5
    · have e4 : (v2 - 4).toInt = v2.toInt - 4 := iSub (by show _ ≤ _ - 4; omega) (by show _ - 4 < _; omega)
      have e := lin_n (c := 10) (a := 24) (cn := 10) (x := v2 - 4) (k := v1) rfl (by omega) ⟨by decide, by decide⟩ (by omega) (by omega)
      have z : (24 : Int32).toInt.toNat = 24 := rfl
      rw [z, e4] at e
      have j := J.2.2.1 v1.toInt.toNat (by omega)
      refine ⟨24 + 10 * (v2.toInt - 4).toNat + v1.toInt.toNat, by omega, by rw [if_pos h3, if_pos (by omega), e], ?_⟩
      by_cases h5 : v2.toInt = 4
      · rw [h5]; exact j.1.1
      · have h5 : v2.toInt = 5 := by omega
        rw [h5]; exact j.2.1.1
    · have h6 : 6 ≤ v2.toInt ∧ v2.toInt ≤ 8 := by omega
      have e4 : (v2 - 6).toInt = v2.toInt - 6 := iSub (by show _ ≤ _ - 6; omega) (by show _ - 6 < _; omega)
      have e := lin_n (c := 6) (a := 44) (cn := 6) (x := v2 - 6) (k := v1) rfl (by omega) ⟨by decide, by decide⟩ (by omega) (by omega)
      have z : (44 : Int32).toInt.toNat = 44 := rfl
      rw [z, e4] at e
      have j := J.2.2.2.2 v1.toInt.toNat (by omega)
      refine ⟨44 + 6 * (v2.toInt - 6).toNat + v1.toInt.toNat, by omega, by rw [if_neg h3, if_pos h6, if_pos (by omega), e], ?_⟩
      by_cases h5 : v2.toInt = 6
      · rw [h5]; exact j.1.1
      · by_cases h7 : v2.toInt = 7
        · rw [h7]; exact j.2.1.1
        · have h9 : v2.toInt = 8 := by omega
          rw [h9]; exact j.2.2.1
theorem place_bad (J : Js mm s b) (h : ¬ (hd s b v2.toInt v1.toInt ∧ v2.toInt ≤ 8)) : dX10_placeOf v1 v2 mm = some (-1, mm) := by
  rw [placeOf_m J]
  unfold hd at h
  repeat' split
  all_goals first | rfl | (exfalso; omega)
theorem of_m (k : K mm s b kn lv) : ∃ m1, dX10_of v1 v2 mm = some (ofQ mm s b v1 v2, m1) ∧ ch Sc mm m1 := by
  refine ⟨mm, ?_, ch.rf⟩
  have s10 := k.1.1.s10
  unfold dX10_of ofQ
  by_cases h8 : hd s b v2.toInt v1.toInt ∧ v2.toInt ≤ 8
  · obtain ⟨p, p1, p2, p3⟩ := place_m k.1 h8.1 h8.2
    rw [p2, Option.bind_some, if_pos h8.1]
    dsimp only
    rw [if_neg (by rw [toI_lt, nI_toInt (by omega)]; simp), if_pos (inB_nI p1 (by omega)), nI_clamp (by omega), p3]
  · rw [place_bad k.1.1 h8, Option.bind_some]
    dsimp only
    rw [if_pos (by decide), isSack_m k.1.1, Option.bind_some]
    have e9 : (v2 = 9) = (v2.toInt = 9) := by rw [toI_eq]; rfl
    have e10 : (v2 = 10) = (v2.toInt = 10) := by rw [toI_eq]; rfl
    simp only [i64, b01_0, e9, e10]
    by_cases h1 : 0 ≤ v1.toInt ∧ v1.toInt < (s : Int)
    · have j := k.1.2.2.1 v1.toInt.toNat (by omega)
      rw [if_neg (fun q => q h1)]
      by_cases h9 : v2.toInt = 9
      · rw [if_pos h9, if_pos (show hd s b v2.toInt v1.toInt by unfold hd; omega), if_pos (inB_iff.mpr (by omega)), h9]
        exact congrArg (fun z => some (z, mm)) j.2.2.1.1
      · rw [if_neg h9]
        by_cases h10 : v2.toInt = 10
        · rw [if_pos h10, if_pos (show hd s b v2.toInt v1.toInt by unfold hd; omega), if_pos (inB_iff.mpr (by omega)), h10]
          have e64 : gI mm 64 v1.toNatClampNeg = gI mm 13 v1.toInt.toNat := j.2.2.2.1
          have e13 : gI mm (3 + (10 : Int).toNat) v1.toInt.toNat = gI mm 13 v1.toInt.toNat := rfl
          rw [e64, e13]
          rcases j.2.2.2.2 with q | q
          · rw [q, if_pos (by decide)]
          · rw [q, if_neg (by decide)]
        · rw [if_neg h10, if_neg (show ¬ hd s b v2.toInt v1.toInt by unfold hd at h8 ⊢; omega)]
    · rw [if_pos h1, if_neg (show ¬ hd s b v2.toInt v1.toInt by unfold hd at h8 ⊢; omega)]
end EASY
theorem worthOf_p {s b kn : Nat} {lv : Option LF} {v1 v2 : Int32} {m : Mm} (k : K m s b kn lv) : ∃ r m1 m2, dX9_worthOf v1 v2 m = some (r, m1) ∧ dX10_worthOf v1 v2 m1 = some (r, m2) ∧ ch Sc m m2 := pairQ (fun _ k => worthOf_x k) (fun _ k => worthOf_m k) (fun _ _ h => wofQ_ch h) k
theorem of_p {s b kn : Nat} {lv : Option LF} {v1 v2 : Int32} {m : Mm} (k : K m s b kn lv) : ∃ r m1 m2, dX9_of v1 v2 m = some (r, m1) ∧ dX10_of v1 v2 m1 = some (r, m2) ∧ ch Sc m m2 := pairQ (fun _ k => of_x k) (fun _ k => of_m k) (fun _ _ h => ofQ_ch h) k
