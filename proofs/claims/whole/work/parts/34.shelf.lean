/-! ===== shelves; what queries may leave changed ===== -/
def Sc (o k : Nat) : Bool := o == 14 || o == 18 || o == 20 || o == 21 || o == 22 || o == 53 || o == 57 || o == 67 || o == 68 || o == 69 || o == 70 || o == 71 || o == 82 || (o == 19 && (k == 4 || k == 5)) || (o == 58 && ((decide (14 ≤ k) && decide (k ≤ 18)) || k == 36 || k == 37)) || (o == 15 && (k == 2 || k == 3)) || (o == 34 && k == 2)
theorem up_of {P P' : Nat → Nat → Bool} (h : ∀ o k, P o k = true → P' o k = true) : ∀ o k, P' o k = false → P o k = false := fun o k q => by
  cases e : P o k with
  | false => rfl
  | true => rw [h o k e] at q; cases q
theorem PW_Sc : ∀ o k, Sc o k = false → PW o k = false := up_of fun o k h => by
  unfold PW at h
  simp only [Bool.or_eq_true, beq_iff_eq] at h
  rcases h with (rfl | rfl) | rfl <;> rfl
theorem PWr_Sc : ∀ o k, Sc o k = false → PWr o k = false := up_of fun o k h => by
  unfold PWr at h
  simp only [Bool.or_eq_true, Bool.and_eq_true, beq_iff_eq] at h
  rcases h with rfl | ⟨rfl, h⟩
  · rfl
  · unfold Sc
    rw [h.1, h.2]
    rfl
def P1 (a : Nat) (o _k : Nat) : Bool := o == a
theorem P1_Sc {a : Nat} (ha : a = 14 ∨ a = 18 ∨ a = 20 ∨ a = 21 ∨ a = 22 ∨ a = 67 ∨ a = 68 ∨ a = 69 ∨ a = 70 ∨ a = 71 ∨ a = 82) : ∀ o k, Sc o k = false → P1 a o k = false := up_of fun o k h => by
  unfold P1 at h
  simp only [beq_iff_eq] at h
  subst h
  rcases ha with rfl | rfl | rfl | rfl | rfl | rfl | rfl | rfl | rfl | rfl | rfl <;> rfl
theorem Js.ch {m m' : Mm} {s b : Nat} (J : Js m s b) (h : ch Sc m m') : Js m' s b := by
  obtain ⟨a1, a2, a3, a4, a5, a6⟩ := J
  exact ⟨a1, a2, by rw [h.I rfl]; exact a3, by rw [h.I rfl]; exact a4, by rw [h.I rfl]; exact a5, by rw [h.I rfl]; exact a6⟩
theorem Sc_w {w g : Nat} (hw : w ≤ 10) : Sc (3 + w) g = false := by
  have : w = 0 ∨ w = 1 ∨ w = 2 ∨ w = 3 ∨ w = 4 ∨ w = 5 ∨ w = 6 ∨ w = 7 ∨ w = 8 ∨ w = 9 ∨ w = 10 := by omega
  rcases this with rfl | rfl | rfl | rfl | rfl | rfl | rfl | rfl | rfl | rfl | rfl <;> rfl
theorem Sc_sh {d k : Nat} (hd : d < 6) : Sc (38 + d) k = false := by
  have : d = 0 ∨ d = 1 ∨ d = 2 ∨ d = 3 ∨ d = 4 ∨ d = 5 := by omega
  rcases this with rfl | rfl | rfl | rfl | rfl | rfl <;> rfl
theorem Sc_el {d k : Nat} (hd : d < 6) : Sc (44 + d) k = false := by
  have : d = 0 ∨ d = 1 ∨ d = 2 ∨ d = 3 ∨ d = 4 ∨ d = 5 := by omega
  rcases this with rfl | rfl | rfl | rfl | rfl | rfl <;> rfl
theorem Jt.ch {m m' : Mm} {s b : Nat} (J : Jt m s b) (h : ch Sc m m') : Jt m' s b := by
  obtain ⟨j1, j2, j3, j4, j5⟩ := J
  refine ⟨j1.ch h, fun w g hw hg => ?_, fun k hk => ?_, fun k h1 h2 => ?_, fun k hk => ?_⟩
  · have := j2 w g hw hg
    rw [h.I (o := 59) rfl, h.I (Sc_w (by omega))]; exact this
  · have := j3 k hk
    rw [h.I (o := 59) rfl, h.I (o := 59) rfl, h.I (o := 7) rfl, h.I (o := 8) rfl, h.I (o := 63) rfl, h.I (o := 12) rfl, h.I (o := 64) rfl, h.I (o := 13) rfl]; exact this
  · rw [h.I (o := 64) rfl]; exact j4 k h1 h2
  · have := j5 k hk
    rw [h.I (o := 59) rfl, h.I (o := 59) rfl, h.I (o := 59) rfl, h.I (o := 9) rfl, h.I (o := 10) rfl, h.I (o := 11) rfl]; exact this
theorem TT_Sc {m m' : Mm} (h : ch Sc m m') : TT m' = TT m := TT_ch h (fun o k h1 h2 => by have := Sc_w (w := o - 3) (g := k) (by omega); rwa [show 3 + (o - 3) = o by omega] at this)
theorem LvC.ch {m m' : Mm} {lv : Option LF} (L : LvC m lv) (h : ch Sc m m') : LvC m' lv := L.ag (agL.of L.1 h rfl (fun o k q => by rcases q with rfl | rfl | rfl | rfl | rfl | rfl <;> rfl))
theorem LvR.ch {m m' : Mm} {lv : Option LF} (L : LvR m lv) (h : ch Sc m m') : LvR m' lv := L.ag (agT.of h rfl (fun k => rfl))
/-- shelf d, kn bodies -/
def Jh1 (mm : Mm) (d kn : Nat) : Prop :=
  (gI mm (38 + d) 1 = 0 ∧ gI mm 79 d = -1) ∨
  (gI mm (38 + d) 1 = 1 ∧ ∃ q, q < kn ∧ gI mm (38 + d) 2 = nI q ∧ gI mm 79 d = nI q) ∨
  (gI mm (38 + d) 1 = 2 ∧ ∃ t n, t < 5 ∧ n ≤ 60 ∧ gI mm (38 + d) 3 = nI t ∧ gI mm 79 d = nI (50 + t) ∧ gI mm (38 + d) 4 = nI n ∧ gI mm 80 d = nI n ∧ (∀ i, i < 60 → gL mm 81 (60 * d + i) = gL mm (44 + d) i) ∧ (t = 0 → ∀ i, i < 60 → -128 ≤ (gL mm (44 + d) i).toInt ∧ (gL mm (44 + d) i).toInt ≤ 127))
def Jh (mm : Mm) (kn : Nat) : Prop := kn ≤ 50 ∧ ∀ d, d < 6 → Jh1 mm d kn
/-- a row of n bytes lies on shelf d -/
def BR (mm : Mm) (d n : Nat) : Prop := gI mm (38 + d) 1 = 2 ∧ gI mm (38 + d) 3 = 0 ∧ gI mm (38 + d) 4 = nI n ∧ n ≤ 60 ∧ gI mm 79 d = 50 ∧ gI mm 80 d = nI n ∧ (∀ i, i < 60 → gL mm 81 (60 * d + i) = gL mm (44 + d) i) ∧ (∀ i, i < 60 → -128 ≤ (gL mm (44 + d) i).toInt ∧ (gL mm (44 + d) i).toInt ≤ 127)
theorem Jh1.ch {m m' : Mm} {d kn : Nat} (J : Jh1 m d kn) (hd : d < 6) (h : ch Sc m m') : Jh1 m' d kn := by
  have a1 : ∀ k, Sc (38 + d) k = false := fun k => Sc_sh hd
  have a2 : ∀ k, Sc (44 + d) k = false := fun k => Sc_el hd
  unfold Jh1 at J ⊢
  rw [h.I (a1 _), h.I (a1 _), h.I (a1 _), h.I (a1 _), h.I (o := 79) rfl, h.I (o := 80) rfl]
  rcases J with J | J | ⟨j1, t, n, j2, j3, j4, j5, j6, j7, j8, j9⟩
  · exact Or.inl J
  · exact Or.inr (Or.inl J)
  · refine Or.inr (Or.inr ⟨j1, t, n, j2, j3, j4, j5, j6, j7, fun i hi => ?_, fun q i hi => ?_⟩)
    · rw [h.L (o := 81) rfl, h.L (a2 _)]; exact j8 i hi
    · rw [h.L (a2 _)]; exact j9 q i hi
theorem Jh.ch {m m' : Mm} {kn : Nat} (J : Jh m kn) (h : ch Sc m m') : Jh m' kn := ⟨J.1, fun d hd => (J.2 d hd).ch hd h⟩
theorem BR.ch {m m' : Mm} {d n : Nat} (J : BR m d n) (hd : d < 6) (h : ch Sc m m') : BR m' d n := by
  have a1 : ∀ k, Sc (38 + d) k = false := fun k => Sc_sh hd
  have a2 : ∀ k, Sc (44 + d) k = false := fun k => Sc_el hd
  obtain ⟨j1, j2, j3, j4, j5, j6, j7, j8⟩ := J
  refine ⟨by rw [h.I (a1 _)]; exact j1, by rw [h.I (a1 _)]; exact j2, by rw [h.I (a1 _)]; exact j3, j4, by rw [h.I (o := 79) rfl]; exact j5, by rw [h.I (o := 80) rfl]; exact j6, fun i hi => ?_, fun i hi => ?_⟩
  · rw [h.L (o := 81) rfl, h.L (a2 _)]; exact j7 i hi
  · rw [h.L (a2 _)]; exact j8 i hi
def brS (mm : Mm) (d : Nat) : Int32 := if gI mm (38 + d) 1 = 0 then -11 else if gI mm (38 + d) 1 = 2 ∧ gI mm (38 + d) 3 = 0 then 0 else -12
theorem brS_ch {m m' : Mm} {d : Nat} (hd : d < 6) (h : ch Sc m m') : brS m' d = brS m d := by
  have a1 : ∀ k, Sc (38 + d) k = false := fun k => Sc_sh hd
  unfold brS
  rw [h.I (a1 _), h.I (a1 _)]
section SHELF
variable {mm : Mm} {d kn n : Nat}
theorem shO (hd : d < 6) : isSh (38 + d) := ⟨by omega, by omega⟩
theorem bytesRefusal_x (hd : d < 6) : dX8_bytesRefusal (38 + d) mm = some (brS mm d, mm) := by
  unfold dX8_bytesRefusal DX8_bytesRefusal_29 brS
  rw [if_pos (pSh (shO hd))]
  by_cases h0 : gI mm (38 + d) 1 = 0
  · rw [if_pos h0, if_pos h0]
  · rw [if_neg h0, if_neg h0]
    by_cases h1 : gI mm (38 + d) 1 = 2
    · rw [if_pos h1]
      by_cases h2 : gI mm (38 + d) 3 = 0
      · rw [if_pos h2, if_pos ⟨h1, h2⟩]
      · rw [if_neg h2, if_neg (fun q => h2 q.2)]
    · rw [if_neg h1, if_neg (fun q => h1 q.1)]
theorem BR_of (J : Jh mm kn) (hd : d < 6) (h : brS mm d = 0) : ∃ n, BR mm d n := by
  unfold brS at h
  rcases J.2 d hd with ⟨j1, -⟩ | ⟨j1, -⟩ | ⟨j1, t, n, j2, j3, j4, j5, j6, j7, j8, j9⟩
  · rw [if_pos j1] at h; exact absurd h (by decide)
  · rw [if_neg (by rw [j1]; decide), if_neg (fun q => absurd (j1.symm.trans q.1) (by decide))] at h; exact absurd h (by decide)
  · rw [if_neg (by rw [j1]; decide)] at h
    by_cases h2 : gI mm (38 + d) 3 = 0
    · have ht : t = 0 := by
        rw [j4] at h2
        have := (nI_eq (a := t) (b := 0) (by omega) (by omega)).mp h2
        exact this
      subst ht
      exact ⟨n, j1, h2, j6, j3, j5, j7, j8, j9 rfl⟩
    · rw [if_neg (fun q => h2 q.2)] at h; exact absurd h (by decide)
/-- the reference's word on a shelf -/
theorem bytesIs_m (J : Jh mm kn) (hd : d < 6) {v : Int32} (hv : v = nI d) : dX10_bytesIs v mm = some ((if brS mm d = 0 then 1 else brS mm d), mm) := by
  subst hv
  have e : (nI d).toInt = d := nI_toInt (by omega)
  unfold dX10_bytesIs
  rw [isShelf_m, Option.bind_some, e, b01_t (by omega), if_neg (show ¬ (1 : Int32) = 0 by decide), if_pos (inB_nI hd (by omega)), if_pos (inB_nI hd (by omega))]
  simp only [nI_clamp (show d < 2 ^ 31 by omega)]
  have hk := J.1
  rcases J.2 d hd with ⟨j1, j2⟩ | ⟨j1, q, j2, j3, j4⟩ | ⟨j1, t, n, j2, j3, j4, j5, -⟩
  · have eb : brS mm d = -11 := by unfold brS; rw [if_pos j1]
    rw [j2, if_neg (by decide), eb]; rfl
  · have e2 : (nI q).toInt = q := nI_toInt (by omega)
    have eb : brS mm d = -12 := by
      unfold brS
      rw [if_neg (by rw [j1]; decide), if_neg (fun q => absurd (j1.symm.trans q.1) (by decide))]
    rw [j4, if_pos (by rw [toI_le, e2, Int32.toInt_zero]; omega), if_neg (by rw [show (50 : Int32) = nI 50 from rfl, nI_eq (by omega) (by omega)]; omega), eb]; rfl
  · have e2 : (nI (50 + t)).toInt = (50 + t : Nat) := nI_toInt (by omega)
    have e3 : (nI (50 + t) = 50) = (t = 0) := propext (by rw [show (50 : Int32) = nI 50 from rfl, nI_eq (by omega) (by omega)]; omega)
    have e4 : (nI t = 0) = (t = 0) := propext (by rw [show (0 : Int32) = nI 0 from rfl, nI_eq (by omega) (by omega)])
    rw [j5, if_pos (by rw [toI_le, e2, Int32.toInt_zero]; omega)]
    simp only [e3]
    by_cases ht : t = 0
    · have eb : brS mm d = 0 := by
        unfold brS
        rw [if_neg (by rw [j1]; decide), if_pos ⟨j1, by rw [j4, ht]; rfl⟩]
      rw [if_pos ht, eb]; rfl
    · have eb : brS mm d = -12 := by
        unfold brS
        rw [if_neg (by rw [j1]; decide), if_neg (fun q => ht (by have := q.2; rw [j4, e4] at this; exact this))]
      rw [if_neg ht, eb]; rfl
theorem bytesIs_bad {v : Int32} (hv : ¬ (0 ≤ v.toInt ∧ v.toInt < 6)) : dX10_bytesIs v mm = some (-1, mm) := by
  unfold dX10_bytesIs
  rw [isShelf_m, Option.bind_some, b01_f hv, if_pos rfl]
theorem brS_v : brS mm d = 0 ∨ brS mm d = -11 ∨ brS mm d = -12 := by
  unfold brS
  repeat' split
  all_goals simp
/-- byte i of a row; where it lacks: -1000 -/
def byV (mm : Mm) (d n : Nat) (i : Int) : Int32 := if 0 ≤ i ∧ i < n then (gL mm (44 + d) i.toNat).toInt32 else -1000
theorem hasPlaces_x (hd : d < 6) (hn : n ≤ 60) (hl : gI mm (38 + d) 4 = nI n) {i w : Int32} : dX8_hasPlaces (38 + d) i w mm = some (b01 (0 ≤ i.toInt ∧ 0 ≤ w.toInt ∧ w.toInt ≤ n ∧ i.toInt ≤ n - w.toInt), mm) := by
  have e : (nI n).toInt = n := nI_toInt (by omega)
  unfold dX8_hasPlaces DX8_hasPlaces_30
  rw [if_pos (pSh (shO hd)), hl]
  by_cases h : 0 ≤ i.toInt ∧ 0 ≤ w.toInt ∧ w.toInt ≤ n ∧ i.toInt ≤ n - w.toInt
  · rw [b01_t h]
    simp only [toI_lt, Int32.reduceToInt, e]
    rw [if_neg (by omega), if_neg (by omega), if_neg (by omega), if_neg (by rw [iSub (by rw [e]; omega) (by rw [e]; omega), e]; omega)]
  · rw [b01_f h]
    simp only [toI_lt, Int32.reduceToInt, e]
    by_cases h1 : i.toInt < 0
    · rw [if_pos h1]
    · rw [if_neg h1]
      by_cases h2 : w.toInt < 0
      · rw [if_pos h2]
      · rw [if_neg h2]
        by_cases h3 : (n : Int) < w.toInt
        · rw [if_pos h3]
        · rw [if_neg h3, iSub (by rw [e]; omega) (by rw [e]; omega), e, if_pos (by omega)]
theorem byteAt_x (hd : d < 6) (B : BR mm d n) {i : Int32} : dX8_byteAt (38 + d) i mm = some (byV mm d n i.toInt, mm) := by
  have hn := B.2.2.2.1
  unfold dX8_byteAt byV
  rw [if_pos (pSh (shO hd)), hasPlaces_x hd hn B.2.2.1, Option.bind_some]
  simp only [b01_0, Int32.reduceToInt]
  by_cases h : 0 ≤ i.toInt ∧ i.toInt < n
  · rw [if_neg (by omega), if_pos h, if_pos (inB_iff.mpr (by omega)), clampN, show 38 + d + 6 = 44 + d by omega]
  · rw [if_pos (by omega), if_neg h]
theorem byV_toInt (B : BR mm d n) {i : Nat} (h : i < n) : (byV mm d n i).toInt = (gL mm (44 + d) i).toInt := by
  have hn := B.2.2.2.1
  have h2 := B.2.2.2.2.2.2.2 i (by omega)
  unfold byV
  rw [if_pos (by omega), Int.toNat_natCast, Int64.toInt_toInt32]
  exact Int.bmod_eq_of_le (by omega) (by omega)
end SHELF
