/-! ===== belief, likeliest, worth, next, right: both sides answer alike ===== -/
def K (mm : Mm) (s b kn : Nat) (lv : Option LF) : Prop := Jt mm s b ∧ LvC mm lv ∧ LvR mm lv ∧ Jh mm kn
theorem K.ch {m m' : Mm} {s b kn : Nat} {lv : Option LF} (k : K m s b kn lv) (h : ch Sc m m') : K m' s b kn lv := ⟨k.1.ch h, k.2.1.ch h, k.2.2.1.ch h, k.2.2.2.ch h⟩
def dN (v : Int32) : Nat := v.toInt.toNat
def bN (v : Int32) : Nat := (v.toInt / 10).toNat
def sN (v : Int32) : Nat := (v.toInt % 10).toNat
def rn (mm : Mm) (d : Nat) : Nat := (gI mm (38 + d) 4).toNatClampNeg
abbrev okD (v : Int32) : Prop := 0 ≤ v.toInt ∧ v.toInt < 6
abbrev okB (s b : Nat) (v : Int32) : Prop := 0 ≤ v.toInt ∧ v.toInt / 10 < (b : Int) ∧ v.toInt % 10 < (s : Int)
abbrev okP (v : Int32) : Prop := 0 ≤ v.toInt ∧ v.toInt ≤ 1
def wQ (mm : Mm) (s : Nat) (v1 v2 : Int32) : Nat → Int64 := wghS (fun i => byV mm (dN v1) (rn mm (dN v1)) i) (TT mm) s (bN v2) (sN v2)
def TN (x : Int64) : Nat := x.toInt.toNat
def belQ (mm : Mm) (s b : Nat) (v1 v2 v3 v4 : Int32) : Int64 := if okD v3 ∧ okP v4 ∧ okD v1 ∧ okB s b v2 ∧ brS mm (dN v1) = 0 then rdS (TN (wQ mm s v1 v2 (dN v3))) (TN (sumL (wQ mm s v1 v2) 6)) v4 else -9223372036854775808
def likQ (mm : Mm) (s b : Nat) (lv : Option LF) (v1 v2 v3 : Int32) : Int32 := if okP v3 ∧ okD v1 ∧ okB s b v2 then (if brS mm (dN v1) = 0 then (if v3 = 0 then nI (hvS (wQ mm s v1 v2) 6) else if wallS (TT mm) s lv (wQ mm s v1 v2) (bN v2) (TT mm 5 (sN v2)) ≤ (TT mm 5 (sN v2)).toInt64 * sumL (wQ mm s v1 v2) 6 then 0 else 1) else brS mm (dN v1)) else -1
def worQ (mm : Mm) (s b : Nat) (lv : Option LF) (v1 v2 v3 : Int32) : Int64 := if okP v3 ∧ okD v1 ∧ okB s b v2 ∧ brS mm (dN v1) = 0 then rdS (TN (wallS (TT mm) s lv (wQ mm s v1 v2) (bN v2) (TT mm 5 (sN v2)))) (TN (sumL (wQ mm s v1 v2) 6)) v3 else -9223372036854775808
def nexQ (mm : Mm) (s b : Nat) (v1 v2 : Int32) : Int32 := if okD v1 ∧ okB s b v2 then (if brS mm (dN v1) = 0 then (if TT mm 10 (sN v2) = 1 then -5 else nI (blS (TT mm) (bN v2) (wQ mm s v1 v2) 3)) else brS mm (dN v1)) else -1
def rigQ (mm : Mm) (s b : Nat) (v1 v2 v3 : Int32) : Int64 := if okP v3 ∧ okD v1 ∧ okB s b v2 ∧ brS mm (dN v1) = 0 then (if TT mm 10 (sN v2) = 1 then 1 else rdS (TN (flS (TT mm) (bN v2) (wQ mm s v1 v2) (blS (TT mm) (bN v2) (wQ mm s v1 v2) 3))) (36 * TN (sumL (wQ mm s v1 v2) 6)) v3) else -9223372036854775808
theorem wQ_ch {m m' : Mm} {s : Nat} {v1 v2 : Int32} (h : ch Sc m m') (hd : okD v1) : wQ m' s v1 v2 = wQ m s v1 v2 := by
  have hd6 : dN v1 < 6 := by unfold dN; omega
  unfold wQ rn
  rw [TT_Sc h, h.I (Sc_sh hd6)]
  have : (fun i : Nat => byV m' (dN v1) (gI m (38 + dN v1) 4).toNatClampNeg i) = (fun i : Nat => byV m (dN v1) (gI m (38 + dN v1) 4).toNatClampNeg i) := funext fun i => by unfold byV; rw [h.L (Sc_el hd6)]
  rw [this]
theorem belQ_ch {m m' : Mm} {s b : Nat} {v1 v2 v3 v4 : Int32} (h : ch Sc m m') : belQ m' s b v1 v2 v3 v4 = belQ m s b v1 v2 v3 v4 := by
  by_cases hd : okD v1
  · unfold belQ; rw [wQ_ch h hd, brS_ch (by unfold dN; omega) h]
  · unfold belQ; rw [if_neg (fun q => hd q.2.2.1), if_neg (fun q => hd q.2.2.1)]
theorem likQ_ch {m m' : Mm} {s b : Nat} {lv : Option LF} {v1 v2 v3 : Int32} (h : ch Sc m m') : likQ m' s b lv v1 v2 v3 = likQ m s b lv v1 v2 v3 := by
  by_cases hd : okD v1
  · unfold likQ; rw [wQ_ch h hd, brS_ch (by unfold dN; omega) h, TT_Sc h]
  · unfold likQ; rw [if_neg (fun q => hd q.2.1), if_neg (fun q => hd q.2.1)]
theorem worQ_ch {m m' : Mm} {s b : Nat} {lv : Option LF} {v1 v2 v3 : Int32} (h : ch Sc m m') : worQ m' s b lv v1 v2 v3 = worQ m s b lv v1 v2 v3 := by
  by_cases hd : okD v1
  · unfold worQ; rw [wQ_ch h hd, brS_ch (by unfold dN; omega) h, TT_Sc h]
  · unfold worQ; rw [if_neg (fun q => hd q.2.1), if_neg (fun q => hd q.2.1)]
theorem nexQ_ch {m m' : Mm} {s b : Nat} {v1 v2 : Int32} (h : ch Sc m m') : nexQ m' s b v1 v2 = nexQ m s b v1 v2 := by
  by_cases hd : okD v1
  · unfold nexQ; rw [wQ_ch h hd, brS_ch (by unfold dN; omega) h, TT_Sc h]
  · unfold nexQ; rw [if_neg (fun q => hd q.1), if_neg (fun q => hd q.1)]
theorem rigQ_ch {m m' : Mm} {s b : Nat} {v1 v2 v3 : Int32} (h : ch Sc m m') : rigQ m' s b v1 v2 v3 = rigQ m s b v1 v2 v3 := by
  by_cases hd : okD v1
  · unfold rigQ; rw [wQ_ch h hd, brS_ch (by unfold dN; omega) h, TT_Sc h]
  · unfold rigQ; rw [if_neg (fun q => hd q.2.1), if_neg (fun q => hd q.2.1)]
theorem TN_LN {x : Int64} (h : 0 ≤ x.toInt) : LN (TN x) = x := by
  obtain ⟨n, h1, h2, h3⟩ := LN_of h
  unfold TN
  rw [h3, Int.toNat_natCast, ← h2]
theorem TN_lt {x : Int64} : TN x < 9223372036854775808 := by
  have := x.toInt_lt
  unfold TN; omega
theorem reduced_q {mm : Mm} {a b : Int64} {p : Int32} (ha : 0 ≤ a.toInt) (hb : 0 < b.toInt) : dX9_reduced a b p mm = some (rdS (TN a) (TN b) p, mm) := by
  have := reduced_x (mm := mm) (p := p) (a := TN a) (b := TN b) TN_lt TN_lt (by unfold TN; omega)
  rwa [TN_LN ha, TN_LN (by omega)] at this
theorem partOf_q {mm : Mm} {a b : Int64} {p : Int32} (ha : 0 ≤ a.toInt) (hb : 0 < b.toInt) (hp : okP p) : dX10_partOf a b p mm = some (rdS (TN a) (TN b) p, mm) := by
  have := partOf_m (mm := mm) (p := p) (a := TN a) (b := TN b) TN_lt TN_lt (by unfold TN; omega) (by rw [toI_eq, toI_eq]; simp; omega)
  rwa [TN_LN ha, TN_LN (by omega)] at this
section BELQ
variable {mm : Mm} {s b kn : Nat} {lv : Option LF} {v1 v2 v3 v4 : Int32}
theorem bs_n (h : okB s b v2) : v2 / 10 = nI (bN v2) ∧ iRem v2 10 = nI (sN v2) ∧ bN v2 < b ∧ sN v2 < s := by
  have h1 := dv10 h.1
  have h2 := rm10 h.1
  refine ⟨nI_of_toInt (by rw [h1]; unfold bN; omega), nI_of_toInt (by rw [h2]; unfold sN; omega), by unfold bN; omega, by unfold sN; omega⟩
theorem d_n (h : okD v1) : v1 = nI (dN v1) ∧ dN v1 < 6 := ⟨nI_of_toInt (by unfold dN; omega), by unfold dN; omega⟩
theorem BR_rn {d n : Nat} (B : BR mm d n) : BR mm d (rn mm d) := by
  have h : rn mm d = n := by unfold rn; rw [B.2.2.1, nI_clamp (by have := B.2.2.2.1; omega)]
  rw [h]; exact B
theorem looksRefusal_x (J : Js mm s b) : dX9_looksRefusal v1 v2 mm = some ((if okD v1 ∧ okB s b v2 then brS mm (dN v1) else -1), mm) := by
  unfold dX9_looksRefusal DX9_looksRefusal_27
  rw [isShelf_x, Option.bind_some]
  simp only [b01_0, isBs_x J, Option.bind_some]
  by_cases h1 : okD v1
  · obtain ⟨e1, e2⟩ := d_n h1
    rw [if_neg (fun q => q h1)]
    by_cases h2 : okB s b v2
    · rw [if_neg (fun q => q h2), if_pos (inB_iff.mpr (by omega)), if_pos (show okD v1 ∧ okB s b v2 from ⟨h1, h2⟩), clampN, show v1.toInt.toNat = dN v1 from rfl, bytesRefusal_x e2, Option.bind_some]
    · rw [if_pos h2, if_neg (fun q => h2 q.2)]
  · rw [if_pos h1, if_neg (fun q => h1 q.1)]
theorem clD (h : okD v1) : v1.toNatClampNeg = dN v1 := rfl
theorem weigh_q (k : K mm s b kn lv) (h1 : okD v1) (h2 : okB s b v2) (hr : brS mm (dN v1) = 0) : ∃ m2, dX0_weigh (38 + dN v1) (v2 / 10) (iRem v2 10) mm = some ((), m2) ∧ ch (P1 18) mm m2 ∧ WtAt 18 m2 (wQ mm s v1 v2) ∧ Wb (wQ mm s v1 v2) := by
  obtain ⟨e1, e2, e3, e4⟩ := bs_n h2
  obtain ⟨-, d6⟩ := d_n h1
  obtain ⟨n, B⟩ := BR_of k.2.2.2 d6 hr
  obtain ⟨m2, x1, x2, x3⟩ := weigh_x k.1 e3 e4 d6 (BR_rn B)
  rw [e1, e2]
  exact ⟨m2, x1, x2, x3, wghS_b k.1 e3 e4⟩
theorem weighs_q (k : K mm s b kn lv) (h1 : okD v1) (h2 : okB s b v2) (hr : brS mm (dN v1) = 0) : ∃ m2, dX10_weighs v1 (v2 / 10) (iRem v2 10) mm = some ((), m2) ∧ ch (P1 68) mm m2 ∧ WtAt 68 m2 (wQ mm s v1 v2) ∧ Wb (wQ mm s v1 v2) := by
  obtain ⟨e1, e2, e3, e4⟩ := bs_n h2
  obtain ⟨d1, d6⟩ := d_n h1
  obtain ⟨n, B⟩ := BR_of k.2.2.2 d6 hr
  obtain ⟨m2, x1, x2, x3⟩ := weighs_m k.1 e3 e4 d6 (BR_rn B)
  rw [e1, e2]
  refine ⟨m2, ?_, x2, x3, wghS_b k.1 e3 e4⟩
  rw [← d1] at x1
  exact x1
theorem up18 {m m' : Mm} (h : ch (P1 18) m m') : ch Sc m m' := h.up (P1_Sc (by omega))
theorem up68 {m m' : Mm} (h : ch (P1 68) m m') : ch Sc m m' := h.up (P1_Sc (by omega))
theorem belief_x (k : K mm s b kn lv) : ∃ m1, dX9_belief v1 v2 v3 v4 mm = some (belQ mm s b v1 v2 v3 v4, m1) ∧ ch Sc mm m1 := by
  unfold dX9_belief DX9_belief_29 belQ
  simp only [holds_x k.1.1, isPart_x, looksRefusal_x k.1.1, Option.bind_some, b01_0, Int32.reduceToInt]
  by_cases h3 : okD v3
  · rw [if_neg (by omega)]
    by_cases h4 : okP v4
    · rw [if_neg (fun q => q h4)]
      by_cases h12 : okD v1 ∧ okB s b v2
      · rw [if_pos h12]
        by_cases hr : brS mm (dN v1) = 0
        · obtain ⟨m2, e2, c2, w2, wb⟩ := weigh_q k h12.1 h12.2 hr
          have tb := total_b wb
          have g6 : dN v3 < 6 := by unfold dN; omega
          have wg := wb.1 (dN v3) g6
          rw [if_pos hr, if_pos (inB_iff.mpr (by omega)), clD h12.1, e2, Option.bind_some, if_pos ⟨h3, h4, h12.1, h12.2, hr⟩]
          unfold dX0_weight
          rw [if_pos (inB_iff.mpr (by omega)), Option.bind_some]
          dsimp only
          rw [clD h3, w2 _ g6, total_x w2, Option.bind_some]
          dsimp only
          rw [reduced_q wg.1 tb.1, Option.bind_some]
          exact ⟨m2, rfl, up18 c2⟩
        · rw [if_neg hr, if_neg (fun q => hr q.2.2.2.2)]; exact ⟨mm, rfl, ch.rf⟩
      · rw [if_neg h12, if_neg (show ¬ (-1 : Int32) = 0 by decide), if_neg (fun q => h12 ⟨q.2.2.1, q.2.2.2.1⟩)]; exact ⟨mm, rfl, ch.rf⟩
    · rw [if_pos h4, if_neg (fun q => h4 q.2.1)]; exact ⟨mm, rfl, ch.rf⟩
  · rw [if_pos (by omega), if_neg (fun q => h3 q.1)]; exact ⟨mm, rfl, ch.rf⟩
/-- bytesIs, whatever the shelf -/
def biS (mm : Mm) (v1 : Int32) : Int32 := if okD v1 then (if brS mm (dN v1) = 0 then 1 else brS mm (dN v1)) else -1
theorem bytesIs_q (J : Jh mm kn) : dX10_bytesIs v1 mm = some (biS mm v1, mm) := by
  unfold biS
  by_cases h : okD v1
  · obtain ⟨e1, e2⟩ := d_n h
    rw [if_pos h, bytesIs_m J e2 e1]
  · rw [if_neg h, bytesIs_bad h]
theorem biS_neg : biS mm v1 < 0 ↔ ¬ (okD v1 ∧ brS mm (dN v1) = 0) := by
  unfold biS
  by_cases h : okD v1
  · rw [if_pos h]
    rcases brS_v (mm := mm) (d := dN v1) with e | e | e <;> rw [e]
    · rw [if_pos rfl]; simp [h]
    · rw [if_neg (by decide)]; simp
    · rw [if_neg (by decide)]; simp
  · rw [if_neg h]
    constructor
    · intro _ q; exact h q.1
    · intro _; decide
theorem biS_bad : biS mm v1 = -1 ↔ ¬ okD v1 := by
  unfold biS
  by_cases h : okD v1
  · rw [if_pos h]
    rcases brS_v (mm := mm) (d := dN v1) with e | e | e <;> rw [e]
    · rw [if_pos rfl]; simp [h]
    · rw [if_neg (by decide)]; simp [h]
    · rw [if_neg (by decide)]; simp [h]
  · rw [if_neg h]; simp [h]
theorem part_m : dX10_within (Int32.toInt64 v4) 0 1 mm = some (b01 (okP v4), mm) := by
  rw [within_m, i64]; rfl
theorem good_m : dX10_isGood (Int32.toInt64 v3) mm = some (b01 (okD v3), mm) := by
  rw [isGood_m, i64]
  have : (0 ≤ v3.toInt ∧ v3.toInt ≤ 5) = okD v3 := propext (by omega)
  simp only [this]
theorem belief_m (k : K mm s b kn lv) : ∃ m1, dX10_belief v1 v2 v3 v4 mm = some (belQ mm s b v1 v2 v3 v4, m1) ∧ ch Sc mm m1 := by
  unfold dX10_belief DX10_belief_35 belQ
  simp only [bytesIs_q k.2.2.2, isBs_m k.1.1, good_m, part_m, Option.bind_some, b01_0, biS_neg]
  by_cases h1 : okD v1 ∧ brS mm (dN v1) = 0
  · rw [if_neg (fun q => q h1)]
    by_cases h2 : okB s b v2
    · rw [if_neg (fun q => q h2)]
      by_cases h3 : okD v3
      · rw [if_neg (fun q => q h3)]
        by_cases h4 : okP v4
        · rw [if_neg (fun q => q h4)]
          obtain ⟨m2, e2, c2, w2, wb⟩ := weighs_q k h1.1 h2 h1.2
          have tb := total_b wb
          have g6 : dN v3 < 6 := by unfold dN; omega
          have wg := wb.1 (dN v3) g6
          rw [e2, Option.bind_some, if_pos (inB_iff.mpr (by omega)), if_pos ⟨h3, h4, h1.1, h2, h1.2⟩, weightAll_m w2, Option.bind_some]
          dsimp only
          rw [clD h3, w2 _ g6]
          rw [partOf_q wg.1 tb.1 h4, Option.bind_some]
          exact ⟨m2, rfl, up68 c2⟩
        · rw [if_pos h4, if_neg (fun q => h4 q.2.1)]; exact ⟨mm, rfl, ch.rf⟩
      · rw [if_pos h3, if_neg (fun q => h3 q.1)]; exact ⟨mm, rfl, ch.rf⟩
    · rw [if_pos h2, if_neg (fun q => h2 q.2.2.2.1)]; exact ⟨mm, rfl, ch.rf⟩
  · rw [if_pos h1, if_neg (fun q => h1 ⟨q.2.2.1, q.2.2.2.2⟩)]; exact ⟨mm, rfl, ch.rf⟩
theorem worth_x (k : K mm s b kn lv) : ∃ m1, dX9_worth v1 v2 v3 mm = some (worQ mm s b lv v1 v2 v3, m1) ∧ ch Sc mm m1 := by
  unfold dX9_worth DX9_worth_16 worQ
  simp only [isPart_x, looksRefusal_x k.1.1, Option.bind_some, b01_0]
  by_cases h4 : okP v3
  · rw [if_neg (fun q => q h4)]
    by_cases h12 : okD v1 ∧ okB s b v2
    · rw [if_pos h12]
      by_cases hr : brS mm (dN v1) = 0
      · obtain ⟨m2, e2, c2, w2, wb⟩ := weigh_q k h12.1 h12.2 hr
        obtain ⟨f1, f2, f3, f4⟩ := bs_n h12.2
        have tb := total_b wb
        obtain ⟨m3, e3, c3⟩ := worthSum_x (k.1.ch (up18 c2)) (k.2.1.ch (up18 c2)) f3 f4 w2
        rw [TT_Sc (up18 c2)] at e3
        have wa := wall_b (lv := lv) (bn := bN v2) (asked := TT mm 5 (sN v2)) k.1 wb
        rw [if_pos hr, if_pos (inB_iff.mpr (by omega)), clD h12.1, e2, Option.bind_some, if_pos (show okP v3 ∧ okD v1 ∧ okB s b v2 ∧ brS mm (dN v1) = 0 from ⟨h4, h12.1, h12.2, hr⟩)]
        dsimp only
        rw [f1, f2, e3, Option.bind_some, total_x (w2.ch c3 (fun _ => rfl)), Option.bind_some]
        dsimp only
        rw [reduced_q wa.1 tb.1, Option.bind_some]
        exact ⟨m3, rfl, (up18 c2).tr (c3.up PW_Sc)⟩
      · rw [if_neg hr, if_neg (fun q => hr q.2.2.2)]; exact ⟨mm, rfl, ch.rf⟩
    · rw [if_neg h12, if_neg (show ¬ (-1 : Int32) = 0 by decide), if_neg (fun q => h12 ⟨q.2.1, q.2.2.1⟩)]; exact ⟨mm, rfl, ch.rf⟩
  · rw [if_pos h4, if_neg (fun q => h4 q.1)]; exact ⟨mm, rfl, ch.rf⟩
theorem asked_m (J : Jt mm s b) {m2 : Mm} (c : ch Sc mm m2) (h : okB s b v2) : inB (34 + iRem v2 10) 62 ∧ gI m2 59 (34 + iRem v2 10).toNatClampNeg = TT mm 5 (sN v2) := by
  obtain ⟨f1, f2, f3, f4⟩ := bs_n h
  have h3 := J.1.s10
  have e : (34 : Int32) + iRem v2 10 = nI (34 + sN v2) := by rw [f2, show (34 : Int32) = nI 34 from rfl, nI_add]
  rw [e]
  refine ⟨inB_nI (by omega) (by omega), ?_⟩
  rw [nI_clamp (by omega), c.I (o := 59) rfl]
  exact (J.2.2.1 (sN v2) f4).2.1.1
theorem worth_m (k : K mm s b kn lv) : ∃ m1, dX10_worth v1 v2 v3 mm = some (worQ mm s b lv v1 v2 v3, m1) ∧ ch Sc mm m1 := by
  unfold dX10_worth DX10_worth_26 worQ
  simp only [bytesIs_q k.2.2.2, isBs_m k.1.1, part_m, Option.bind_some, b01_0, biS_neg]
  by_cases h1 : okD v1 ∧ brS mm (dN v1) = 0
  · rw [if_neg (fun q => q h1)]
    by_cases h2 : okB s b v2
    · rw [if_neg (fun q => q h2)]
      by_cases h4 : okP v3
      · rw [if_neg (fun q => q h4)]
        obtain ⟨m2, e2, c2, w2, wb⟩ := weighs_q k h1.1 h2 h1.2
        obtain ⟨f1, f2, f3, f4⟩ := bs_n h2
        have tb := total_b wb
        obtain ⟨a1, a2⟩ := asked_m k.1 (up68 c2) h2
        obtain ⟨m3, e3, c3⟩ := worthAll_m (k.1.ch (up68 c2)) (k.2.2.1.ch (up68 c2)) (v2 := iRem v2 10) f3 w2 (asked := TT mm 5 (sN v2))
        rw [TT_Sc (up68 c2)] at e3
        have wa := wall_b (lv := lv) (bn := bN v2) (asked := TT mm 5 (sN v2)) k.1 wb
        rw [e2, Option.bind_some, if_pos a1, if_pos (show okP v3 ∧ okD v1 ∧ okB s b v2 ∧ brS mm (dN v1) = 0 from ⟨h4, h1.1, h2, h1.2⟩)]
        dsimp only
        rw [a2, f1, e3, Option.bind_some, weightAll_m (w2.ch c3 (fun _ => rfl)), Option.bind_some]
        dsimp only
        rw [partOf_q wa.1 tb.1 h4, Option.bind_some]
        exact ⟨m3, rfl, (up68 c2).tr (c3.up PWr_Sc)⟩
      · rw [if_pos h4, if_neg (fun q => h4 q.1)]; exact ⟨mm, rfl, ch.rf⟩
    · rw [if_pos h2, if_neg (fun q => h2 q.2.2.1)]; exact ⟨mm, rfl, ch.rf⟩
  · rw [if_pos h1, if_neg (fun q => h1 ⟨q.2.1, q.2.2.2⟩)]; exact ⟨mm, rfl, ch.rf⟩
theorem likeliest_x (k : K mm s b kn lv) : ∃ m1, dX9_likeliest v1 v2 v3 mm = some (likQ mm s b lv v1 v2 v3, m1) ∧ ch Sc mm m1 := by
  unfold dX9_likeliest DX9_likeliest_17 likQ
  simp only [isPart_x, looksRefusal_x k.1.1, Option.bind_some, b01_0]
  by_cases h4 : okP v3
  · rw [if_neg (fun q => q h4)]
    by_cases h12 : okD v1 ∧ okB s b v2
    · rw [if_pos h12, if_pos (show okP v3 ∧ okD v1 ∧ okB s b v2 from ⟨h4, h12.1, h12.2⟩)]
      by_cases hr : brS mm (dN v1) = 0
      · obtain ⟨m2, e2, c2, w2, wb⟩ := weigh_q k h12.1 h12.2 hr
        obtain ⟨f1, f2, f3, f4⟩ := bs_n h12.2
        have h3 := k.1.1.s10
        rw [if_pos hr, if_pos (inB_iff.mpr (by omega)), clD h12.1, e2, Option.bind_some, if_pos hr]
        dsimp only
        by_cases h0 : v3 = 0
        · rw [if_pos h0, if_pos h0, mostLikely_x w2, Option.bind_some]
          exact ⟨m2, rfl, up18 c2⟩
        · obtain ⟨m3, e3, c3⟩ := worthSum_x (k.1.ch (up18 c2)) (k.2.1.ch (up18 c2)) f3 f4 w2
          rw [TT_Sc (up18 c2)] at e3
          have c4 := (up18 c2).tr (c3.up PW_Sc)
          rw [if_neg h0, if_neg h0, f1, f2, e3, Option.bind_some]
          dsimp only
          rw [told_x (k.1.ch c4).1 (wn := 5) (by simp) (nI_toInt (show sN v2 < 2 ^ 31 by omega)) (Or.inr (Or.inl (by omega))), Option.bind_some]
          dsimp only [Nat.reduceAdd]
          rw [total_x (w2.ch c3 (fun _ => rfl)), Option.bind_some]
          have ea : gI m3 8 (sN v2) = TT mm 5 (sN v2) := c4.I rfl
          rw [ea]
          refine ⟨m3, ?_, c4⟩
          dsimp only
          split <;> rfl
      · rw [if_neg hr, if_neg hr]; exact ⟨mm, rfl, ch.rf⟩
    · rw [if_neg h12, if_neg (show ¬ (-1 : Int32) = 0 by decide), if_neg (fun q => h12 q.2)]; exact ⟨mm, rfl, ch.rf⟩
  · rw [if_pos h4, if_neg (show ¬ (-1 : Int32) = 0 by decide), if_neg (fun q => h4 q.1)]; exact ⟨mm, rfl, ch.rf⟩
theorem biS_nn (h : okD v1) : 0 ≤ biS mm v1 ↔ brS mm (dN v1) = 0 := by
  have := biS_neg (mm := mm) (v1 := v1)
  constructor
  · intro q
    by_cases hb : brS mm (dN v1) = 0
    · exact hb
    · exfalso
      have := this.mpr (fun z => hb z.2)
      rw [toI_lt] at this; rw [toI_le] at q; omega
  · intro q
    by_cases hb : biS mm v1 < 0
    · exact absurd ⟨h, q⟩ (this.mp hb)
    · rw [toI_lt] at hb; rw [toI_le]; omega
theorem likeliest_m (k : K mm s b kn lv) : ∃ m1, dX10_likeliest v1 v2 v3 mm = some (likQ mm s b lv v1 v2 v3, m1) ∧ ch Sc mm m1 := by
  unfold dX10_likeliest DX10_likeliest_27 likQ
  simp only [bytesIs_q k.2.2.2, isBs_m k.1.1, part_m, Option.bind_some, b01_0, biS_bad]
  by_cases h1 : okD v1
  · rw [if_neg (fun q => q h1)]
    by_cases h2 : okB s b v2
    · rw [if_neg (fun q => q h2)]
      by_cases h4 : okP v3
      · rw [if_neg (fun q => q h4), if_pos (show okP v3 ∧ okD v1 ∧ okB s b v2 from ⟨h4, h1, h2⟩)]
        simp only [biS_nn h1]
        by_cases hr : brS mm (dN v1) = 0
        · obtain ⟨m2, e2, c2, w2, wb⟩ := weighs_q k h1 h2 hr
          obtain ⟨f1, f2, f3, f4⟩ := bs_n h2
          obtain ⟨a1, a2⟩ := asked_m k.1 (up68 c2) h2
          rw [if_pos hr, if_pos hr, e2, Option.bind_some, if_pos a1]
          dsimp only
          rw [a2]
          by_cases h0 : v3 = 0
          · rw [if_pos h0, if_pos h0, heaviest_m w2, Option.bind_some]
            exact ⟨m2, rfl, up68 c2⟩
          · obtain ⟨m3, e3, c3⟩ := worthAll_m (k.1.ch (up68 c2)) (k.2.2.1.ch (up68 c2)) (v2 := iRem v2 10) f3 w2 (asked := TT mm 5 (sN v2))
            rw [TT_Sc (up68 c2)] at e3
            rw [if_neg h0, if_neg h0, f1, e3, Option.bind_some]
            dsimp only
            rw [weightAll_m (w2.ch c3 (fun _ => rfl)), Option.bind_some]
            refine ⟨m3, ?_, (up68 c2).tr (c3.up PWr_Sc)⟩
            dsimp only
            split <;> rfl
        · rw [if_neg hr, if_neg hr]
          refine ⟨mm, ?_, ch.rf⟩
          unfold biS
          rw [if_pos h1, if_neg hr]
      · rw [if_pos h4, if_neg (fun q => h4 q.1)]; exact ⟨mm, rfl, ch.rf⟩
    · rw [if_pos h2, if_neg (fun q => h2 q.2.2)]; exact ⟨mm, rfl, ch.rf⟩
  · rw [if_pos h1, if_neg (fun q => h1 q.2.1)]; exact ⟨mm, rfl, ch.rf⟩
theorem next_x (k : K mm s b kn lv) : ∃ m1, dX9_next v1 v2 mm = some (nexQ mm s b v1 v2, m1) ∧ ch Sc mm m1 := by
  unfold dX9_next nexQ
  simp only [looksRefusal_x k.1.1, Option.bind_some]
  by_cases h12 : okD v1 ∧ okB s b v2
  · rw [if_pos h12, if_pos h12]
    by_cases hr : brS mm (dN v1) = 0
    · obtain ⟨m2, e2, c2, w2, wb⟩ := weigh_q k h12.1 h12.2 hr
      obtain ⟨f1, f2, f3, f4⟩ := bs_n h12.2
      have h3 := k.1.1.s10
      rw [if_pos hr, if_pos hr, f2, isOpen_x k.1.1 (nI_toInt (show sN v2 < 2 ^ 31 by omega)) f4, Option.bind_some]
      simp only [b01_0]
      have eo : TT mm 10 (sN v2) = gI mm 13 (sN v2) := rfl
      rw [eo]
      by_cases ho : gI mm 13 (sN v2) = 1
      · rw [if_neg (fun q => q ho), if_pos ho]; exact ⟨mm, rfl, ch.rf⟩
      · rw [if_pos ho, if_neg ho, if_pos (inB_iff.mpr (by omega)), clD h12.1, ← f2, e2, Option.bind_some]
        dsimp only
        rw [f1, bestLook_x (k.1.ch (up18 c2)) f3 w2, TT_Sc (up18 c2), Option.bind_some]
        exact ⟨m2, rfl, up18 c2⟩
    · rw [if_neg hr, if_neg hr]; exact ⟨mm, rfl, ch.rf⟩
  · rw [if_neg h12, if_neg h12, if_neg (show ¬ (-1 : Int32) = 0 by decide)]; exact ⟨mm, rfl, ch.rf⟩
theorem open_m (J : Jt mm s b) {m2 : Mm} (c : ch Sc mm m2) (h : okB s b v2) : inB (iRem v2 10) 10 ∧ (gI m2 64 (iRem v2 10).toNatClampNeg = 0 ↔ ¬ TT mm 10 (sN v2) = 1) := by
  obtain ⟨f1, f2, f3, f4⟩ := bs_n h
  have h3 := J.1.s10
  have hk := (J.2.2.1 (sN v2) f4).2.2.2
  have eo : TT mm 10 (sN v2) = gI mm 13 (sN v2) := rfl
  rw [f2]
  refine ⟨inB_nI (by omega) (by omega), ?_⟩
  rw [nI_clamp (by omega), c.I (o := 64) rfl, hk.1, eo]
  rcases hk.2 with e | e <;> rw [e] <;> decide
theorem next_m (k : K mm s b kn lv) : ∃ m1, dX10_next v1 v2 mm = some (nexQ mm s b v1 v2, m1) ∧ ch Sc mm m1 := by
  unfold dX10_next DX10_next_17 nexQ
  simp only [bytesIs_q k.2.2.2, isBs_m k.1.1, Option.bind_some, b01_0, biS_bad]
  by_cases h1 : okD v1
  · rw [if_neg (fun q => q h1)]
    by_cases h2 : okB s b v2
    · rw [if_neg (fun q => q h2), if_pos (show okD v1 ∧ okB s b v2 from ⟨h1, h2⟩)]
      simp only [biS_nn h1]
      by_cases hr : brS mm (dN v1) = 0
      · obtain ⟨o1, o2⟩ := open_m k.1 (ch.rf (P := Sc)) h2
        rw [if_pos hr, if_pos hr, if_pos o1]
        simp only [o2]
        by_cases ho : TT mm 10 (sN v2) = 1
        · rw [if_neg (fun q => q ho), if_pos ho]; exact ⟨mm, rfl, ch.rf⟩
        · obtain ⟨m2, e2, c2, w2, wb⟩ := weighs_q k h1 h2 hr
          obtain ⟨f1, f2, f3, f4⟩ := bs_n h2
          rw [if_pos ho, if_neg ho, e2, Option.bind_some]
          dsimp only
          rw [f1, bestLook_m (k.1.ch (up68 c2)) f3 w2, TT_Sc (up68 c2), Option.bind_some]
          exact ⟨m2, rfl, up68 c2⟩
      · rw [if_neg hr, if_neg hr]
        refine ⟨mm, ?_, ch.rf⟩
        unfold biS
        rw [if_pos h1, if_neg hr]
    · rw [if_pos h2, if_neg (fun q => h2 q.2)]; exact ⟨mm, rfl, ch.rf⟩
  · rw [if_pos h1, if_neg (fun q => h1 q.1)]; exact ⟨mm, rfl, ch.rf⟩
theorem mul36 {x : Int64} (h1 : 0 ≤ x.toInt) (h2 : x.toInt ≤ 7748807814) : (36 * x).toInt = 36 * x.toInt ∧ TN (36 * x) = 36 * TN x := by
  have e : (36 : Int64).toInt = 36 := by decide
  have h : (36 * x).toInt = 36 * x.toInt := by rw [lMul (by rw [e]; omega) (by rw [e]; omega), e]
  refine ⟨h, ?_⟩
  unfold TN
  rw [h]
  omega
theorem right_x (k : K mm s b kn lv) : ∃ m1, dX9_right v1 v2 v3 mm = some (rigQ mm s b v1 v2 v3, m1) ∧ ch Sc mm m1 := by
  unfold dX9_right DX9_right_16 rigQ
  simp only [isPart_x, looksRefusal_x k.1.1, Option.bind_some, b01_0]
  by_cases h4 : okP v3
  · rw [if_neg (fun q => q h4)]
    by_cases h12 : okD v1 ∧ okB s b v2
    · rw [if_pos h12]
      by_cases hr : brS mm (dN v1) = 0
      · obtain ⟨m2, e2, c2, w2, wb⟩ := weigh_q k h12.1 h12.2 hr
        obtain ⟨f1, f2, f3, f4⟩ := bs_n h12.2
        have h3 := k.1.1.s10
        rw [if_pos hr, if_pos (show okP v3 ∧ okD v1 ∧ okB s b v2 ∧ brS mm (dN v1) = 0 from ⟨h4, h12.1, h12.2, hr⟩), f2, isOpen_x k.1.1 (nI_toInt (show sN v2 < 2 ^ 31 by omega)) f4, Option.bind_some]
        simp only [b01_0]
        have eo : TT mm 10 (sN v2) = gI mm 13 (sN v2) := rfl
        rw [eo]
        by_cases ho : gI mm 13 (sN v2) = 1
        · rw [if_neg (fun q => q ho), if_pos ho]; exact ⟨mm, rfl, ch.rf⟩
        · have J2 := k.1.ch (up18 c2)
          have tb := total_b wb
          have fb := fl_b (cn := blS (TT mm) (bN v2) (wQ mm s v1 v2) 3) k.1 wb f3
          have m36 := mul36 (show 0 ≤ (sumL (wQ mm s v1 v2) 6).toInt by omega) tb.2
          rw [if_pos ho, if_neg ho, if_pos (inB_iff.mpr (by omega)), clD h12.1, ← f2, e2, Option.bind_some]
          dsimp only
          rw [f1, bestLook_x J2 f3 w2, TT_Sc (up18 c2), Option.bind_some]
          dsimp only
          rw [followed_x J2 f3 (blS_le _ _ _ 3 (by omega)) w2, TT_Sc (up18 c2), Option.bind_some]
          dsimp only
          rw [total_x w2, Option.bind_some]
          dsimp only
          rw [reduced_q fb.1 (by rw [m36.1]; omega), Option.bind_some, m36.2]
          exact ⟨m2, rfl, up18 c2⟩
      · rw [if_neg hr, if_neg (fun q => hr q.2.2.2)]; exact ⟨mm, rfl, ch.rf⟩
    · rw [if_neg h12, if_neg (show ¬ (-1 : Int32) = 0 by decide), if_neg (fun q => h12 ⟨q.2.1, q.2.2.1⟩)]; exact ⟨mm, rfl, ch.rf⟩
  · rw [if_pos h4, if_neg (fun q => h4 q.1)]; exact ⟨mm, rfl, ch.rf⟩
theorem right_m (k : K mm s b kn lv) : ∃ m1, dX10_right v1 v2 v3 mm = some (rigQ mm s b v1 v2 v3, m1) ∧ ch Sc mm m1 := by
  unfold dX10_right DX10_right_26 rigQ
  simp only [bytesIs_q k.2.2.2, isBs_m k.1.1, part_m, Option.bind_some, b01_0, biS_neg]
  by_cases h1 : okD v1 ∧ brS mm (dN v1) = 0
  · rw [if_neg (fun q => q h1)]
    by_cases h2 : okB s b v2
    · rw [if_neg (fun q => q h2)]
      by_cases h4 : okP v3
      · rw [if_neg (fun q => q h4)]
        obtain ⟨m2, e2, c2, w2, wb⟩ := weighs_q k h1.1 h2 h1.2
        obtain ⟨f1, f2, f3, f4⟩ := bs_n h2
        obtain ⟨o1, o2⟩ := open_m k.1 (up68 c2) h2
        have tb := total_b wb
        have J2 := k.1.ch (up68 c2)
        rw [e2, Option.bind_some, if_pos o1, if_pos (show okP v3 ∧ okD v1 ∧ okB s b v2 ∧ brS mm (dN v1) = 0 from ⟨h4, h1.1, h2, h1.2⟩)]
        simp only [o2]
        by_cases ho : TT mm 10 (sN v2) = 1
        · rw [if_neg (fun q => q ho), if_pos ho]; exact ⟨m2, rfl, up68 c2⟩
        · have hb3 := blS_le (TT mm) (bN v2) (wQ mm s v1 v2) 3 (by omega)
          have m36 := mul36 (show 0 ≤ (sumL (wQ mm s v1 v2) 6).toInt by omega) tb.2
          rw [if_pos ho, if_neg ho, f1, bestLook_m J2 f3 w2, TT_Sc (up68 c2), Option.bind_some]
          dsimp only
          have e3 : (nI (blS (TT mm) (bN v2) (wQ mm s v1 v2) 3) = 3) = (blS (TT mm) (bN v2) (wQ mm s v1 v2) 3 = 3) := propext (by rw [show (3 : Int32) = nI 3 from rfl, nI_eq (by omega) (by omega)])
          simp only [e3]
          by_cases h3 : blS (TT mm) (bN v2) (wQ mm s v1 v2) 3 = 3
          · have hl : hvS (wQ mm s v1 v2) 6 < 6 := hvS_lt _ 5
            have wg := wb.1 _ hl
            have m37 := mul36 wg.1 (by omega)
            rw [if_pos h3, heaviest_m w2, Option.bind_some, if_pos (inB_nI (by omega) (by omega)), nI_clamp (by omega)]
            dsimp only
            rw [w2 _ hl, weightAll_m w2, Option.bind_some]
            dsimp only
            rw [partOf_q wg.1 tb.1 h4, Option.bind_some, h3]
            refine ⟨m2, ?_, up68 c2⟩
            unfold flS
            rw [if_pos rfl, m37.2, rdS_mul (by omega)]
          · have fb := fl_b (cn := blS (TT mm) (bN v2) (wQ mm s v1 v2) 3) k.1 wb f3
            rw [if_neg h3, rightBy_m J2 f3 (by omega) w2, TT_Sc (up68 c2), Option.bind_some]
            dsimp only
            rw [weightAll_m w2, Option.bind_some]
            dsimp only
            rw [partOf_q fb.1 (by rw [m36.1]; omega) h4, Option.bind_some, m36.2]
            exact ⟨m2, rfl, up68 c2⟩
      · rw [if_pos h4, if_neg (fun q => h4 q.1)]; exact ⟨mm, rfl, ch.rf⟩
    · rw [if_pos h2, if_neg (fun q => h2 q.2.2.1)]; exact ⟨mm, rfl, ch.rf⟩
  · rw [if_pos h1, if_neg (fun q => h1 ⟨q.2.1, q.2.2.2⟩)]; exact ⟨mm, rfl, ch.rf⟩
end BELQ
/-- two sides that answer alike, one behind the other -/
theorem pairQ {R : Type} {s b kn : Nat} {lv : Option LF} {Q : Mm → R} {f g : Mm → Option (R × Mm)} (h1 : ∀ m, K m s b kn lv → ∃ m1, f m = some (Q m, m1) ∧ ch Sc m m1) (h2 : ∀ m, K m s b kn lv → ∃ m1, g m = some (Q m, m1) ∧ ch Sc m m1) (h3 : ∀ m m', ch Sc m m' → Q m' = Q m) {m : Mm} (k : K m s b kn lv) : ∃ r m1 m2, f m = some (r, m1) ∧ g m1 = some (r, m2) ∧ ch Sc m m2 := by
  obtain ⟨m1, e1, c1⟩ := h1 m k
  obtain ⟨m2, e2, c2⟩ := h2 m1 (k.ch c1)
  rw [h3 m m1 c1] at e2
  exact ⟨_, m1, m2, e1, e2, c1.tr c2⟩
