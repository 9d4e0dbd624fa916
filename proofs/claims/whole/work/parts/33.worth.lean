/-! ===== what a good is worth, given what THE LAW says (lv) ===== -/
def TT (mm : Mm) (w k : Nat) : Int32 := if w ≤ 10 then gI mm (3 + w) k else 0
theorem TT_ch {P : Nat → Nat → Bool} {mm mm' : Mm} (h : ch P mm mm') (hp : ∀ o k, 3 ≤ o → o ≤ 13 → P o k = false) : TT mm' = TT mm := by
  funext w k
  unfold TT
  by_cases hw : w ≤ 10
  · rw [if_pos hw, if_pos hw]; exact h.I (hp _ _ (by omega) (by omega))
  · rw [if_neg hw, if_neg hw]
abbrev LF : Type := (Nat → Int32) → Int32
def sumI (f : Nat → Int32) : Nat → Int32
  | 0 => 0
  | n + 1 => sumI f n + f n
def soldS (T : Nat → Nat → Int32) (s : Nat) : Int32 := sumI (fun k => if (T 9 k).toInt < 0 then 0 else 1) s
def nmS (p w a sd g b : Int32) : Nat → Int32 := fun k => if k = 0 then p else if k = 1 then w else if k = 2 then a else if k = 3 then sd else if k = 4 then g else b
def clp (v : Int32) : Int32 := if 0 ≤ v then (if v ≤ 999 then v else 999) else 0
def wantS (T : Nat → Nat → Int32) (b g : Nat) : Int32 := if T 7 b = nI g then 1 else 0
def worthS (T : Nat → Nat → Int32) (s : Nat) (lv : Option LF) (b g : Nat) (asked : Int32) : Int32 := match lv with
  | none => T 0 g + T 0 g * wantS T b g
  | some f => clp (f (nmS (T 0 g) (wantS T b g) asked (soldS T s) (nI g) (nI b)))
/-- the names' row is read at 0 .. 5 alone -/
def LFx (f : LF) : Prop := ∀ a b : Nat → Int32, (∀ k, k < 6 → a k = b k) → f a = f b
def PV (o _k : Nat) : Bool := o == 53 || o == 57
def PW (o _k : Nat) : Bool := o == 14 || o == 53 || o == 57
def PVr (o k : Nat) : Bool := o == 58 && (decide (14 ≤ k) && decide (k ≤ 18))
def PWr (o k : Nat) : Bool := o == 67 || (o == 58 && (decide (14 ≤ k) && decide (k ≤ 18)))
def agL (m m' : Mm) : Prop := gR m' 1 4 = gR m 1 4 ∧ ∀ k, gI m' (gR m 1 4) k = gI m (gR m 1 4) k ∧ gI m' (gR m 1 4 + 1) k = gI m (gR m 1 4 + 1) k ∧ gI m' (gR m 1 4 + 2) k = gI m (gR m 1 4 + 2) k
def agT (m m' : Mm) : Prop := gI m' 58 13 = gI m 58 13 ∧ ∀ k, gI m' 66 k = gI m 66 k
theorem agL.tr {a b c : Mm} (h1 : agL a b) (h2 : agL b c) : agL a c := by
  obtain ⟨x1, x2⟩ := h1
  obtain ⟨y1, y2⟩ := h2
  rw [x1] at y1 y2
  exact ⟨y1, fun k => ⟨(y2 k).1.trans (x2 k).1, (y2 k).2.1.trans (x2 k).2.1, (y2 k).2.2.trans (x2 k).2.2⟩⟩
theorem agT.tr {a b c : Mm} (h1 : agT a b) (h2 : agT b c) : agT a c := ⟨h2.1.trans h1.1, fun k => (h2.2 k).trans (h1.2 k)⟩
theorem agL.rf {a : Mm} : agL a a := ⟨rfl, fun _ => ⟨rfl, rfl, rfl⟩⟩
theorem agT.rf {a : Mm} : agT a a := ⟨rfl, fun _ => rfl⟩
theorem agL.of {P : Nat → Nat → Bool} {a b : Mm} (hl : isLa (gR a 1 4)) (h : ch P a b) (h1 : P 1 4 = false) (h2 : ∀ o k, (o = 50 ∨ o = 51 ∨ o = 52 ∨ o = 54 ∨ o = 55 ∨ o = 56) → P o k = false) : agL a b := by
  refine ⟨h.R h1, fun k => ?_⟩
  rcases hl with hl | hl <;> rw [hl] <;> exact ⟨h.I (h2 _ _ (by omega)), h.I (h2 _ _ (by omega)), h.I (h2 _ _ (by omega))⟩
theorem agT.of {P : Nat → Nat → Bool} {a b : Mm} (h : ch P a b) (h1 : P 58 13 = false) (h2 : ∀ k, P 66 k = false) : agT a b := ⟨h.I h1, fun k => h.I (h2 k)⟩
def LvC (m : Mm) (lv : Option LF) : Prop := isLa (gR m 1 4) ∧ match lv with
  | none => (gI m (gR m 1 4) 3).toInt ≤ 0
  | some f => LFx f ∧ 0 < (gI m (gR m 1 4) 3).toInt ∧ ∀ m' : Mm, agL m m' → ∃ m2, dX5_value (gR m 1 4) m' = some (f (gI m' 14), m2) ∧ ch PV m' m2
def LvR (m : Mm) (lv : Option LF) : Prop := match lv with
  | none => gI m 58 13 = -1
  | some f => LFx f ∧ 0 ≤ (gI m 58 13).toInt ∧ ∀ m' : Mm, agT m m' → ∃ m2, dX10_workOut 0 (gI m 58 13) m' = some (f (gI m' 67), m2) ∧ ch PVr m' m2
theorem LvC.ag {m m' : Mm} {lv : Option LF} (h : LvC m lv) (hm : agL m m') : LvC m' lv := by
  obtain ⟨h1, h2⟩ := h
  have e := hm.1
  refine ⟨by rw [e]; exact h1, ?_⟩
  cases lv with
  | none => show (gI m' (gR m' 1 4) 3).toInt ≤ 0; rw [e, (hm.2 3).1]; exact h2
  | some f => exact ⟨h2.1, by rw [e, (hm.2 3).1]; exact h2.2.1, fun m2 h3 => by rw [e]; exact h2.2.2 m2 (hm.tr h3)⟩
theorem LvR.ag {m m' : Mm} {lv : Option LF} (h : LvR m lv) (hm : agT m m') : LvR m' lv := by
  cases lv with
  | none => show gI m' 58 13 = -1; rw [hm.1]; exact h
  | some f => exact ⟨h.1, by rw [hm.1]; exact h.2.1, fun m2 h3 => by rw [hm.1]; exact h.2.2 m2 (hm.tr h3)⟩
theorem clp_id {x : Int32} (h1 : 0 ≤ x.toInt) (h2 : x.toInt ≤ 999) : clp x = x := by
  unfold clp
  simp only [toI_le, Int32.reduceToInt]
  rw [if_pos h1, if_pos h2]
theorem clp_r {x : Int32} : 0 ≤ (clp x).toInt ∧ (clp x).toInt ≤ 999 := by
  unfold clp
  simp only [toI_le, Int32.reduceToInt]
  repeat' split
  all_goals first | exact ⟨by assumption, by assumption⟩ | decide
theorem pLa {o : Nat} (h : isLa o) : o = 50 ∨ o = 54 := h
theorem pSh {o : Nat} (h : isSh o) : 38 ≤ o ∧ o < 44 := h
section WORTH
variable {mm : Mm} {s b : Nat} {lv : Option LF}
theorem soldNow_l (J : Js mm s b) : ∀ N i : Nat, i ≤ s → s < i + N → DX7_soldNow_4 N (sumI (fun k => if (TT mm 9 k).toInt < 0 then 0 else 1) i) (nI i) mm = some (soldS (TT mm) s, mm) := by
  have h1 := J.cs; have h3 := J.s10
  intro N
  induction N with
  | zero => intro i h2 h4; omega
  | succ N ih =>
    intro i h2 h4
    show BX7_soldNow_4 (DX7_soldNow_4 N) _ _ mm = _
    unfold BX7_soldNow_4 DX7_soldNow_30
    have e : (nI i).toInt = i := nI_toInt (by omega)
    simp only [toI_le, h1, e]
    by_cases h : i = s
    · subst h; rw [if_pos (Int.le_refl _)]; rfl
    · rw [if_neg (by omega), if_pos (inB_nI (by omega) (by omega)), nI_clamp (by omega), nI_1]
      have := ih (i + 1) (by omega) (by omega)
      unfold sumI at this
      simp only [toI_lt, Int32.reduceToInt]
      have e2 : (TT mm 9 i) = gI mm 12 i := rfl
      simp only [e2] at this ⊢
      by_cases h5 : (gI mm 12 i).toInt < 0
      · rw [if_pos h5]; rw [if_pos h5] at this; exact this
      · rw [if_neg h5]; rw [if_neg h5] at this; exact this
theorem soldNow_x (J : Js mm s b) : dX7_soldNow mm = some (soldS (TT mm) s, mm) := by
  have h3 := J.s10
  unfold dX7_soldNow
  exact soldNow_l J FU 0 (Nat.zero_le _) (by unfold FU; omega)
theorem isTold_x {o : Nat} (ho : isLa o) : dX5_isTold o mm = some (b01 (0 < (gI mm o 3).toInt), mm) := by
  unfold dX5_isTold
  rw [if_pos (pLa ho)]
  simp only [toI_le, toI_lt, Int32.reduceToInt]
  unfold b01
  repeat' split
  all_goals first | rfl | (exfalso; omega)
theorem clp_mm {v : Int32} : iMax 0 (iMin 999 v) = clp v := by
  unfold iMax iMin clp
  simp only [toI_le, toI_lt]
  repeat' split
  all_goals first | rfl | (exfalso; simp at *; omega) | skip
  all_goals (apply Int32.toInt_inj.mp; simp at *; try omega)
theorem worthTo_x (J : Jt mm s b) (L : LvC mm lv) {bn gn : Nat} {bi gi asked : Int32} (hb : bn < b) (hg : gn < 6) (ebi : bi = nI bn) (egi : gi = nI gn) : ∃ m2, dX7_worthTo bi gi asked mm = some (worthS (TT mm) s lv bn gn asked, m2) ∧ ch PW mm m2 := by
  subst ebi; subst egi
  have hb6 := J.1.b6
  have eb : (nI bn).toInt = bn := nI_toInt (by omega)
  have eg : (nI gn).toInt = gn := nI_toInt (by omega)
  obtain ⟨L1, L2⟩ := L
  have key : dX7_worthTo (nI bn) (nI gn) asked mm = DX7_worthTo_24 (nI bn) (nI gn) asked (gI mm 3 gn) (wantS (TT mm) bn gn) mm := by
    unfold dX7_worthTo
    rw [told_x J.1 (wn := 0) (by simp) eg (Or.inl (by omega)), Option.bind_some, told_x J.1 (wn := 7) (by simp) eb (Or.inr (Or.inr (by omega))), Option.bind_some]
    have e : TT mm 7 bn = gI mm 10 bn := rfl
    unfold wantS
    rw [e]
    dsimp only [Nat.reduceAdd]
    split <;> rfl
  rw [key]
  unfold DX7_worthTo_24
  rw [if_pos (pLa L1), isTold_x L1, Option.bind_some]
  simp only [b01_0]
  cases lv with
  | none =>
    rw [if_pos (by have : (gI mm (gR mm 1 4) 3).toInt ≤ 0 := L2; omega)]
    exact ⟨mm, rfl, ch.rf⟩
  | some f =>
    obtain ⟨L2, L3, L4⟩ := L2
    rw [if_neg (by omega)]
    have c1 : ch PW mm (sI (sI (sI mm 14 0 (gI mm 3 gn)) 14 1 (wantS (TT mm) bn gn)) 14 2 asked) := ((ch.sI rfl).tr (ch.sI rfl)).tr (ch.sI rfl)
    generalize em1 : sI (sI (sI mm 14 0 (gI mm 3 gn)) 14 1 (wantS (TT mm) bn gn)) 14 2 asked = m1 at c1 ⊢
    have J1 : Js m1 s b := by
      obtain ⟨a1, a2, a3, a4, a5, a6⟩ := J.1
      exact ⟨a1, a2, by rw [c1.I rfl]; exact a3, by rw [c1.I rfl]; exact a4, by rw [c1.I rfl]; exact a5, by rw [c1.I rfl]; exact a6⟩
    rw [soldNow_x J1, Option.bind_some]
    dsimp only
    have eT : TT m1 = TT mm := TT_ch c1 (fun o k h1 h2 => by unfold PW; simp; omega)
    rw [eT]
    have c2 : ch PW mm (sI (sI (sI m1 14 3 (soldS (TT mm) s)) 14 4 (nI gn)) 14 5 (nI bn)) := c1.tr (((ch.sI rfl).tr (ch.sI rfl)).tr (ch.sI rfl))
    have en : ∀ k, k < 6 → gI (sI (sI (sI m1 14 3 (soldS (TT mm) s)) 14 4 (nI gn)) 14 5 (nI bn)) 14 k = nmS (gI mm 3 gn) (wantS (TT mm) bn gn) asked (soldS (TT mm) s) (nI gn) (nI bn) k := by
      intro k hk
      rw [← em1]
      have : k = 0 ∨ k = 1 ∨ k = 2 ∨ k = 3 ∨ k = 4 ∨ k = 5 := by omega
      rcases this with rfl | rfl | rfl | rfl | rfl | rfl <;> rfl
    generalize sI (sI (sI m1 14 3 (soldS (TT mm) s)) 14 4 (nI gn)) 14 5 (nI bn) = m2 at c2 en ⊢
    have er : gR m2 1 4 = gR mm 1 4 := c2.R rfl
    rw [er, if_pos (pLa L1)]
    obtain ⟨m3, e3, c3⟩ := L4 m2 (agL.of L1 c2 rfl (fun o k h => by unfold PW; simp; omega))
    rw [e3, Option.bind_some]
    refine ⟨m3, ?_, c2.tr (c3.up (fun o k h => by unfold PW at h; unfold PV; simp at h ⊢; omega))⟩
    dsimp only
    rw [clp_mm, L2 _ _ en]
    rfl
theorem TT0 {g : Nat} (J : Jt mm s b) (hg : g < 6) : gI mm 59 g = TT mm 0 g := by
  have := (J.2.1 0 g (by omega) hg).1
  rw [Nat.mul_zero, Nat.zero_add] at this
  exact this
theorem worthFor_l (J : Jt mm s b) {v1 v2 v3 v4 v5 : Int32} : ∀ N i : Nat, i ≤ s → s < i + N → DX10_worthFor_51 N v1 v2 v3 v4 v5 (sumI (fun k => if (TT mm 9 k).toInt < 0 then 0 else 1) i) (nI i) mm = (dX10_workOut 0 (gI (sI (sI (sI (sI (sI (sI mm 67 0 v4) 67 1 v5) 67 2 v3) 67 3 (soldS (TT mm) s)) 67 4 v2) 67 5 v1) 58 13) (sI (sI (sI (sI (sI (sI mm 67 0 v4) 67 1 v5) 67 2 v3) 67 3 (soldS (TT mm) s)) 67 4 v2) 67 5 v1)).bind fun q => DX10_worthFor_142 q.1 q.2 := by
  have h1 := J.1.rs; have h3 := J.1.s10
  intro N
  induction N with
  | zero => intro i h2 h4; omega
  | succ N ih =>
    intro i h2 h4
    show BX10_worthFor_51 (DX10_worthFor_51 N) _ _ _ _ _ _ _ mm = _
    unfold BX10_worthFor_51 DX10_worthFor_77
    have e : (nI i).toInt = i := nI_toInt (by omega)
    simp only [toI_le, h1, e]
    by_cases h : i = s
    · subst h; rw [if_pos (Int.le_refl _)]; rfl
    · rw [if_neg (by omega), if_pos (inB_nI (by omega) (by omega)), nI_clamp (by omega), nI_1]
      have := ih (i + 1) (by omega) (by omega)
      unfold sumI at this
      simp only [toI_lt, Int32.reduceToInt]
      have e2 : (TT mm 9 i) = gI mm 63 i := ((J.2.2.1 i (by omega)).2.2.1.1).symm
      simp only [e2] at this ⊢
      by_cases h5 : (gI mm 63 i).toInt < 0
      · rw [if_pos h5]; rw [if_pos h5] at this; exact this
      · rw [if_neg h5]; rw [if_neg h5] at this; exact this
theorem clp_142 {v : Int32} {m : Mm} : DX10_worthFor_142 v m = some (clp v, m) := by
  unfold DX10_worthFor_142 clp
  repeat' split
  all_goals first | rfl | contradiction
theorem worthFor_m (J : Jt mm s b) (R : LvR mm lv) {bn gn : Nat} {bi gi asked : Int32} (hb : bn < b) (hg : gn < 6) (ebi : bi = nI bn) (egi : gi = nI gn) : ∃ m2, dX10_worthFor bi gi asked mm = some (worthS (TT mm) s lv bn gn asked, m2) ∧ ch PWr mm m2 := by
  subst ebi; subst egi
  have hb6 := J.1.b6; have h3 := J.1.s10
  have e50 : (50 : Int32) + nI bn = nI (50 + bn) := by rw [show (50 : Int32) = nI 50 from rfl, nI_add]
  have key : dX10_worthFor (nI bn) (nI gn) asked mm = DX10_worthFor_26 (nI bn) (nI gn) asked (TT mm 0 gn) (wantS (TT mm) bn gn) mm := by
    unfold dX10_worthFor
    have e1 : gI mm 59 (50 + bn) = TT mm 7 bn := (J.2.2.2.2 bn hb).2.1.1
    rw [if_pos (inB_nI (by omega) (by omega)), e50, if_pos (inB_nI (by omega) (by omega)), nI_clamp (by omega), nI_clamp (by omega), e1, TT0 J hg]
    unfold wantS
    split <;> rfl
  rw [key]
  unfold DX10_worthFor_26
  simp only [toI_lt, Int32.reduceToInt]
  cases lv with
  | none =>
    have R0 : gI mm 58 13 = -1 := R
    rw [R0, if_pos (by decide), clp_142]
    refine ⟨mm, ?_, ch.rf⟩
    have hp := J.2.1 0 gn (by omega) hg
    have hp1 : 0 ≤ (TT mm 0 gn).toInt := hp.2.1
    have hp2 : (TT mm 0 gn).toInt ≤ 99 := hp.2.2.1
    show some (clp (TT mm 0 gn + wantS (TT mm) bn gn * TT mm 0 gn), mm) = some (TT mm 0 gn + TT mm 0 gn * wantS (TT mm) bn gn, mm)
    rw [Int32.mul_comm]
    generalize TT mm 0 gn = x at hp1 hp2 ⊢
    unfold wantS
    split
    · have e : (x + x * 1).toInt = x.toInt + x.toInt := by rw [Int32.mul_one, iAdd (by omega) (by omega)]
      rw [clp_id (by omega) (by omega)]
    · rw [Int32.mul_zero, Int32.add_zero]
      rw [clp_id (by omega) (by omega)]
  | some f =>
    obtain ⟨R2, R3, R4⟩ := R
    rw [if_neg (by omega), show (0 : Int32) = sumI (fun k => if (TT mm 9 k).toInt < 0 then 0 else 1) 0 from rfl]
    have hl := worthFor_l J (v1 := nI bn) (v2 := nI gn) (v3 := asked) (v4 := TT mm 0 gn) (v5 := wantS (TT mm) bn gn) FU 0 (Nat.zero_le _) (by unfold FU; omega)
    rw [nI_0] at hl
    rw [show (DX10_worthFor_51 FU (nI bn) (nI gn) asked (TT mm 0 gn) (wantS (TT mm) bn gn) (sumI (fun k => if (TT mm 9 k).toInt < 0 then 0 else 1) 0) (sumI (fun k => if (TT mm 9 k).toInt < 0 then 0 else 1) 0) mm) = _ from hl]
    have c2 : ch PWr mm (sI (sI (sI (sI (sI (sI mm 67 0 (TT mm 0 gn)) 67 1 (wantS (TT mm) bn gn)) 67 2 asked) 67 3 (soldS (TT mm) s)) 67 4 (nI gn)) 67 5 (nI bn)) := (((((ch.sI rfl).tr (ch.sI rfl)).tr (ch.sI rfl)).tr (ch.sI rfl)).tr (ch.sI rfl)).tr (ch.sI rfl)
    have en : ∀ k, k < 6 → gI (sI (sI (sI (sI (sI (sI mm 67 0 (TT mm 0 gn)) 67 1 (wantS (TT mm) bn gn)) 67 2 asked) 67 3 (soldS (TT mm) s)) 67 4 (nI gn)) 67 5 (nI bn)) 67 k = nmS (TT mm 0 gn) (wantS (TT mm) bn gn) asked (soldS (TT mm) s) (nI gn) (nI bn) k := by
      intro k hk
      have : k = 0 ∨ k = 1 ∨ k = 2 ∨ k = 3 ∨ k = 4 ∨ k = 5 := by omega
      rcases this with rfl | rfl | rfl | rfl | rfl | rfl <;> rfl
    generalize sI (sI (sI (sI (sI (sI mm 67 0 (TT mm 0 gn)) 67 1 (wantS (TT mm) bn gn)) 67 2 asked) 67 3 (soldS (TT mm) s)) 67 4 (nI gn)) 67 5 (nI bn) = m2 at c2 en ⊢
    have er : gI m2 58 13 = gI mm 58 13 := c2.I rfl
    obtain ⟨m3, e3, c3⟩ := R4 m2 (agT.of c2 rfl (fun k => rfl))
    rw [er, e3, Option.bind_some, clp_142]
    refine ⟨m3, ?_, c2.tr (c3.up (fun o k h => by unfold PWr at h; unfold PVr; simp at h ⊢; omega))⟩
    rw [R2 _ _ en]
    rfl
end WORTH
