/-! ===== worth while the table is under way; sell, open, dusk ===== -/
section WORTHW
variable {mm : Mm} {s b : Nat} {lv : Option LF}
/-- the tables, but whether SACKS are OPEN -/
def Jw (mm : Mm) (s b : Nat) : Prop := Js mm s b ∧ Jg mm ∧ (∀ k : Nat, k < s → (gI mm 59 (24 + k) = gI mm 7 k ∧ 0 ≤ (gI mm 7 k).toInt ∧ (gI mm 7 k).toInt ≤ 5) ∧ (gI mm 59 (34 + k) = gI mm 8 k ∧ 0 ≤ (gI mm 8 k).toInt ∧ (gI mm 8 k).toInt ≤ 99) ∧ (gI mm 63 k = gI mm 12 k ∧ -1 ≤ (gI mm 12 k).toInt ∧ (gI mm 12 k).toInt < b)) ∧ Jb mm b
theorem Jw.of (J : Jt mm s b) : Jw mm s b := ⟨J.1, J.2.1, fun k hk => ⟨(J.2.2.1 k hk).1, (J.2.2.1 k hk).2.1, (J.2.2.1 k hk).2.2.1⟩, J.2.2.2.2⟩
def FTw (o k : Nat) : Bool := (decide (3 ≤ o) && decide (o ≤ 12)) || o == 59 || o == 63 || (o == 1 && (k == 2 || k == 3)) || (o == 58 && (k == 6 || k == 7))
def FJs (o k : Nat) : Bool := (o == 1 && (k == 2 || k == 3)) || (o == 58 && (k == 6 || k == 7))
theorem Js_fr {P : Nat → Nat → Bool} {m' : Mm} (J : Js mm s b) (h : ch P mm m') (hp : off FJs P) : Js m' s b := by
  obtain ⟨a1, a2, a3, a4, a5, a6⟩ := J
  exact ⟨a1, a2, by rw [h.I (hp _ _ rfl)]; exact a3, by rw [h.I (hp _ _ rfl)]; exact a4, by rw [h.I (hp _ _ rfl)]; exact a5, by rw [h.I (hp _ _ rfl)]; exact a6⟩
theorem Jw_fr {P : Nat → Nat → Bool} {m' : Mm} (J : Jw mm s b) (h : ch P mm m') (hp : off FTw P) : Jw m' s b := by
  have a1 : ∀ w k, w ≤ 9 → gI m' (3 + w) k = gI mm (3 + w) k := fun w k hw => h.I (hp _ _ (by unfold FTw; simp; omega))
  obtain ⟨js, jg, jk, jb⟩ := J
  have b1 : ∀ o k, o = 59 ∨ o = 63 → gI m' o k = gI mm o k := fun o k ho => h.I (hp _ _ (by unfold FTw; simp; omega))
  refine ⟨Js_fr js h (fun o k q => hp o k (by unfold FJs at q; unfold FTw; simp at q ⊢; omega)), fun w g hw hg => ?_, fun k hk => ?_, fun k hk => ?_⟩
  · rw [b1 59 _ (by omega), a1 w g (by omega)]; exact jg w g hw hg
  · rw [b1 59 _ (by omega), b1 59 _ (by omega), b1 63 _ (by omega), show gI m' 7 k = gI mm 7 k from a1 4 k (by omega), show gI m' 8 k = gI mm 8 k from a1 5 k (by omega), show gI m' 12 k = gI mm 12 k from a1 9 k (by omega)]; exact jk k hk
  · rw [b1 59 _ (by omega), b1 59 _ (by omega), b1 59 _ (by omega), show gI m' 9 k = gI mm 9 k from a1 6 k (by omega), show gI m' 10 k = gI mm 10 k from a1 7 k (by omega), show gI m' 11 k = gI mm 11 k from a1 8 k (by omega)]; exact jb k hk
theorem TT0w {g : Nat} (J : Jw mm s b) (hg : g < 6) : gI mm 59 g = TT mm 0 g := by
  have := (J.2.1 0 g (by omega) hg).1
  rw [Nat.mul_zero, Nat.zero_add] at this
  exact this
theorem worthTo_w (J : Js mm s b) (L : LvC mm lv) {bn gn : Nat} {bi gi asked : Int32} (hb : bn < b) (hg : gn < 6) (ebi : bi = nI bn) (egi : gi = nI gn) : ∃ m2, dX7_worthTo bi gi asked mm = some (worthS (TT mm) s lv bn gn asked, m2) ∧ ch PW mm m2 := by
  subst ebi; subst egi
  have hb6 := J.b6
  have eb : (nI bn).toInt = bn := nI_toInt (by omega)
  have eg : (nI gn).toInt = gn := nI_toInt (by omega)
  obtain ⟨L1, L2⟩ := L
  have key : dX7_worthTo (nI bn) (nI gn) asked mm = DX7_worthTo_24 (nI bn) (nI gn) asked (gI mm 3 gn) (wantS (TT mm) bn gn) mm := by
    unfold dX7_worthTo
    rw [told_x J (wn := 0) (by simp) eg (Or.inl (by omega)), Option.bind_some, told_x J (wn := 7) (by simp) eb (Or.inr (Or.inr (by omega))), Option.bind_some]
    have e : TT mm 7 bn = gI mm 10 bn := rfl
    unfold wantS
    rw [e]
    dsimp only [Nat.reduceAdd]
    split <;> rfl
  rw [key]
  unfold DX7_worthTo_24
  rw [if_pos (pLa L1), isTold_x L1, Option.bind_some]
  simp only [b01_0]
  cases lv with
  | none =>
    rw [if_pos (by have : (gI mm (gR mm 1 4) 3).toInt ≤ 0 := L2; omega)]
    exact ⟨mm, rfl, ch.rf⟩
  | some f =>
    obtain ⟨L2, L3, L4⟩ := L2
    rw [if_neg (by omega)]
    have c1 : ch PW mm (sI (sI (sI mm 14 0 (gI mm 3 gn)) 14 1 (wantS (TT mm) bn gn)) 14 2 asked) := ((ch.sI rfl).tr (ch.sI rfl)).tr (ch.sI rfl)
    generalize em1 : sI (sI (sI mm 14 0 (gI mm 3 gn)) 14 1 (wantS (TT mm) bn gn)) 14 2 asked = m1 at c1 ⊢
    have J1 : Js m1 s b := by
      obtain ⟨a1, a2, a3, a4, a5, a6⟩ := J
      exact ⟨a1, a2, by rw [c1.I rfl]; exact a3, by rw [c1.I rfl]; exact a4, by rw [c1.I rfl]; exact a5, by rw [c1.I rfl]; exact a6⟩
    rw [soldNow_x J1, Option.bind_some]
    dsimp only
    have eT : TT m1 = TT mm := TT_ch c1 (fun o k h1 h2 => by unfold PW; simp; omega)
    rw [eT]
    have c2 : ch PW mm (sI (sI (sI m1 14 3 (soldS (TT mm) s)) 14 4 (nI gn)) 14 5 (nI bn)) := c1.tr (((ch.sI rfl).tr (ch.sI rfl)).tr (ch.sI rfl))
    have en : ∀ k, k < 6 → gI (sI (sI (sI m1 14 3 (soldS (TT mm) s)) 14 4 (nI gn)) 14 5 (nI bn)) 14 k = nmS (gI mm 3 gn) (wantS (TT mm) bn gn) asked (soldS (TT mm) s) (nI gn) (nI bn) k := by
      intro k hk
      rw [← em1]
      have : k = 0 ∨ k = 1 ∨ k = 2 ∨ k = 3 ∨ k = 4 ∨ k = 5 := by omega
      rcases this with rfl | rfl | rfl | rfl | rfl | rfl <;> rfl
    generalize sI (sI (sI m1 14 3 (soldS (TT mm) s)) 14 4 (nI gn)) 14 5 (nI bn) = m2 at c2 en ⊢
    have er : gR m2 1 4 = gR mm 1 4 := c2.R rfl
    rw [er, if_pos (pLa L1)]
    obtain ⟨m3, e3, c3⟩ := L4 m2 (agL.of L1 c2 rfl (fun o k h => by unfold PW; simp; omega))
    rw [e3, Option.bind_some]
    refine ⟨m3, ?_, c2.tr (c3.up (fun o k h => by unfold PW at h; unfold PV; simp at h ⊢; omega))⟩
    dsimp only
    rw [clp_mm, L2 _ _ en]
    rfl
theorem worthForw_l (J : Jw mm s b) {v1 v2 v3 v4 v5 : Int32} : ∀ N i : Nat, i ≤ s → s < i + N → DX10_worthFor_51 N v1 v2 v3 v4 v5 (sumI (fun k => if (TT mm 9 k).toInt < 0 then 0 else 1) i) (nI i) mm = (dX10_workOut 0 (gI (sI (sI (sI (sI (sI (sI mm 67 0 v4) 67 1 v5) 67 2 v3) 67 3 (soldS (TT mm) s)) 67 4 v2) 67 5 v1) 58 13) (sI (sI (sI (sI (sI (sI mm 67 0 v4) 67 1 v5) 67 2 v3) 67 3 (soldS (TT mm) s)) 67 4 v2) 67 5 v1)).bind fun q => DX10_worthFor_142 q.1 q.2 := by
  have h1 := J.1.rs; have h3 := J.1.s10
  intro N
  induction N with
  | zero => intro i h2 h4; omega
  | succ N ih =>
    intro i h2 h4
    show BX10_worthFor_51 (DX10_worthFor_51 N) _ _ _ _ _ _ _ mm = _
    unfold BX10_worthFor_51 DX10_worthFor_77
    have e : (nI i).toInt = i := nI_toInt (by omega)
    simp only [toI_le, h1, e]
    by_cases h : i = s
    · subst h; rw [if_pos (Int.le_refl _)]; rfl
    · rw [if_neg (by omega), if_pos (inB_nI (by omega) (by omega)), nI_clamp (by omega), nI_1]
      have := ih (i + 1) (by omega) (by omega)
      unfold sumI at this
      simp only [toI_lt, Int32.reduceToInt]
      have e2 : (TT mm 9 i) = gI mm 63 i := ((J.2.2.1 i (by omega)).2.2.1).symm
      simp only [e2] at this ⊢
      by_cases h5 : (gI mm 63 i).toInt < 0
      · rw [if_pos h5]; rw [if_pos h5] at this; exact this
      · rw [if_neg h5]; rw [if_neg h5] at this; exact this
theorem worthFor_w (J : Jw mm s b) (R : LvR mm lv) {bn gn : Nat} {bi gi asked : Int32} (hb : bn < b) (hg : gn < 6) (ebi : bi = nI bn) (egi : gi = nI gn) : ∃ m2, dX10_worthFor bi gi asked mm = some (worthS (TT mm) s lv bn gn asked, m2) ∧ ch PWr mm m2 := by
  subst ebi; subst egi
  have hb6 := J.1.b6; have h3 := J.1.s10
  have e50 : (50 : Int32) + nI bn = nI (50 + bn) := by rw [show (50 : Int32) = nI 50 from rfl, nI_add]
  have key : dX10_worthFor (nI bn) (nI gn) asked mm = DX10_worthFor_26 (nI bn) (nI gn) asked (TT mm 0 gn) (wantS (TT mm) bn gn) mm := by
    unfold dX10_worthFor
    have e1 : gI mm 59 (50 + bn) = TT mm 7 bn := (J.2.2.2 bn hb).2.1.1
    rw [if_pos (inB_nI (by omega) (by omega)), e50, if_pos (inB_nI (by omega) (by omega)), nI_clamp (by omega), nI_clamp (by omega), e1, TT0w J hg]
    unfold wantS
    split <;> rfl
  rw [key]
  unfold DX10_worthFor_26
  simp only [toI_lt, Int32.reduceToInt]
  cases lv with
  | none =>
    have R0 : gI mm 58 13 = -1 := R
    rw [R0, if_pos (by decide), clp_142]
    refine ⟨mm, ?_, ch.rf⟩
    have hp := J.2.1 0 gn (by omega) hg
    have hp1 : 0 ≤ (TT mm 0 gn).toInt := hp.2.1
    have hp2 : (TT mm 0 gn).toInt ≤ 99 := hp.2.2.1
    show some (clp (TT mm 0 gn + wantS (TT mm) bn gn * TT mm 0 gn), mm) = some (TT mm 0 gn + TT mm 0 gn * wantS (TT mm) bn gn, mm)
    rw [Int32.mul_comm]
    generalize TT mm 0 gn = x at hp1 hp2 ⊢
    unfold wantS
    split
    · have e : (x + x * 1).toInt = x.toInt + x.toInt := by rw [Int32.mul_one, iAdd (by omega) (by omega)]
      rw [clp_id (by omega) (by omega)]
    · rw [Int32.mul_zero, Int32.add_zero]
      rw [clp_id (by omega) (by omega)]
  | some f =>
    obtain ⟨R2, R3, R4⟩ := R
    rw [if_neg (by omega), show (0 : Int32) = sumI (fun k => if (TT mm 9 k).toInt < 0 then 0 else 1) 0 from rfl]
    have hl := worthForw_l J (v1 := nI bn) (v2 := nI gn) (v3 := asked) (v4 := TT mm 0 gn) (v5 := wantS (TT mm) bn gn) FU 0 (Nat.zero_le _) (by unfold FU; omega)
    rw [nI_0] at hl
    rw [show (DX10_worthFor_51 FU (nI bn) (nI gn) asked (TT mm 0 gn) (wantS (TT mm) bn gn) (sumI (fun k => if (TT mm 9 k).toInt < 0 then 0 else 1) 0) (sumI (fun k => if (TT mm 9 k).toInt < 0 then 0 else 1) 0) mm) = _ from hl]
    have c2 : ch PWr mm (sI (sI (sI (sI (sI (sI mm 67 0 (TT mm 0 gn)) 67 1 (wantS (TT mm) bn gn)) 67 2 asked) 67 3 (soldS (TT mm) s)) 67 4 (nI gn)) 67 5 (nI bn)) := (((((ch.sI rfl).tr (ch.sI rfl)).tr (ch.sI rfl)).tr (ch.sI rfl)).tr (ch.sI rfl)).tr (ch.sI rfl)
    have en : ∀ k, k < 6 → gI (sI (sI (sI (sI (sI (sI mm 67 0 (TT mm 0 gn)) 67 1 (wantS (TT mm) bn gn)) 67 2 asked) 67 3 (soldS (TT mm) s)) 67 4 (nI gn)) 67 5 (nI bn)) 67 k = nmS (TT mm 0 gn) (wantS (TT mm) bn gn) asked (soldS (TT mm) s) (nI gn) (nI bn) k := by
      intro k hk
      have : k = 0 ∨ k = 1 ∨ k = 2 ∨ k = 3 ∨ k = 4 ∨ k = 5 := by omega
      rcases this with rfl | rfl | rfl | rfl | rfl | rfl <;> rfl
    generalize sI (sI (sI (sI (sI (sI mm 67 0 (TT mm 0 gn)) 67 1 (wantS (TT mm) bn gn)) 67 2 asked) 67 3 (soldS (TT mm) s)) 67 4 (nI gn)) 67 5 (nI bn) = m2 at c2 en ⊢
    have er : gI m2 58 13 = gI mm 58 13 := c2.I rfl
    obtain ⟨m3, e3, c3⟩ := R4 m2 (agT.of c2 rfl (fun k => rfl))
    rw [er, e3, Option.bind_some, clp_142]
    refine ⟨m3, ?_, c2.tr (c3.up (fun o k h => by unfold PWr at h; unfold PVr; simp at h ⊢; omega))⟩
    rw [R2 _ _ en]
    rfl
theorem worthS_T {T T' : Nat → Nat → Int32} (h : ∀ w k, ¬ w = 10 → T' w k = T w k) {bn g : Nat} {a : Int32} : worthS T' s lv bn g a = worthS T s lv bn g a := by
  have e9 : (fun k => if (T' 9 k).toInt < 0 then (0 : Int32) else 1) = fun k => if (T 9 k).toInt < 0 then (0 : Int32) else 1 := funext fun k => by rw [h 9 k (by omega)]
  unfold worthS wantS soldS
  rw [h 0 g (by omega), h 7 bn (by omega), e9]
/-- whether it groans that a sack is opened -/
def grS (T : Nat → Nat → Int32) (s : Nat) (lv : Option LF) (k : Nat) : Int32 := if 0 ≤ (T 9 k).toInt ∧ (worthS T s lv (T 9 k).toInt.toNat (T 4 k).toInt.toNat (T 5 k)).toInt < (T 5 k).toInt then 1 else 0
theorem grS_T {T T' : Nat → Nat → Int32} (h : ∀ w k, ¬ w = 10 → T' w k = T w k) {k : Nat} : grS T' s lv k = grS T s lv k := by
  unfold grS
  rw [worthS_T h, h 9 k (by omega), h 4 k (by omega), h 5 k (by omega)]
end WORTHW
section OPENS
variable {m : Mm} {s b kn n : Nat} {t : Nat → Nat} {lv : Option LF} {v1 v2 v3 v4 : Int32}
/-- what row k of the class's table holds -/
def Rk (m : Mm) (b k : Nat) : Prop := 0 ≤ (gI m 7 k).toInt ∧ (gI m 7 k).toInt ≤ 5 ∧ -1 ≤ (gI m 12 k).toInt ∧ (gI m 12 k).toInt < (b : Int)
theorem groans_x (J : Js m s b) (L : LvC m lv) {k : Nat} (hk : k < s) {g : Nat} (hg : g < 6) (h1 : -1 ≤ (gI m 12 k).toInt) (h2 : (gI m 12 k).toInt < (b : Int)) : ∃ m2, dX7_groans (nI k) (nI g) m = some (if 0 ≤ (TT m 9 k).toInt ∧ (worthS (TT m) s lv (TT m 9 k).toInt.toNat g (TT m 5 k)).toInt < (TT m 5 k).toInt then 1 else 0, m2) ∧ ch PW m m2 := by
  have s10 := J.s10
  have ek : (nI k).toInt = k := nI_toInt (by omega)
  have z0 : (0 : Int32).toInt = 0 := rfl
  have t9 : TT m 9 k = gI m 12 k := rfl
  have t5 : TT m 5 k = gI m 8 k := rfl
  unfold dX7_groans DX7_groans_37
  rw [told_x J (wn := 9) (by simp) ek (Or.inr (Or.inl (by omega))), Option.bind_some]
  dsimp only [Nat.reduceAdd]
  rw [told_x J (wn := 5) (by simp) ek (Or.inr (Or.inl (by omega))), Option.bind_some]
  dsimp only [Nat.reduceAdd]
  rw [t9, t5]
  by_cases h : 0 ≤ (gI m 12 k).toInt
  · obtain ⟨m2, y1, y2⟩ := worthTo_w (asked := gI m 8 k) J L (bn := (gI m 12 k).toInt.toNat) (gn := g) (bi := gI m 12 k) (gi := nI g) (by omega) hg (nI_of_toInt (by omega)) rfl
    rw [if_neg (by rw [toI_lt, z0]; omega), y1, Option.bind_some]
    refine ⟨m2, ?_, y2⟩
    simp only [toI_le]
    by_cases q : (worthS (TT m) s lv (gI m 12 k).toInt.toNat g (gI m 8 k)).toInt < (gI m 8 k).toInt
    · rw [if_neg (by omega), if_pos ⟨h, q⟩]
    · rw [if_pos (by omega), if_neg (fun z => q z.2)]
  · rw [if_pos (by rw [toI_lt, z0]; omega), if_neg (fun z => h z.1)]
    exact ⟨m, rfl, ch.rf⟩
def Pun (o _k : Nat) : Bool := o == 13 || o == 24 || o == 14 || o == 53 || o == 57
theorem oUn_s : off FJs Pun := fun o k h => by unfold FJs at h; unfold Pun; simp at h ⊢; omega
theorem oUn_L : off FLw Pun := fun o k h => by unfold FLw at h; unfold Pun; simp at h ⊢; omega
theorem untie_x (J : Js m s b) (L : LvC m lv) {k : Nat} (hk : k < s) (R : Rk m b k) : ∃ m2, dX3_untie (nI k) m = some ((), m2) ∧ ch Pun m m2 ∧ (∀ i, gI m2 13 i = if i = k then 1 else gI m 13 i) ∧ gI m2 24 2 = gI m 24 2 + 1 ∧ gI m2 24 3 = gI m 24 3 + grS (TT m) s lv k ∧ ∀ i, ¬ i = 2 → ¬ i = 3 → gI m2 24 i = gI m 24 i := by
  have s10 := J.s10
  have ek : (nI k).toInt = k := nI_toInt (by omega)
  have c1 : ch Pun m (sI (sI m 13 k 1) 24 2 (gI m 24 2 + 1)) := (ch.sI rfl).tr (ch.sI rfl)
  unfold dX3_untie
  rw [set_x J (wn := 10) (by simp) ek (Or.inr (Or.inl (by omega))), Option.bind_some]
  dsimp only [Nat.reduceAdd]
  have r2 : gI (sI m 13 k 1) 24 2 = gI m 24 2 := by rw [gI_sI, if_neg (by omega)]
  rw [r2]
  have q13 : ∀ i, gI (sI (sI m 13 k 1) 24 2 (gI m 24 2 + 1)) 13 i = if i = k then 1 else gI m 13 i := fun i => by
    rw [gI_sI, if_neg (by omega), gI_sI]
    by_cases e : i = k
    · rw [if_pos ⟨rfl, e⟩, if_pos e]
    · rw [if_neg (fun z => e z.2), if_neg e]
  have q24 : ∀ i, gI (sI (sI m 13 k 1) 24 2 (gI m 24 2 + 1)) 24 i = if i = 2 then gI m 24 2 + 1 else gI m 24 i := fun i => by
    rw [gI_sI]
    by_cases e : i = 2
    · rw [if_pos ⟨rfl, e⟩, if_pos e]
    · rw [if_neg (fun z => e z.2), if_neg e, gI_sI, if_neg (by omega)]
  have qo : ∀ o i, ¬ o = 13 → ¬ o = 24 → gI (sI (sI m 13 k 1) 24 2 (gI m 24 2 + 1)) o i = gI m o i := fun o i h1 h2 => by
    rw [gI_sI, if_neg (by omega), gI_sI, if_neg (by omega)]
  generalize sI (sI m 13 k 1) 24 2 (gI m 24 2 + 1) = m1 at c1 q13 q24 qo
  have J1 := Js_fr J c1 oUn_s
  have L1 := LvC_fr L c1 oUn_L
  have eg : gI m 7 k = nI (gI m 7 k).toInt.toNat := nI_of_toInt (by have := R.1; omega)
  obtain ⟨m2, y1, y2⟩ := groans_x J1 L1 hk (g := (gI m 7 k).toInt.toNat) (by have := R.1; have := R.2.1; omega) (by rw [qo 12 k (by omega) (by omega)]; exact R.2.2.1) (by rw [qo 12 k (by omega) (by omega)]; exact R.2.2.2)
  have eT : ∀ w i, ¬ w = 10 → TT m1 w i = TT m w i := fun w i hw => by
    unfold TT
    by_cases h : w ≤ 10
    · rw [if_pos h, if_pos h, qo _ _ (by omega) (by omega)]
    · rw [if_neg h, if_neg h]
  rw [told_x J1 (wn := 4) (by simp) ek (Or.inr (Or.inl (by omega))), Option.bind_some]
  dsimp only [Nat.reduceAdd]
  rw [qo 7 k (by omega) (by omega), eg, y1, Option.bind_some]
  have egr : (if 0 ≤ (TT m1 9 k).toInt ∧ (worthS (TT m1) s lv (TT m1 9 k).toInt.toNat (gI m 7 k).toInt.toNat (TT m1 5 k)).toInt < (TT m1 5 k).toInt then (1 : Int32) else 0) = grS (TT m) s lv k := by
    rw [worthS_T eT, eT 9 k (by omega), eT 5 k (by omega)]
    rfl
  rw [egr]
  have e24 : ∀ i, gI m2 24 i = gI m1 24 i := fun i => y2.I rfl
  have fin : (if grS (TT m) s lv k = 0 then DX3_untie_53 0 (gI m1 24 3) 3 m2 else DX3_untie_53 1 (gI m1 24 3) 3 m2) = some ((), sI m2 24 3 (gI m1 24 3 + grS (TT m) s lv k)) := by
    have hg : grS (TT m) s lv k = 0 ∨ grS (TT m) s lv k = 1 := by unfold grS; split <;> simp
    unfold DX3_untie_53
    rcases hg with hg | hg
    · rw [hg, if_pos rfl]; rfl
    · rw [hg, if_neg (by decide)]; rfl
  refine ⟨sI m2 24 3 (gI m1 24 3 + grS (TT m) s lv k), fin, (c1.tr (y2.up (up_of fun o k q => by unfold PW at q; unfold Pun; simp at q ⊢; omega))).tr (ch.sI rfl), fun i => ?_, ?_, ?_, fun i h1 h2 => ?_⟩
  · rw [gI_sI, if_neg (by omega), y2.I rfl]; exact q13 i
  · rw [gI_sI, if_neg (by omega), e24, q24, if_pos rfl]
  · rw [gI_sI, if_pos ⟨rfl, rfl⟩, q24, if_neg (by omega)]
  · rw [gI_sI, if_neg (by omega), e24, q24, if_neg h1]
def Pon (o k : Nat) : Bool := o == 64 || o == 72 || o == 67 || (o == 58 && (decide (14 ≤ k) && decide (k ≤ 18)))
theorem oOn_w : off FTw Pon := fun o k h => by unfold FTw at h; unfold Pon; simp at h ⊢; omega
theorem oOn_L : off FLw Pon := fun o k h => by unfold FLw at h; unfold Pon; simp at h ⊢; omega
theorem opens_m (J : Jw m s b) (L : LvR m lv) {k : Nat} (hk : k < s) : ∃ m2, dX10_opens (nI k) m = some (grS (TT m) s lv k, m2) ∧ ch Pon m m2 ∧ (∀ i, gI m2 64 i = if i = k then 1 else gI m 64 i) ∧ gI m2 72 2 = gI m 72 2 + 1 ∧ gI m2 72 3 = gI m 72 3 + grS (TT m) s lv k ∧ ∀ i, ¬ i = 2 → ¬ i = 3 → gI m2 72 i = gI m 72 i := by
  have s10 := J.1.s10
  have z0 : (0 : Int32).toInt = 0 := rfl
  have hi : inB (nI k) 10 := inB_nI (by omega) (by omega)
  have nar : vp_nar .boolean 1 = 1 := by decide
  have c1 : ch Pon m (sI m 64 k 1) := ch.sI rfl
  have q64 : ∀ i, gI (sI m 64 k 1) 64 i = if i = k then 1 else gI m 64 i := fun i => by
    rw [gI_sI]
    by_cases e : i = k
    · rw [if_pos ⟨rfl, e⟩, if_pos e]
    · rw [if_neg (fun z => e z.2), if_neg e]
  have qo : ∀ o i, ¬ o = 64 → gI (sI m 64 k 1) o i = gI m o i := fun o i h => by rw [gI_sI, if_neg (by omega)]
  unfold dX10_opens
  simp only [if_pos hi, nI_clamp (show k < 2 ^ 31 by omega), nar]
  generalize sI m 64 k 1 = m1 at c1 q64 qo
  have J1 := Jw_fr J c1 oOn_w
  have L1 := LvR_fr L c1 oOn_L
  have eT : ∀ w i, TT m1 w i = TT m w i := fun w i => by
    unfold TT
    by_cases h : w ≤ 10
    · rw [if_pos h, if_pos h, qo _ _ (by omega)]
    · rw [if_neg h, if_neg h]
  have eTT : TT m1 = TT m := funext fun w => funext fun i => eT w i
  obtain ⟨jk4, jk5, jk9⟩ := J.2.2.1 k hk
  have t9 : TT m 9 k = gI m 12 k := rfl
  have t4 : TT m 4 k = gI m 7 k := rfl
  have t5 : TT m 5 k = gI m 8 k := rfl
  have e24 : (24 : Int32) + nI k = nI (24 + k) := by rw [show (24 : Int32) = nI 24 from rfl, nI_add]
  have e34 : (34 : Int32) + nI k = nI (34 + k) := by rw [show (34 : Int32) = nI 34 from rfl, nI_add]
  have i24 : inB (nI (24 + k)) 62 := inB_nI (by omega) (by omega)
  have i34 : inB (nI (34 + k)) 62 := inB_nI (by omega) (by omega)
  have fin : ∀ (M : Mm) (x : Int32), (x = 0 ∨ x = 1) → ch PWr m1 M → ∃ m2, DX10_opens_61 x M = some (x, m2) ∧ ch Pon m m2 ∧ (∀ i, gI m2 64 i = if i = k then 1 else gI m 64 i) ∧ gI m2 72 2 = gI m 72 2 + 1 ∧ gI m2 72 3 = gI m 72 3 + x ∧ ∀ i, ¬ i = 2 → ¬ i = 3 → gI m2 72 i = gI m 72 i := by
    intro M x hx cM
    have e72 : ∀ i, gI M 72 i = gI m 72 i := fun i => by rw [cM.I rfl, qo _ _ (by omega)]
    have r3 : gI (sI M 72 2 (gI M 72 2 + 1)) 72 3 = gI M 72 3 := by rw [gI_sI, if_neg (by omega)]
    refine ⟨sI (sI M 72 2 (gI M 72 2 + 1)) 72 3 (gI M 72 3 + x), ?_, ((c1.tr (cM.up (up_of fun o k q => by unfold PWr at q; unfold Pon; simp at q ⊢; omega))).tr (ch.sI rfl)).tr (ch.sI rfl), fun i => ?_, ?_, ?_, fun i h1 h2 => ?_⟩
    · unfold DX10_opens_61 DX10_opens_88
      rw [r3]
      rcases hx with rfl | rfl
      · rw [if_pos rfl]; rfl
      · rw [if_neg (by decide)]; rfl
    · rw [gI_sI, if_neg (by omega), gI_sI, if_neg (by omega), cM.I rfl]; exact q64 i
    · rw [gI_sI, if_neg (by omega), gI_sI, if_pos ⟨rfl, rfl⟩, e72]
    · rw [gI_sI, if_pos ⟨rfl, rfl⟩, e72]
    · rw [gI_sI, if_neg (by omega), gI_sI, if_neg (by omega), e72]
  rw [qo 63 k (by omega), jk9.1]
  unfold grS
  rw [t9, t4, t5]
  by_cases h : 0 ≤ (gI m 12 k).toInt
  · rw [if_neg (by rw [toI_lt, z0]; omega), e24, e34, if_pos i24, if_pos i34]
    simp only [nI_clamp (show 24 + k < 2 ^ 31 by omega), nI_clamp (show 34 + k < 2 ^ 31 by omega), qo 59 _ (show ¬ (59 : Nat) = 64 by omega), jk4.1, jk5.1]
    have j4 := jk4.2
    have j9 := jk9.2
    obtain ⟨m2, y1, y2⟩ := worthFor_w (asked := gI m 8 k) J1 L1 (bn := (gI m 12 k).toInt.toNat) (gn := (gI m 7 k).toInt.toNat) (bi := gI m 12 k) (gi := gI m 7 k) (by omega) (by omega) (nI_of_toInt (by omega)) (nI_of_toInt (by omega))
    rw [eTT] at y1
    rw [y1, Option.bind_some, if_pos i34]
    have e8 : gI m2 59 (34 + k) = gI m 8 k := by rw [y2.I rfl, qo _ _ (by omega)]; exact jk5.1
    simp only [e8, toI_le]
    by_cases q : (worthS (TT m) s lv (gI m 12 k).toInt.toNat (gI m 7 k).toInt.toNat (gI m 8 k)).toInt < (gI m 8 k).toInt
    · rw [if_neg (by omega), if_pos ⟨h, q⟩]
      exact fin m2 1 (Or.inr rfl) y2
    · rw [if_pos (by omega), if_neg (fun z => q z.2)]
      exact fin m2 0 (Or.inl rfl) y2
  · rw [if_pos (by rw [toI_lt, z0]; omega), if_neg (fun z => h z.1)]
    exact fin m1 0 (Or.inl rfl) ch.rf
end OPENS
