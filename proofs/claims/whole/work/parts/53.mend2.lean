/-! ===== mend: a change is kept, the first is forgotten ===== -/
section MEND2
variable {m : Mm} {s b kn n : Nat} {t : Nat → Nat} {lv : Option LF} {v1 v2 v3 v4 : Int32}
def PnC (o _k : Nat) : Bool := o == 29 || (decide (30 ≤ o) && decide (o ≤ 33))
def PnR (o k : Nat) : Bool := (decide (60 ≤ o) && decide (o ≤ 62)) || (o == 58 && (k == 4 || k == 5))
theorem note13_x {d : Nat} (hd : d < 40) (h : gI m 29 4 = nI d) : ∃ m1, DX1_note_13 v1 v2 v3 v4 m = some ((), m1) ∧ ch PnC m m1 ∧ gI m1 29 4 = nI (d + 1) ∧ gI m1 29 5 = nI (d + 1) ∧ gI m1 30 d = v1 ∧ gI m1 31 d = v2 ∧ gI m1 32 d = v3 ∧ gI m1 33 d = v4 ∧ ∀ o i, (30 ≤ o ∧ o ≤ 33) → ¬ i = d → gI m1 o i = gI m o i := by
  have hi : inB (nI d) 40 := inB_nI hd (by omega)
  have r1 : gI (sI m 30 d v1) 29 4 = nI d := by rw [gI_sI, if_neg (by omega)]; exact h
  have r2 : gI (sI (sI m 30 d v1) 31 d v2) 29 4 = nI d := by rw [gI_sI, if_neg (by omega)]; exact r1
  have r3 : gI (sI (sI (sI m 30 d v1) 31 d v2) 32 d v3) 29 4 = nI d := by rw [gI_sI, if_neg (by omega)]; exact r2
  have r4 : gI (sI (sI (sI (sI m 30 d v1) 31 d v2) 32 d v3) 33 d v4) 29 4 = nI d := by rw [gI_sI, if_neg (by omega)]; exact r3
  have r5 : gI (sI (sI (sI (sI (sI m 30 d v1) 31 d v2) 32 d v3) 33 d v4) 29 4 (nI (d + 1))) 29 4 = nI (d + 1) := by rw [gI_sI, if_pos ⟨rfl, rfl⟩]
  refine ⟨sI (sI (sI (sI (sI (sI m 30 d v1) 31 d v2) 32 d v3) 33 d v4) 29 4 (nI (d + 1))) 29 5 (nI (d + 1)), ?_, (((((ch.sI rfl).tr (ch.sI rfl)).tr (ch.sI rfl)).tr (ch.sI rfl)).tr (ch.sI rfl)).tr (ch.sI rfl), ?_, ?_, ?_, ?_, ?_, ?_, fun o i ho hi2 => ?_⟩
  · unfold DX1_note_13
    simp only [h, nI_clamp (show d < 2 ^ 31 by omega), r1, r2, r3, r4, nI_1, r5, if_pos hi]
  · rw [gI_sI, if_neg (by omega)]; exact r5
  · rw [gI_sI, if_pos ⟨rfl, rfl⟩]
  · rw [gI_sI, if_neg (by omega), gI_sI, if_neg (by omega), gI_sI, if_neg (by omega), gI_sI, if_neg (by omega), gI_sI, if_neg (by omega), gI_sI, if_pos ⟨rfl, rfl⟩]
  · rw [gI_sI, if_neg (by omega), gI_sI, if_neg (by omega), gI_sI, if_neg (by omega), gI_sI, if_neg (by omega), gI_sI, if_pos ⟨rfl, rfl⟩]
  · rw [gI_sI, if_neg (by omega), gI_sI, if_neg (by omega), gI_sI, if_neg (by omega), gI_sI, if_pos ⟨rfl, rfl⟩]
  · rw [gI_sI, if_neg (by omega), gI_sI, if_neg (by omega), gI_sI, if_pos ⟨rfl, rfl⟩]
  · rw [gI_sI, if_neg (by omega), gI_sI, if_neg (by omega), gI_sI, if_neg (by omega), gI_sI, if_neg (by omega), gI_sI, if_neg (by omega), gI_sI, if_neg (by omega)]
/-- where the next is kept, and by how much the others move -/
def dN0 (d : Nat) : Nat := if d < 40 then d else 39
def sh0 (d : Nat) : Nat := if d < 40 then 0 else 1
theorem note_x {d : Nat} (hd : d ≤ 40) (h : gI m 29 4 = nI d) : ∃ m1, dX1_note v1 v2 v3 v4 m = some ((), m1) ∧ ch PnC m m1 ∧ gI m1 29 4 = nI (dN0 d + 1) ∧ gI m1 29 5 = nI (dN0 d + 1) ∧ gI m1 30 (dN0 d) = v1 ∧ gI m1 31 (dN0 d) = v2 ∧ gI m1 32 (dN0 d) = v3 ∧ gI m1 33 (dN0 d) = v4 ∧ ∀ o i, (30 ≤ o ∧ o ≤ 33) → i < dN0 d → gI m1 o i = gI m o (i + sh0 d) := by
  have ed : (nI d).toInt = d := nI_toInt (by omega)
  have z40 : (40 : Int32).toInt = 40 := rfl
  unfold dX1_note dN0 sh0
  by_cases hlt : d < 40
  · simp only [if_pos hlt, Nat.add_zero]
    obtain ⟨m1, x1, x2, x3, x4, x5, x6, x7, x8, x9⟩ := note13_x (v1 := v1) (v2 := v2) (v3 := v3) (v4 := v4) hlt h
    refine ⟨m1, ?_, x2, x3, x4, x5, x6, x7, x8, fun o i ho hi => x9 o i ho (by omega)⟩
    rw [h, if_pos (by rw [toI_lt, ed, z40]; omega)]; exact x1
  · have e40 : d = 40 := by omega
    subst e40
    simp only [if_neg hlt]
    unfold dX1_forgetFirst
    rw [h, if_neg (by decide), Option.bind_some]
    dsimp only
    have c1 : ∀ (P : Nat → Nat → Bool) (mm : Mm) (a : Nat) (i j w : Int32), (∀ k, P a k = true) → ch P mm (cpI mm a a i j w) := fun P mm a i j w hp o k hP => by
      refine ⟨?_, rfl, rfl⟩
      rw [gI_cpI]
      by_cases q : o = a
      · subst q; rw [hp k] at hP; cases hP
      · rw [if_neg q]
    have rd : ∀ (mm : Mm) (a o i : Nat), i < 39 → gI (cpI mm a a 1 0 39) o i = if o = a then gI mm a (i + 1) else gI mm o i := fun mm a o i hi => by
      rw [gI_cpI]
      by_cases q : o = a
      · rw [if_pos q, if_pos q, show (1 : Int32).toNatClampNeg = 1 from rfl, show (0 : Int32).toNatClampNeg = 0 from rfl, show (39 : Int32).toNatClampNeg = 39 from rfl, pk_cpy_in (by omega) (by omega), Nat.sub_zero, Nat.add_comm]
      · rw [if_neg q, if_neg q]
    have h29 : gI (sI (cpI (cpI (cpI (cpI m 30 30 1 0 39) 31 31 1 0 39) 32 32 1 0 39) 33 33 1 0 39) 29 4 39) 29 4 = nI 39 := by rw [gI_sI, if_pos ⟨rfl, rfl⟩]; rfl
    have rr : ∀ o i, (30 ≤ o ∧ o ≤ 33) → i < 39 → gI (sI (cpI (cpI (cpI (cpI m 30 30 1 0 39) 31 31 1 0 39) 32 32 1 0 39) 33 33 1 0 39) 29 4 39) o i = gI m o (i + 1) := by
      intro o i ho hi
      rw [gI_sI, if_neg (by omega)]
      have ho2 : o = 30 ∨ o = 31 ∨ o = 32 ∨ o = 33 := by omega
      have ne : ∀ (mm : Mm) (a o i : Nat), ¬ o = a → gI (cpI mm a a 1 0 39) o i = gI mm o i := fun mm a o i q => by rw [gI_cpI, if_neg q]
      rcases ho2 with rfl | rfl | rfl | rfl
      · rw [ne _ 33 _ _ (by omega), ne _ 32 _ _ (by omega), ne _ 31 _ _ (by omega), rd _ _ _ _ hi, if_pos rfl]
      · rw [ne _ 33 _ _ (by omega), ne _ 32 _ _ (by omega), rd _ _ _ _ hi, if_pos rfl, ne _ 30 _ _ (by omega)]
      · rw [ne _ 33 _ _ (by omega), rd _ _ _ _ hi, if_pos rfl, ne _ 31 _ _ (by omega), ne _ 30 _ _ (by omega)]
      · rw [rd _ _ _ _ hi, if_pos rfl, ne _ 32 _ _ (by omega), ne _ 31 _ _ (by omega), ne _ 30 _ _ (by omega)]
    have cc : ch PnC m (sI (cpI (cpI (cpI (cpI m 30 30 1 0 39) 31 31 1 0 39) 32 32 1 0 39) 33 33 1 0 39) 29 4 39) := ((((c1 _ _ _ _ _ _ (fun _ => rfl)).tr (c1 _ _ _ _ _ _ (fun _ => rfl))).tr (c1 _ _ _ _ _ _ (fun _ => rfl))).tr (c1 _ _ _ _ _ _ (fun _ => rfl))).tr (ch.sI rfl)
    generalize sI (cpI (cpI (cpI (cpI m 30 30 1 0 39) 31 31 1 0 39) 32 32 1 0 39) 33 33 1 0 39) 29 4 39 = m0 at h29 rr cc
    obtain ⟨m1, x1, x2, x3, x4, x5, x6, x7, x8, x9⟩ := note13_x (v1 := v1) (v2 := v2) (v3 := v3) (v4 := v4) (show 39 < 40 by omega) h29
    exact ⟨m1, x1, cc.tr x2, x3, x4, x5, x6, x7, x8, fun o i ho hi => by rw [x9 o i ho (by omega)]; exact rr o i ho hi⟩
theorem bec97_m {d p : Nat} (hd : d < 40) (hp : p < 62) (h : gI m 58 5 = nI d) : ∃ m1, DX10_becomes_97 (nI p) v2 v3 m = some (v3, sI m1 59 p v2) ∧ ch PnR m m1 ∧ gI m1 58 5 = nI (d + 1) ∧ gI m1 58 4 = nI (d + 1) ∧ gI m1 60 d = nI p ∧ gI m1 61 d = v3 ∧ gI m1 62 d = v2 ∧ ∀ o i, (60 ≤ o ∧ o ≤ 62) → ¬ i = d → gI m1 o i = gI m o i := by
  have hi : inB (nI d) 40 := inB_nI hd (by omega)
  have hpi : inB (nI p) 62 := inB_nI hp (by omega)
  have r1 : gI (sI m 60 d (nI p)) 58 5 = nI d := by rw [gI_sI, if_neg (by omega)]; exact h
  have r2 : gI (sI (sI m 60 d (nI p)) 61 d v3) 58 5 = nI d := by rw [gI_sI, if_neg (by omega)]; exact r1
  have r3 : gI (sI (sI (sI m 60 d (nI p)) 61 d v3) 62 d v2) 58 5 = nI d := by rw [gI_sI, if_neg (by omega)]; exact r2
  have r4 : gI (sI (sI (sI (sI m 60 d (nI p)) 61 d v3) 62 d v2) 58 5 (nI (d + 1))) 58 5 = nI (d + 1) := by rw [gI_sI, if_pos ⟨rfl, rfl⟩]
  refine ⟨sI (sI (sI (sI (sI m 60 d (nI p)) 61 d v3) 62 d v2) 58 5 (nI (d + 1))) 58 4 (nI (d + 1)), ?_, ((((ch.sI rfl).tr (ch.sI rfl)).tr (ch.sI rfl)).tr (ch.sI rfl)).tr (ch.sI rfl), ?_, ?_, ?_, ?_, ?_, fun o i ho hi2 => ?_⟩
  · unfold DX10_becomes_97
    simp only [h, nI_clamp (show d < 2 ^ 31 by omega), nI_clamp (show p < 2 ^ 31 by omega), r1, r2, r3, nI_1, r4, if_pos hi, if_pos hpi]
  · rw [gI_sI, if_neg (by omega)]; exact r4
  · rw [gI_sI, if_pos ⟨rfl, rfl⟩]
  · rw [gI_sI, if_neg (by omega), gI_sI, if_neg (by omega), gI_sI, if_neg (by omega), gI_sI, if_neg (by omega), gI_sI, if_pos ⟨rfl, rfl⟩]
  · rw [gI_sI, if_neg (by omega), gI_sI, if_neg (by omega), gI_sI, if_neg (by omega), gI_sI, if_pos ⟨rfl, rfl⟩]
  · rw [gI_sI, if_neg (by omega), gI_sI, if_neg (by omega), gI_sI, if_pos ⟨rfl, rfl⟩]
  · rw [gI_sI, if_neg (by omega), gI_sI, if_neg (by omega), gI_sI, if_neg (by omega), gI_sI, if_neg (by omega), gI_sI, if_neg (by omega)]
theorem forget_l : ∀ (N i : Nat) (m : Mm), i < 40 → 40 < i + 1 + N → ∃ m1, DX10_becomes_26 N v1 v2 v3 (nI (i + 1)) m = DX10_becomes_97 v1 v2 v3 (sI m1 58 5 (gI m1 58 5 - 1)) ∧ ch PnR m m1 ∧ (∀ k, gI m1 58 k = gI m 58 k) ∧ ∀ o, (60 ≤ o ∧ o ≤ 62) → ∀ q, q < 39 → gI m1 o q = if i ≤ q then gI m o (q + 1) else gI m o q := by
  intro N
  induction N with
  | zero => intro i m h1 h2; omega
  | succ N ih =>
    intro i m h1 h2
    show ∃ m1, BX10_becomes_26 (DX10_becomes_26 N) v1 v2 v3 (nI (i + 1)) m = _ ∧ _
    unfold BX10_becomes_26
    by_cases h : i = 39
    · subst h
      rw [if_pos (by decide)]
      exact ⟨m, rfl, ch.rf, fun _ => rfl, fun o _ q hq => by rw [if_neg (by omega)]⟩
    · have a1 : inB (nI (i + 1)) 40 := inB_nI (by omega) (by omega)
      have a2 : inB (nI i) 40 := inB_nI (by omega) (by omega)
      rw [nI_m1, if_neg (show ¬ (40 : Int32) ≤ nI (i + 1) from nI_ge (b := 40) (a := i + 1) (by omega) (by omega)), if_pos a1, if_pos a2, if_pos a1, if_pos a2, if_pos a1, if_pos a2, nI_clamp (by omega), nI_clamp (by omega), nI_1]
      have u1 : gI (sI m 60 i (gI m 60 (i + 1))) 61 (i + 1) = gI m 61 (i + 1) := by rw [gI_sI, if_neg (by omega)]
      rw [u1]
      have u2 : gI (sI (sI m 60 i (gI m 60 (i + 1))) 61 i (gI m 61 (i + 1))) 62 (i + 1) = gI m 62 (i + 1) := by rw [gI_sI, if_neg (by omega), gI_sI, if_neg (by omega)]
      rw [u2]
      have cc : ch PnR m (sI (sI (sI m 60 i (gI m 60 (i + 1))) 61 i (gI m 61 (i + 1))) 62 i (gI m 62 (i + 1))) := ((ch.sI rfl).tr (ch.sI rfl)).tr (ch.sI rfl)
      have rr : ∀ o, (60 ≤ o ∧ o ≤ 62) → ∀ q, gI (sI (sI (sI m 60 i (gI m 60 (i + 1))) 61 i (gI m 61 (i + 1))) 62 i (gI m 62 (i + 1))) o q = if q = i then gI m o (i + 1) else gI m o q := by
        intro o ho q
        have ho2 : o = 60 ∨ o = 61 ∨ o = 62 := by omega
        by_cases hq : q = i
        · subst hq
          rw [if_pos rfl]
          rcases ho2 with rfl | rfl | rfl
          · rw [gI_sI, if_neg (by omega), gI_sI, if_neg (by omega), gI_sI, if_pos ⟨rfl, rfl⟩]
          · rw [gI_sI, if_neg (by omega), gI_sI, if_pos ⟨rfl, rfl⟩]
          · rw [gI_sI, if_pos ⟨rfl, rfl⟩]
        · rw [gI_sI, if_neg (by omega), gI_sI, if_neg (by omega), gI_sI, if_neg (by omega), if_neg hq]
      have r58 : ∀ k, gI (sI (sI (sI m 60 i (gI m 60 (i + 1))) 61 i (gI m 61 (i + 1))) 62 i (gI m 62 (i + 1))) 58 k = gI m 58 k := fun k => by rw [gI_sI, if_neg (by omega), gI_sI, if_neg (by omega), gI_sI, if_neg (by omega)]
      generalize sI (sI (sI m 60 i (gI m 60 (i + 1))) 61 i (gI m 61 (i + 1))) 62 i (gI m 62 (i + 1)) = m0 at cc rr r58
      obtain ⟨m1, x1, x2, x3, x4⟩ := ih (i + 1) m0 (by omega) (by omega)
      refine ⟨m1, x1, cc.tr x2, fun k => (x3 k).trans (r58 k), fun o ho q hq => ?_⟩
      rw [x4 o ho q hq, rr o ho, rr o ho]
      by_cases q1 : i + 1 ≤ q
      · rw [if_pos q1, if_neg (by omega), if_pos (by omega)]
      · rw [if_neg q1]
        by_cases q2 : q = i
        · subst q2; rw [if_pos rfl, if_pos (Nat.le_refl _)]
        · rw [if_neg q2, if_neg (by omega)]
theorem becomes_m {d p : Nat} (hd : d ≤ 40) (hp : p < 62) (h : gI m 58 5 = nI d) (hne : ¬ gI m 59 p = v2) : ∃ m1, dX10_becomes (nI p) v2 m = some (gI m 59 p, sI m1 59 p v2) ∧ ch PnR m m1 ∧ gI m1 58 5 = nI (dN0 d + 1) ∧ gI m1 58 4 = nI (dN0 d + 1) ∧ gI m1 60 (dN0 d) = nI p ∧ gI m1 61 (dN0 d) = gI m 59 p ∧ gI m1 62 (dN0 d) = v2 ∧ ∀ o i, (60 ≤ o ∧ o ≤ 62) → i < dN0 d → gI m1 o i = gI m o (i + sh0 d) := by
  have hpi : inB (nI p) 62 := inB_nI hp (by omega)
  unfold dX10_becomes dN0 sh0
  rw [if_pos hpi, nI_clamp (by omega), if_neg hne, h]
  by_cases hlt : d < 40
  · simp only [if_pos hlt, Nat.add_zero]
    obtain ⟨m1, x1, x2, x3, x4, x5, x6, x7, x8⟩ := bec97_m (v2 := v2) (v3 := gI m 59 p) hlt hp h
    refine ⟨m1, ?_, x2, x3, x4, x5, x6, x7, fun o i ho hi => x8 o i ho (by omega)⟩
    rw [if_neg (fun z => by have := (nI_eq (a := d) (b := 40) (by omega) (by omega)).mp z; omega)]; exact x1
  · have e40 : d = 40 := by omega
    subst e40
    simp only [if_neg hlt]
    rw [if_pos (by decide)]
    obtain ⟨m0, y1, y2, y3, y4⟩ := forget_l (v1 := nI p) (v2 := v2) (v3 := gI m 59 p) FU 0 m (by omega) (by unfold FU; omega)
    have e39 : gI m0 58 5 - 1 = nI 39 := by rw [y3 5, h]; rfl
    rw [e39] at y1
    have h58 : gI (sI m0 58 5 (nI 39)) 58 5 = nI 39 := by rw [gI_sI, if_pos ⟨rfl, rfl⟩]
    obtain ⟨m1, x1, x2, x3, x4, x5, x6, x7, x8⟩ := bec97_m (v2 := v2) (v3 := gI m 59 p) (show 39 < 40 by omega) hp h58
    refine ⟨m1, y1.trans x1, (y2.tr (ch.sI rfl)).tr x2, x3, x4, x5, x6, x7, fun o i ho hi => ?_⟩
    rw [x8 o i ho (by omega), gI_sI, if_neg (by omega), y4 o ho i hi, if_pos (Nat.zero_le _)]
theorem mend_j (J : JA m s b kn n t lv) : Ans (dX9_mend v1 v2 v3) (dX10_mend v1 v2 v3) m := by
  have z0 : (0 : Int32).toInt = 0 := rfl
  have z8 : (8 : Int32).toInt = 8 := rfl
  obtain ⟨dn, kp, c1, c2, c3, c4, c5, c6, c7⟩ := J.2.2.1
  have s10 := J.1.1.1.s10
  have b6 := J.1.1.1.b6
  unfold Ans dX9_mend dX10_mend DX9_mend_30 DX9_mend_72 DX10_mend_31
  simp only [holds_x J.1.1.1, Option.bind_some, b01_0]
  by_cases h : hd s b v2.toInt v1.toInt ∧ v2.toInt ≤ 8
  · have h0 : 0 ≤ v2.toInt ∧ 0 ≤ v1.toInt := by have := h.1; unfold hd at this; omega
    obtain ⟨w, hw⟩ : ∃ q : Nat, v2.toInt = q := ⟨v2.toInt.toNat, by omega⟩
    obtain ⟨k, hk⟩ : ∃ q : Nat, v1.toInt = q := ⟨v1.toInt.toNat, by omega⟩
    obtain rfl := nI_of_toInt hw
    obtain rfl := nI_of_toInt hk
    rw [hw, hk] at h
    have hh : hn s b w k := hd_hn.mp h
    have h8 := hn_8 hh
    have hp := plc_lt s10 b6 hh
    have ju := (Ju.of J.1.1).2.1 w k hh
    have e1 : ¬ nI w < 0 := nI_pos (by omega)
    have e2 : ¬ (8 : Int32) < nI w := by rw [toI_lt, hw, z8]; omega
    simp only [if_neg e1, if_neg e2, hw, hk, if_neg (show ¬ ¬ hd s b (w : Int) (k : Int) from fun q => q h.1), within_x (show w < 9 by omega), Option.bind_some, b01_0, told_x J.1.1.1 hw hk h.1]
    have ep : ∀ m1 : Mm, Js m1 s b → dX10_placeOf (nI k) (nI w) m1 = some (nI (plc w k), m1) := fun m1 q => placeOf_p q hh
    have enp : ¬ nI (plc w k) < 0 := nI_pos (by omega)
    by_cases hv : wn w v3
    · have hv' : loV w ≤ v3.toInt ∧ v3.toInt ≤ hiV w := hv
      simp only [if_neg (show ¬ ¬ (loV w ≤ v3.toInt ∧ v3.toInt ≤ hiV w) from fun q => q hv')]
      by_cases hs : gI m (3 + w) k = v3
      · refine ⟨gI m (3 + w) k, m, m, by rw [if_pos hs], ?_, _, _, _, _, _, _, J⟩
        rw [ep m J.1.1.1, Option.bind_some]
        simp only [if_neg enp, mayBecome_m (show w < 9 by omega), Option.bind_some, b01_0, if_neg (show ¬ ¬ (loV w ≤ v3.toInt ∧ v3.toInt ≤ hiV w) from fun q => q hv')]
        unfold dX10_becomes
        rw [if_pos (inB_nI hp (by omega)), nI_clamp (by omega), ju.1, if_pos hs, Option.bind_some]
      · rw [if_neg hs, setx_p J.1.1.1 hh, Option.bind_some]
        simp only []
        have h29 : gI (sI m (3 + w) k v3) 29 4 = nI dn := by rw [gI_sI, if_neg (by omega)]; exact c3
        obtain ⟨m1, x1, x2, x3, x4, x5, x6, x7, x8, x9⟩ := note_x (v1 := nI w) (v2 := nI k) (v3 := gI m (3 + w) k) (v4 := v3) (show dn ≤ 40 by omega) h29
        rw [x1, Option.bind_some]
        have A : ∀ o i, ¬ (o = 3 + w ∧ i = k) → PnC o i = false → gI m1 o i = gI m o i := fun o i q1 q2 => by rw [x2.I q2, gI_sI, if_neg q1]
        have Jm : Js m1 s b := by
          obtain ⟨a1, a2, a3, a4, a5, a6⟩ := J.1.1.1
          exact ⟨a1, a2, by rw [A 1 2 (by omega) rfl]; exact a3, by rw [A 1 3 (by omega) rfl]; exact a4, by rw [A 58 6 (by omega) rfl]; exact a5, by rw [A 58 7 (by omega) rfl]; exact a6⟩
        have h58 : gI m1 58 5 = nI dn := by rw [A 58 5 (by omega) rfl]; exact c5
        have hw59 : gI m1 59 (plc w k) = gI m (3 + w) k := by rw [A 59 _ (by omega) rfl]; exact ju.1
        obtain ⟨m2, y1, y2, y3, y4, y5, y6, y7, y8⟩ := becomes_m (v2 := v3) (show dn ≤ 40 by omega) hp h58 (by rw [hw59]; exact hs)
        rw [hw59] at y1 y6
        have d0 : dN0 dn < 40 := by unfold dN0; split <;> omega
        have old : ∀ i, i < dN0 dn → i + sh0 dn < dn := by
          intro i hi
          unfold dN0 at hi
          unfold sh0
          split at hi
          · rw [if_pos (by assumption)]; omega
          · rw [if_neg (by assumption)]; omega
        have B : ∀ o i, PnR o i = false → ¬ (o = 59 ∧ i = plc w k) → gI (sI m2 59 (plc w k) v3) o i = gI m1 o i := fun o i q1 q2 => by rw [gI_sI, if_neg q2, y2.I q1]
        have B2 : ∀ o i, ¬ o = 59 → gI (sI m2 59 (plc w k) v3) o i = gI m2 o i := fun o i q => by rw [gI_sI, if_neg (fun z => q z.1)]
        have c : ch Pmn m (sI m2 59 (plc w k) v3) := (((ch.sI (Pmn_w h8)).tr (x2.up (up_of fun o k q => by unfold PnC at q; unfold Pmn; simp at q ⊢; omega))).tr (y2.up (up_of fun o k q => by unfold PnR at q; unfold Pmn; simp at q ⊢; omega))).tr (ch.sI rfl)
        refine ⟨gI m (3 + w) k, m1, sI m2 59 (plc w k) v3, rfl, ?_, s, b, kn, n, t, lv, JA_mn J c ?_ ⟨dN0 dn + 1, dN0 dn + 1, Nat.le_refl _, by omega, ?_, ?_, ?_, ?_, fun i hi => ?_⟩⟩
        · rw [ep m1 Jm, Option.bind_some]
          simp only [if_neg enp, mayBecome_m (show w < 9 by omega), Option.bind_some, b01_0, if_neg (show ¬ ¬ (loV w ≤ v3.toInt ∧ v3.toInt ≤ hiV w) from fun q => q hv'), y1]
        · refine Ju_set (Ju.of J.1.1) hh hv (fun o i hf => ?_)
          have f1 : PnR o i = false := by cases e : PnR o i with
            | false => rfl
            | true => exfalso; unfold PnR at e; unfold FT at hf; simp at e hf; omega
          have f2 : PnC o i = false := by cases e : PnC o i with
            | false => rfl
            | true => exfalso; unfold PnC at e; unfold FT at hf; simp at e hf; omega
          by_cases u1 : o = 59 ∧ i = plc w k
          · rw [gI_sI, if_pos u1, if_pos (Or.inl u1)]
          · rw [B o i f1 u1, x2.I f2, gI_sI]
            by_cases u2 : o = 3 + w ∧ i = k
            · rw [if_pos u2, if_pos (Or.inr u2)]
            · rw [if_neg u2, if_neg (fun z => z.elim u1 u2)]
        · rw [B 29 4 rfl (by omega)]; exact x3
        · rw [B 29 5 rfl (by omega)]; exact x4
        · rw [B2 58 5 (by omega)]; exact y3
        · rw [B2 58 4 (by omega)]; exact y4
        · by_cases hi2 : i = dN0 dn
          · subst hi2
            refine ⟨w, k, hh, ?_, ?_, ?_, ?_, ?_, ?_, ?_⟩
            · rw [B 30 _ rfl (by omega)]; exact x5
            · rw [B 31 _ rfl (by omega)]; exact x6
            · rw [B2 60 _ (by omega)]; exact y5
            · rw [B2 61 _ (by omega), B 32 _ rfl (by omega), y6, x7]
            · rw [B 32 _ rfl (by omega), x7]; exact ju.2
            · rw [B2 62 _ (by omega), B 33 _ rfl (by omega), y7, x8]
            · rw [B 33 _ rfl (by omega), x8]; exact hv
          · have hi3 : i < dN0 dn := by omega
            have j := c7 (i + sh0 dn) (by have := old i hi3; omega)
            have rx : ∀ o, (30 ≤ o ∧ o ≤ 33) → gI (sI m2 59 (plc w k) v3) o i = gI m o (i + sh0 dn) := fun o ho => by
              have f1 : PnR o i = false := by unfold PnR; simp; omega
              rw [B o i f1 (by omega), x9 o i ho hi3, gI_sI, if_neg (by omega)]
            have rm : ∀ o, (60 ≤ o ∧ o ≤ 62) → gI (sI m2 59 (plc w k) v3) o i = gI m o (i + sh0 dn) := fun o ho => by
              have f1 : PnC o (i + sh0 dn) = false := by unfold PnC; simp; omega
              rw [B2 o i (by omega), y8 o i ho hi3, A o _ (by omega) f1]
            unfold Jc1 at j ⊢
            rw [rx 30 (by omega), rx 31 (by omega), rx 32 (by omega), rx 33 (by omega), rm 60 (by omega), rm 61 (by omega), rm 62 (by omega)]
            exact j
    · have hv' : ¬ (loV w ≤ v3.toInt ∧ v3.toInt ≤ hiV w) := hv
      simp only [if_pos hv']
      refine ⟨-2000000000, m, m, rfl, ?_, _, _, _, _, _, _, J⟩
      rw [ep m J.1.1.1, Option.bind_some]
      simp only [if_neg enp, mayBecome_m (show w < 9 by omega), Option.bind_some, b01_0, if_pos hv']
  · refine ⟨-2000000000, m, m, ?_, ?_, _, _, _, _, _, _, J⟩
    · simp only [toI_lt, z0, z8]
      repeat' split
      all_goals first | rfl | (exfalso; omega)
    · rw [place_bad J.1.1.1 h, Option.bind_some]
      rw [if_pos (show (-1 : Int32) < 0 by decide)]
end MEND2
