/-! ===== act: the reference's side, and both ===== -/
section ACT2
variable {m : Mm} {s b kn n : Nat} {t : Nat → Nat} {lv : Option LF} {v1 v2 v3 : Int32} {own sf : Nat}
theorem ti_m {N k r : Nat} {x : Int32} (hk : k < 8) (h : Pr m own sf r) (hr : r ≤ 900) : dX10_tiesAs (N + 2) (nI k) x m = some ((tiS k x (nI sf)).1, trRs m (tiS k x (nI sf)).2) := by
  have base : ∀ (N : Nat) (m : Mm) (r : Nat), Pr m own sf r → r ≤ 950 → dX10_tiesAs (N + 1) 0 x m = some (x + nI sf, trR m 1) := by
    intro N m r h hr
    show ((dX10_runs 1 m).bind fun q => some (x + gI q.2 58 37, q.2)) = _
    rw [runs_m h (by omega), Option.bind_some]
    show some (x + gI (trR m 1) 58 37, trR m 1) = _
    rw [trR_c.I rfl, h.2.2.1]
  have k0 : ((dX10_runs 1 m).bind fun q => some (x + gI q.2 58 37, q.2)) = some (x + nI sf, trR m 1) := base N m r h (by omega)
  have k20 : ((dX10_runs 20 m).bind fun q => (dX10_tiesAs (N + 1) 0 x q.2).bind fun p => some (p.1 + 3, p.2)) = some (x + nI sf + 3, trRs m [20, 1]) := by
    rw [runs_m h (by omega), Option.bind_some]
    simp only []
    rw [base N _ (r + 1) (Pr_tr h) (by omega)]; rfl
  have k70 : ((dX10_runs 70 m).bind fun q => (dX10_tiesAs (N + 1) 0 x q.2).bind fun p => some (p.1 * 2, p.2)) = some ((x + nI sf) * 2, trRs m [70, 1]) := by
    rw [runs_m h (by omega), Option.bind_some]
    simp only []
    rw [base N _ (r + 1) (Pr_tr h) (by omega)]; rfl
  have h1 : k = 0 ∨ k = 1 ∨ k = 2 ∨ k = 3 ∨ k = 4 ∨ k = 5 ∨ k = 6 ∨ k = 7 := by omega
  rcases h1 with rfl | rfl | rfl | rfl | rfl | rfl | rfl | rfl
  · exact k0
  · exact k20
  · exact k0
  · exact k0
  · exact k20
  · exact k0
  · exact k70
  · exact k20
theorem ti_h {k r : Nat} {x : Int32} (hk : k < 8) (h : Pr m own sf r) (hr : r ≤ 900) : dX10_tiesAs 100 (nI k) x m = some ((tiS k x (nI sf)).1, trRs m (tiS k x (nI sf)).2) := ti_m (N := 98) hk h hr
theorem sh_m {N k r : Nat} {x : Int32} (hk : k < 8) (h : Pr m own sf r) (hr : r ≤ 850) : dX10_shakesAs (N + 2) (nI k) x m = some ((shS own k x (nI sf)).1, trRs m (shS own k x (nI sf)).2) := by
  have ho := h.2.1
  have base : ∀ (k : Nat), k = 0 ∨ k = 1 ∨ k = 2 ∨ k = 6 → ∀ (N : Nat) (m : Mm) (r : Nat), Pr m own sf r → r ≤ 950 → dX10_shakesAs (N + 1) (nI k) x m = some (x ^^^ nI sf, trR m 11) := by
    intro k hk N m r h hr
    have e : ((dX10_runs 11 m).bind fun q => some (x ^^^ gI q.2 58 37, q.2)) = some (x ^^^ nI sf, trR m 11) := by
      rw [runs_m h (by omega), Option.bind_some]
      show some (x ^^^ gI (trR m 11) 58 37, trR m 11) = _
      rw [trR_c.I rfl, h.2.2.1]
    rcases hk with rfl | rfl | rfl | rfl <;> exact e
  have k40 : ((dX10_runs 40 m).bind fun q => (dX10_shakesAs (N + 1) (nI 2) x q.2).bind fun p => some (p.1 * 3, p.2)) = some ((x ^^^ nI sf) * 3, trRs m [40, 11]) := by
    rw [runs_m h (by omega), Option.bind_some]
    simp only []
    rw [base 2 (by omega) N _ (r + 1) (Pr_tr h) (by omega)]; rfl
  have k50 : ((dX10_runs 50 m).bind fun q => (dX10_shakesAs (N + 1) (nI 1) x q.2).bind fun p => (dX10_tiesAs 100 (gI p.2 58 36) 2 p.2).bind fun w => some (p.1 - w.1, w.2)) = some ((x ^^^ nI sf) - (tiS own 2 (nI sf)).1, trRs m (50 :: 11 :: (tiS own 2 (nI sf)).2)) := by
    rw [runs_m h (by omega), Option.bind_some]
    simp only []
    rw [base 1 (by omega) N _ (r + 1) (Pr_tr h) (by omega), Option.bind_some]
    simp only []
    have h2 := Pr_tr (v := 11) (Pr_tr (v := 50) h)
    rw [h2.2.2.2.1, ti_h ho h2 (by omega)]; rfl
  have h1 : k = 0 ∨ k = 1 ∨ k = 2 ∨ k = 3 ∨ k = 4 ∨ k = 5 ∨ k = 6 ∨ k = 7 := by omega
  rcases h1 with rfl | rfl | rfl | rfl | rfl | rfl | rfl | rfl
  · exact base 0 (by omega) (N + 1) m r h (by omega)
  · exact base 1 (by omega) (N + 1) m r h (by omega)
  · exact base 2 (by omega) (N + 1) m r h (by omega)
  · exact k40
  · exact k50
  · exact k40
  · exact base 6 (by omega) (N + 1) m r h (by omega)
  · exact k50
theorem sh_h {k r : Nat} {x : Int32} (hk : k < 8) (h : Pr m own sf r) (hr : r ≤ 850) : dX10_shakesAs 100 (nI k) x m = some ((shS own k x (nI sf)).1, trRs m (shS own k x (nI sf)).2) := sh_m (N := 98) hk h hr
theorem se_m {N k r : Nat} {x : Int32} (hk : k < 8) (h : Pr m own sf r) (hr : r ≤ 800) : dX10_sellsAs (N + 3) (nI k) x m = some ((ssS own k x (nI sf)).1, trRs m (ssS own k x (nI sf)).2) := by
  have ho := h.2.1
  have base : ∀ (k : Nat), k = 0 ∨ k = 1 ∨ k = 4 ∨ k = 6 → ∀ (x : Int32) (N : Nat) (m : Mm) (r : Nat), Pr m own sf r → r ≤ 850 → dX10_sellsAs (N + 1) (nI k) x m = some ((se0 own x (nI sf)).1, trRs m (se0 own x (nI sf)).2) := by
    intro k hk x N m r h hr
    have e : ((dX10_runs 10 m).bind fun q => (dX10_tiesAs 100 (gI q.2 58 36) x q.2).bind fun p => some (p.1 * 2, p.2)) = some ((se0 own x (nI sf)).1, trRs m (se0 own x (nI sf)).2) := by
      rw [runs_m h (by omega), Option.bind_some]
      simp only []
      have h2 := Pr_tr (v := 10) h
      rw [h2.2.2.2.1, ti_h ho h2 (by omega)]; rfl
    rcases hk with rfl | rfl | rfl | rfl <;> exact e
  have t30 : ∀ (x : Int32) (N : Nat) (m : Mm) (r : Nat), Pr m own sf r → r ≤ 840 → dX10_sellsAs (N + 2) (nI 2) x m = some (-(se0 own x (nI sf)).1, trRs m (30 :: (se0 own x (nI sf)).2)) := by
    intro x N m r h hr
    show ((dX10_runs 30 m).bind fun q => (dX10_sellsAs (N + 1) (nI 0) x q.2).bind fun p => some (-p.1, p.2)) = _
    rw [runs_m h (by omega), Option.bind_some]
    simp only []
    rw [base 0 (by omega) x N _ (r + 1) (Pr_tr h) (by omega)]; rfl
  have t41 : ((dX10_runs 41 m).bind fun q => (dX10_sellsAs (N + 2) (nI 2) (x + 1) q.2).bind fun p => some (p.1, p.2)) = some (-(se0 own (x + 1) (nI sf)).1, trRs m (41 :: 30 :: (se0 own (x + 1) (nI sf)).2)) := by
    rw [runs_m h (by omega), Option.bind_some]
    simp only []
    rw [t30 (x + 1) N _ (r + 1) (Pr_tr h) (by omega)]; rfl
  have h1 : k = 0 ∨ k = 1 ∨ k = 2 ∨ k = 3 ∨ k = 4 ∨ k = 5 ∨ k = 6 ∨ k = 7 := by omega
  rcases h1 with rfl | rfl | rfl | rfl | rfl | rfl | rfl | rfl
  · exact base 0 (by omega) x (N + 2) m r h (by omega)
  · exact base 1 (by omega) x (N + 2) m r h (by omega)
  · exact t30 x (N + 1) m r h (by omega)
  · exact t41
  · exact base 4 (by omega) x (N + 2) m r h (by omega)
  · exact t41
  · exact base 6 (by omega) x (N + 2) m r h (by omega)
  · show ((dX10_runs 80 m).bind fun q => (dX10_sellsAs (N + 2) (nI 4) x q.2).bind fun p => (dX10_shakesAs 100 (gI p.2 58 36) 2 p.2).bind fun w => some (p.1 + w.1, w.2)) = _
    rw [runs_m h (by omega), Option.bind_some]
    simp only []
    rw [base 4 (by omega) x (N + 1) _ (r + 1) (Pr_tr h) (by omega), Option.bind_some]
    simp only []
    have hl := tiS_l (k := own) (x := x) (y := nI sf)
    have h2 := Pr_trs (se0 own x (nI sf)).2 (Pr_tr (v := 80) h)
    rw [h2.2.2.2.1, sh_h ho h2 (by unfold se0; simp; omega), Option.bind_some]
    show some (_, trRs (trRs (trR m 80) _) _) = some (_, trRs (trR m 80) _)
    rw [← trRs_app]; rfl
theorem se_h {k r : Nat} {x : Int32} (hk : k < 8) (h : Pr m own sf r) (hr : r ≤ 800) : dX10_sellsAs 100 (nI k) x m = some ((ssS own k x (nI sf)).1, trRs m (ssS own k x (nI sf)).2) := se_m (N := 97) hk h hr
theorem te_m {N k r : Nat} {x : Int32} (hk : k < 8) (h : Pr m own sf r) (hr : r ≤ 750) : dX10_tellsAs (N + 2) (nI k) x m = some ((teS own k x (nI sf)).1, trRs m (teS own k x (nI sf)).2) := by
  have ho := h.2.1
  have base : ∀ (k : Nat), ¬ k = 5 → ¬ k = 7 → k < 8 → ∀ (N : Nat) (m : Mm) (r : Nat), Pr m own sf r → r ≤ 780 → dX10_tellsAs (N + 1) (nI k) x m = some ((te0 own x (nI sf)).1, trRs m (te0 own x (nI sf)).2) := by
    intro k k5 k7 hk N m r h hr
    have key : ((dX10_runs 2 m).bind fun q => (dX10_sellsAs 100 (gI q.2 58 36) x q.2).bind fun p => (dX10_shakesAs 100 (gI p.2 58 36) 1 p.2).bind fun w => some (p.1 - w.1, w.2)) = some ((te0 own x (nI sf)).1, trRs m (te0 own x (nI sf)).2) := by
      rw [runs_m h (by omega), Option.bind_some]
      simp only []
      have h2 := Pr_tr (v := 2) h
      rw [h2.2.2.2.1, se_h ho h2 (by omega), Option.bind_some]
      simp only []
      have hl := ssS_l (own := own) (k := own) (x := x) (y := nI sf)
      have h3 := Pr_trs (ssS own own x (nI sf)).2 h2
      rw [h3.2.2.2.1, sh_h ho h3 (by omega), Option.bind_some]
      show some (_, trRs (trRs (trR m 2) _) _) = some (_, trRs (trR m 2) _)
      rw [← trRs_app]; rfl
    have h1 : k = 0 ∨ k = 1 ∨ k = 2 ∨ k = 3 ∨ k = 4 ∨ k = 6 := by omega
    rcases h1 with rfl | rfl | rfl | rfl | rfl | rfl <;> exact key
  have h1 : k = 5 ∨ k = 7 ∨ (¬ k = 5 ∧ ¬ k = 7) := by omega
  rcases h1 with rfl | rfl | ⟨h5, h7⟩
  · show ((dX10_runs 60 m).bind fun q => (dX10_tellsAs (N + 1) (nI 3) x q.2).bind fun p => some (p.1 ^^^ 5, p.2)) = _
    rw [runs_m h (by omega), Option.bind_some]
    simp only []
    rw [base 3 (by omega) (by omega) (by omega) N _ (r + 1) (Pr_tr h) (by omega)]; rfl
  · show ((dX10_runs 81 m).bind fun q => (dX10_tellsAs (N + 1) (nI 4) x q.2).bind fun p => some (p.1 - 1, p.2)) = _
    rw [runs_m h (by omega), Option.bind_some]
    simp only []
    rw [base 4 (by omega) (by omega) (by omega) N _ (r + 1) (Pr_tr h) (by omega)]; rfl
  · have e : teS own k x (nI sf) = te0 own x (nI sf) := by unfold teS; rw [if_neg h5, if_neg h7]
    rw [e]
    exact base k h5 h7 hk (N + 1) m r h (by omega)
theorem teS_l {k : Nat} {x y : Int32} : (teS own k x y).2.length ≤ 14 := by
  have h1 := ssS_l (own := own) (k := own) (x := x) (y := y)
  have h3 := shS_l (own := own) (k := own) (x := 1) (y := y)
  unfold teS te0
  by_cases q1 : k = 5
  · rw [if_pos q1]; simp; omega
  · rw [if_neg q1]
    by_cases q2 : k = 7
    · rw [if_pos q2]; simp; omega
    · rw [if_neg q2]; simp; omega
theorem trC_get {v : Int32} {r : Nat} (h : gI m 34 4 = nI r) (hr : r ≤ 1000) : gI (trC m v) 34 4 = nI (r + 1) ∧ ∀ k, gI (trC m v) 36 k = if r < 24 ∧ k = r then v else gI m 36 k := by
  have er : (nI r).toInt = r := nI_toInt (by omega)
  unfold trC
  refine ⟨by rw [gI_at, if_pos rfl, h, nI_1], fun k => ?_⟩
  rw [gI_o (by omega), h, er, Int.toNat_natCast]
  by_cases q : r < 24
  · rw [if_pos (by omega), gI_at]
    by_cases e : k = r
    · rw [if_pos e, if_pos ⟨q, e⟩]
    · rw [if_neg e, if_neg (fun z => e z.2)]
  · rw [if_neg (by omega), if_neg (fun z => q z.1)]
theorem trR_get {v : Int32} {r : Nat} (h : gI m 58 35 = nI r) (hr : r ≤ 1000) : gI (trR m v) 58 35 = nI (r + 1) ∧ ∀ k, gI (trR m v) 78 k = if r < 24 ∧ k = r then v else gI m 78 k := by
  have er : (nI r).toInt = r := nI_toInt (by omega)
  unfold trR
  refine ⟨by rw [gI_at, if_pos rfl, h, nI_1], fun k => ?_⟩
  rw [gI_o (by omega), h, er, Int.toNat_natCast]
  by_cases q : r < 24
  · rw [if_pos (by omega), gI_at]
    by_cases e : k = r
    · rw [if_pos e, if_pos ⟨q, e⟩]
    · rw [if_neg e, if_neg (fun z => e z.2)]
  · rw [if_neg (by omega), if_neg (fun z => q z.1)]
theorem tr_get : ∀ (l : List Int32) (M M' : Mm) (r : Nat), gI M 34 4 = nI r → gI M' 58 35 = nI r → r + l.length ≤ 1000 → (∀ k, k < r → k < 24 → gI M' 78 k = gI M 36 k) → gI (trCs M l) 34 4 = nI (r + l.length) ∧ gI (trRs M' l) 58 35 = nI (r + l.length) ∧ ∀ k, k < r + l.length → k < 24 → gI (trRs M' l) 78 k = gI (trCs M l) 36 k
  | [], _, _, _, h1, h2, _, h4 => ⟨h1, h2, h4⟩
  | v :: l, M, M', r, h1, h2, h3, h4 => by
    have hl : (v :: l).length = l.length + 1 := rfl
    obtain ⟨a1, a2⟩ := trC_get (v := v) h1 (by omega)
    obtain ⟨b1, b2⟩ := trR_get (v := v) h2 (by omega)
    have := tr_get l (trC M v) (trR M' v) (r + 1) a1 b1 (by omega) (fun k hk hk2 => by
      rw [a2, b2]
      by_cases e : k = r
      · rw [if_pos ⟨by omega, e⟩, if_pos ⟨by omega, e⟩]
      · rw [if_neg (fun z => e z.2), if_neg (fun z => e z.2)]; exact h4 k (by omega) hk2)
    rw [show r + (v :: l).length = r + 1 + l.length by omega]
    exact this
def Pac (o k : Nat) : Bool := o == 36 || o == 78 || (o == 34 && (k == 2 || k == 4)) || (o == 58 && (k == 35 || k == 36 || k == 37))
theorem oAc_T : off FT Pac := fun o k h => by unfold FT at h; unfold Pac; simp at h ⊢; omega
theorem oAc_L : off FLw Pac := fun o k h => by unfold FLw at h; unfold Pac; simp at h ⊢; omega
theorem oAc_H : off FH Pac := fun o k h => by unfold FH at h; unfold Pac; simp at h ⊢; omega
theorem oAc_P : off FP Pac := fun o k h => by unfold FP at h; unfold Pac; simp at h ⊢; omega
theorem oAc_C : off FC Pac := fun o k h => by unfold FC at h; unfold Pac; simp at h ⊢; omega
theorem oAc_D : off FDd Pac := fun o k h => by unfold FDd at h; unfold Pac; simp at h ⊢; omega
theorem Pnc_ac : ∀ o k, Pac o k = false → Pnc o k = false := up_of fun o k q => by unfold Pnc at q; unfold Pac; simp at q ⊢; omega
theorem Pnr_ac : ∀ o k, Pac o k = false → Pnr o k = false := up_of fun o k q => by unfold Pnr at q; unfold Pac; simp at q ⊢; omega
theorem JA_ac {m' : Mm} {r : Nat} (J : JA m s b kn n t lv) (c : ch Pac m m') (h1 : gI m' 34 4 = nI r) (h2 : gI m' 58 35 = nI r) (hr : r ≤ 1000) (h3 : ∀ k, k < r → k < 24 → gI m' 78 k = gI m' 36 k) : JA m' s b kn n t lv := by
  have er : (nI r).toInt = r := nI_toInt (by omega)
  obtain ⟨x1, x2, x3, x4, x5, x6, x7⟩ := J.2.2.2.2
  refine ⟨K_fr J.1 c oAc_T oAc_L oAc_H, ⟨Jp_fr J.2.1.1 c oAc_P, Jr_fr J.2.1.2 c oAc_P⟩, Jc_fr J.2.2.1 c oAc_C, Jd_fr J.2.2.2.1 c oAc_D, x1, by rw [c.I rfl]; exact x2, by rw [c.I rfl]; exact x3, fun k hk => ?_, by rw [h1, h2], by rw [h1, er]; omega, fun k k1 k2 => ?_⟩
  · rw [c.I (o := 77) rfl, c.I (o := 35) rfl]; exact x4 k hk
  · rw [h1, er] at k2
    exact h3 k (by omega) k1
theorem act_j (J : JA m s b kn n t lv) : Ans (dX9_act v1 v2 v3) (dX10_act v1 v2 v3) m := by
  have N := J.2.2.2.2
  have k50 := N.1
  have z0 : (0 : Int32).toInt = 0 := rfl
  have z4 : (4 : Int32).toInt = 4 := rfl
  have c0 : ch Pac m (sI m 34 4 0) := ch.sI rfl
  have N0 : dX4_has v1 (sI m 34 4 0) = some (b01 (0 ≤ v1.toInt ∧ v1.toInt < (kn : Int)), sI m 34 4 0) := by
    have ek : (nI kn).toInt = kn := nI_toInt (by omega)
    unfold dX4_has DX4_has_16
    rw [show gI (sI m 34 4 0) 34 3 = nI kn by rw [gI_at, if_neg (by omega)]; exact N.2.1]
    simp only [toI_lt, toI_le, z0, ek]
    unfold b01
    repeat' split
    all_goals first | rfl | (exfalso; omega)
  have iB : ∀ M : Mm, gI M 58 32 = nI kn → dX10_isBody v1 M = some (b01 (0 ≤ v1.toInt ∧ v1.toInt < (kn : Int)), M) := by
    intro M hM
    have ek : (nI kn).toInt = kn := nI_toInt (by omega)
    have z1 : (1 : Int32).toInt = 1 := rfl
    unfold dX10_isBody
    rw [hM, within_m, Option.bind_some, i64, i64, iSub (by rw [ek, z1]; omega) (by rw [ek, z1]; omega), ek]
    have e : (0 ≤ v1.toInt ∧ v1.toInt < (kn : Int)) = ((0 : Int64).toInt ≤ v1.toInt ∧ v1.toInt ≤ (kn : Int) - (1 : Int32).toInt) := propext (by rw [z1]; have : (0 : Int64).toInt = 0 := rfl; omega)
    simp only [e]
  unfold Ans dX9_act dX4_start DX4_start_22 dX10_act
  rw [N0, Option.bind_some]
  simp only [b01_0]
  by_cases h1 : 0 ≤ v1.toInt ∧ v1.toInt < (kn : Int)
  · obtain ⟨q, hq⟩ : ∃ q : Nat, v1.toInt = q := ⟨v1.toInt.toNat, by omega⟩
    obtain rfl := nI_of_toInt hq
    obtain ⟨x77, ow, how, x35⟩ := N.2.2.2.1 q (by omega)
    have iq : inB (nI q) 50 := inB_nI (by omega) (by omega)
    rw [if_neg (fun z => z h1)]
    by_cases h2 : 0 ≤ v2.toInt ∧ v2.toInt < 4
    · obtain ⟨a, ha⟩ : ∃ q : Nat, v2.toInt = q := ⟨v2.toInt.toNat, by omega⟩
      obtain rfl := nI_of_toInt ha
      have a4 : a < 4 := by omega
      rw [if_neg (by rw [toI_lt, z0]; omega), if_pos (by rw [toI_lt, z4]; omega), if_pos iq]
      simp only [nI_clamp (show q < 2 ^ 31 by omega)]
      have e35 : gI (sI (sI m 34 4 0) 34 2 (nI q)) 35 q = nI ow := by rw [gI_o (by omega), gI_o (by omega)]; exact x35
      have p0 : Pc (sI (sI m 34 4 0) 34 2 (nI q)) ow q 0 := ⟨by omega, how, by rw [gI_at, if_pos rfl], e35, by rw [gI_at, if_neg (by omega), gI_at, if_pos rfl]; rfl⟩
      have c1 : ch Pac m (sI (sI m 34 4 0) 34 2 (nI q)) := c0.tr (ch.sI rfl)
      have e58 : ∀ k, gI (sI (sI m 34 4 0) 34 2 (nI q)) 58 k = gI m 58 k := fun k => by rw [gI_o (by omega), gI_o (by omega)]
      have e77 : gI (sI (sI m 34 4 0) 34 2 (nI q)) 77 q = nI ow := by rw [gI_o (by omega), gI_o (by omega), x77]; exact x35
      rw [e35]
      generalize sI (sI m 34 4 0) 34 2 (nI q) = m1 at e35 p0 c1 e58 e77
      have go : ∀ (S : Int32 × List Int32), S.2.length ≤ 20 → dX4_run 100 (nI ow) (nI a) v3 0 m1 = some (S.1, trCs m1 S.2) → (∀ (M : Mm), Pr M ow q 0 → (if nI a = 0 then ((dX10_tiesAs 100 (nI ow) v3 M).bind fun q66 => some (q66.1, q66.2)) else (if nI a = 1 then ((dX10_sellsAs 100 (nI ow) v3 M).bind fun q76 => some (q76.1, q76.2)) else (if nI a = 2 then ((dX10_shakesAs 100 (nI ow) v3 M).bind fun q86 => some (q86.1, q86.2)) else (if nI a = 3 then ((dX10_tellsAs 100 (nI ow) v3 M).bind fun q96 => some (q96.1, q96.2)) else some (0, M))))) = some (S.1, trRs M S.2)) → ∃ r M1 M2, ((dX4_run 100 (nI ow) (nI a) v3 0 m1).bind fun q39 => some (q39.1, q39.2)) = some (r, M1) ∧ ((dX10_isBody (nI q) (sI M1 58 35 0)).bind fun q7 => (if q7.1 = 0 then some (0, q7.2) else (if inB (nI q) 50 then (if nI a = 0 then ((dX10_tiesAs 100 (gI (sI (sI q7.2 58 36 (gI q7.2 77 q)) 58 37 (nI q)) 58 36) v3 (sI (sI q7.2 58 36 (gI q7.2 77 q)) 58 37 (nI q))).bind fun q66 => some (q66.1, q66.2)) else (if nI a = 1 then ((dX10_sellsAs 100 (gI (sI (sI q7.2 58 36 (gI q7.2 77 q)) 58 37 (nI q)) 58 36) v3 (sI (sI q7.2 58 36 (gI q7.2 77 q)) 58 37 (nI q))).bind fun q76 => some (q76.1, q76.2)) else (if nI a = 2 then ((dX10_shakesAs 100 (gI (sI (sI q7.2 58 36 (gI q7.2 77 q)) 58 37 (nI q)) 58 36) v3 (sI (sI q7.2 58 36 (gI q7.2 77 q)) 58 37 (nI q))).bind fun q86 => some (q86.1, q86.2)) else (if nI a = 3 then ((dX10_tellsAs 100 (gI (sI (sI q7.2 58 36 (gI q7.2 77 q)) 58 37 (nI q)) 58 36) v3 (sI (sI q7.2 58 36 (gI q7.2 77 q)) 58 37 (nI q))).bind fun q96 => some (q96.1, q96.2)) else some (0, (sI (sI q7.2 58 36 (gI q7.2 77 q)) 58 37 (nI q))))))) else none))) = some (r, M2) ∧ JJ M2 := by
        intro S hl hx hm
        rw [hx, Option.bind_some]
        have ct := trCs_c S.2 m1
        refine ⟨S.1, trCs m1 S.2, ?_⟩
        have g32 : gI (sI (trCs m1 S.2) 58 35 0) 58 32 = nI kn := by rw [gI_at, if_neg (by omega), ct.I rfl, e58]; exact N.2.2.1
        have g77 : gI (sI (trCs m1 S.2) 58 35 0) 77 q = nI ow := by rw [gI_o (by omega), ct.I rfl]; exact e77
        have g36 : gI (sI (sI (sI (trCs m1 S.2) 58 35 0) 58 36 (nI ow)) 58 37 (nI q)) 58 36 = nI ow := by rw [gI_at, if_neg (by omega), gI_at, if_pos rfl]
        have pr : Pr (sI (sI (sI (trCs m1 S.2) 58 35 0) 58 36 (nI ow)) 58 37 (nI q)) ow q 0 := ⟨by omega, how, by rw [gI_at, if_pos rfl], g36, by rw [gI_at, if_neg (by omega), gI_at, if_neg (by omega), gI_at, if_pos rfl]; rfl⟩
        have hm2 := hm _ pr
        have fin := tr_get S.2 m1 (sI (sI (sI (trCs m1 S.2) 58 35 0) 58 36 (nI ow)) 58 37 (nI q)) 0 p0.2.2.2.2 pr.2.2.2.2 (by omega) (fun k hk => absurd hk (by omega))
        have cr := trRs_c S.2 (sI (sI (sI (trCs m1 S.2) 58 35 0) 58 36 (nI ow)) 58 37 (nI q))
        have cF : ch Pac m (trRs (sI (sI (sI (trCs m1 S.2) 58 35 0) 58 36 (nI ow)) 58 37 (nI q)) S.2) := (((c1.tr (ct.up Pnc_ac)).tr (ch.sI rfl)).tr ((ch.sI rfl).tr (ch.sI rfl))).tr (cr.up Pnr_ac)
        have u34 : gI (trRs (sI (sI (sI (trCs m1 S.2) 58 35 0) 58 36 (nI ow)) 58 37 (nI q)) S.2) 34 4 = nI (0 + S.2.length) := by
          rw [cr.I rfl, gI_o (by omega), gI_o (by omega), gI_o (by omega)]; exact fin.1
        have u36 : ∀ k, gI (trRs (sI (sI (sI (trCs m1 S.2) 58 35 0) 58 36 (nI ow)) 58 37 (nI q)) S.2) 36 k = gI (trCs m1 S.2) 36 k := fun k => by
          rw [cr.I rfl, gI_o (by omega), gI_o (by omega), gI_o (by omega)]
        refine ⟨_, rfl, ?_, s, b, kn, n, t, lv, JA_ac J cF u34 fin.2.1 (by omega) (fun k k1 k2 => by rw [u36]; exact fin.2.2 k k1 k2)⟩
        rw [iB _ g32, Option.bind_some, b01_t h1]
        simp only [if_neg (show ¬ (1 : Int32) = 0 by decide), if_pos iq, g77, g36]
        exact hm2
      have wrap : ∀ {x : Option (Int32 × Mm)} {g : Mm → Option (Int32 × Mm)}, (∃ r M1 M2, x = some (r, M1) ∧ g M1 = some (r, M2) ∧ JJ M2) → ∃ r M1 M2, (x.bind fun q => some (q.1, q.2)) = some (r, M1) ∧ g M1 = some (r, M2) ∧ JJ M2 := fun {x g} ⟨r, M1, M2, g1, g2, g3⟩ => ⟨r, M1, M2, by rw [g1]; rfl, g2, g3⟩
      have a0 : a = 0 ∨ a = 1 ∨ a = 2 ∨ a = 3 := by omega
      have e0 : (0 : Int32) = nI 0 := rfl
      rcases a0 with rfl | rfl | rfl | rfl
      · refine wrap (go (tiS ow v3 (nI q)) (by have := tiS_l (k := ow) (x := v3) (y := nI q); omega) (ti_x (N := 98) (dp := 0) how (by omega) v3 m1 0 p0 (by omega)) (fun M hM => ?_))
        show ((dX10_tiesAs 100 (nI ow) v3 M).bind fun q66 => some (q66.1, q66.2)) = _
        rw [ti_h how hM (by omega)]; rfl
      · refine wrap (go (ssS ow ow v3 (nI q)) (by have := ssS_l (own := ow) (k := ow) (x := v3) (y := nI q); omega) (se_x (N := 94) (dp := 0) how (by omega) v3 m1 0 p0 (by omega)) (fun M hM => ?_))
        show ((dX10_sellsAs 100 (nI ow) v3 M).bind fun q66 => some (q66.1, q66.2)) = _
        rw [se_h how hM (by omega)]; rfl
      · refine wrap (go (shS ow ow v3 (nI q)) (by have := shS_l (own := ow) (k := ow) (x := v3) (y := nI q); omega) (sh_x (N := 97) (dp := 0) how (by omega) v3 m1 0 p0 (by omega)) (fun M hM => ?_))
        show ((dX10_shakesAs 100 (nI ow) v3 M).bind fun q66 => some (q66.1, q66.2)) = _
        rw [sh_h how hM (by omega)]; rfl
      · refine wrap (go (teS ow ow v3 (nI q)) (by have := teS_l (own := ow) (k := ow) (x := v3) (y := nI q); omega) (te_x (N := 92) (dp := 0) how (by omega) v3 m1 0 p0 (by omega)) (fun M hM => ?_))
        show ((dX10_tellsAs 100 (nI ow) v3 M).bind fun q66 => some (q66.1, q66.2)) = _
        rw [te_m (N := 98) how hM (by omega)]; rfl
    · have g32 : gI (sI (sI m 34 4 0) 58 35 0) 58 32 = nI kn := by rw [gI_at, if_neg (by omega), gI_o (by omega)]; exact N.2.2.1
      have cF : ch Pac m (sI (sI (sI (sI m 34 4 0) 58 35 0) 58 36 (gI (sI (sI m 34 4 0) 58 35 0) 77 q)) 58 37 (nI q)) := ((c0.tr (ch.sI rfl)).tr (ch.sI rfl)).tr (ch.sI rfl)
      refine ⟨0, sI m 34 4 0, sI (sI (sI (sI m 34 4 0) 58 35 0) 58 36 (gI (sI (sI m 34 4 0) 58 35 0) 77 q)) 58 37 (nI q), ?_, ?_, s, b, kn, n, t, lv, JA_ac (r := 0) J cF ?_ ?_ (by omega) (fun k hk => absurd hk (by omega))⟩
      · by_cases h3 : v2.toInt < 0
        · rw [if_pos (by rw [toI_lt, z0]; exact h3), Option.bind_some]
        · rw [if_neg (by rw [toI_lt, z0]; exact h3), if_neg (by rw [toI_lt, z4]; omega), Option.bind_some]
      · have n0 : ¬ v2 = 0 := fun z => h2 (by rw [z]; decide)
        have n1 : ¬ v2 = 1 := fun z => h2 (by rw [z]; decide)
        have n2 : ¬ v2 = 2 := fun z => h2 (by rw [z]; decide)
        have n3 : ¬ v2 = 3 := fun z => h2 (by rw [z]; decide)
        rw [iB _ g32, Option.bind_some, b01_t h1]
        simp only [if_neg (show ¬ (1 : Int32) = 0 by decide), if_pos iq, if_neg n0, if_neg n1, if_neg n2, if_neg n3, nI_clamp (show q < 2 ^ 31 by omega)]
      · rw [gI_o (by omega), gI_o (by omega), gI_o (by omega), gI_at, if_pos rfl]; rfl
      · rw [gI_at, if_neg (by omega), gI_at, if_neg (by omega), gI_at, if_pos rfl]; rfl
  · have g32 : gI (sI (sI m 34 4 0) 58 35 0) 58 32 = nI kn := by rw [gI_at, if_neg (by omega), gI_o (by omega)]; exact N.2.2.1
    refine ⟨0, sI m 34 4 0, sI (sI m 34 4 0) 58 35 0, by rw [if_pos h1, Option.bind_some], ?_, s, b, kn, n, t, lv, JA_ac (r := 0) J (c0.tr (ch.sI rfl)) ?_ ?_ (by omega) (fun k hk => absurd hk (by omega))⟩
    · rw [iB _ g32, Option.bind_some, b01_f h1, if_pos rfl]
    · rw [gI_o (by omega), gI_at, if_pos rfl]; rfl
    · rw [gI_at, if_pos rfl]; rfl
end ACT2
