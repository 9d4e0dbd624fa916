/-! ===== act: alike on both sides ===== -/
section ACT
variable {m : Mm} {s b kn n : Nat} {t : Nat → Nat} {lv : Option LF} {v1 v2 v3 : Int32} {own sf : Nat}
/-- one more body ran -/
def trC (m : Mm) (v : Int32) : Mm := sI (if (gI m 34 4).toInt < 24 then sI m 36 (gI m 34 4).toInt.toNat v else m) 34 4 (gI m 34 4 + 1)
def trR (m : Mm) (v : Int32) : Mm := sI (if (gI m 58 35).toInt < 24 then sI m 78 (gI m 58 35).toInt.toNat v else m) 58 35 (gI m 58 35 + 1)
def trCs (m : Mm) : List Int32 → Mm
  | [] => m
  | v :: l => trCs (trC m v) l
def trRs (m : Mm) : List Int32 → Mm
  | [] => m
  | v :: l => trRs (trR m v) l
theorem trCs_app : ∀ (l1 l2 : List Int32) (m : Mm), trCs m (l1 ++ l2) = trCs (trCs m l1) l2
  | [], _, _ => rfl
  | v :: l, l2, m => trCs_app l l2 (trC m v)
theorem trRs_app : ∀ (l1 l2 : List Int32) (m : Mm), trRs m (l1 ++ l2) = trRs (trRs m l1) l2
  | [], _, _ => rfl
  | v :: l, l2, m => trRs_app l l2 (trR m v)
def Pnc (o k : Nat) : Bool := o == 36 || (o == 34 && k == 4)
def Pnr (o k : Nat) : Bool := o == 78 || (o == 58 && k == 35)
theorem trC_c {v : Int32} : ch Pnc m (trC m v) := by
  unfold trC
  split
  · exact (ch.sI rfl).tr (ch.sI rfl)
  · exact ch.sI rfl
theorem trR_c {v : Int32} : ch Pnr m (trR m v) := by
  unfold trR
  split
  · exact (ch.sI rfl).tr (ch.sI rfl)
  · exact ch.sI rfl
theorem trCs_c : ∀ (l : List Int32) (m : Mm), ch Pnc m (trCs m l)
  | [], _ => ch.rf
  | v :: l, m => trC_c.tr (trCs_c l (trC m v))
theorem trRs_c : ∀ (l : List Int32) (m : Mm), ch Pnr m (trRs m l)
  | [], _ => ch.rf
  | v :: l, m => trR_c.tr (trRs_c l (trR m v))
def Pc (m : Mm) (own sf r : Nat) : Prop := sf < 50 ∧ own < 8 ∧ gI m 34 2 = nI sf ∧ gI m 35 sf = nI own ∧ gI m 34 4 = nI r
def Pr (m : Mm) (own sf r : Nat) : Prop := sf < 50 ∧ own < 8 ∧ gI m 58 37 = nI sf ∧ gI m 58 36 = nI own ∧ gI m 58 35 = nI r
theorem Pc_tr {r : Nat} {v : Int32} (h : Pc m own sf r) : Pc (trC m v) own sf (r + 1) := by
  obtain ⟨a1, a2, a3, a4, a5⟩ := h
  refine ⟨a1, a2, by rw [trC_c.I rfl]; exact a3, by rw [trC_c.I rfl]; exact a4, ?_⟩
  unfold trC
  rw [gI_at, if_pos rfl, a5, nI_1]
theorem Pr_tr {r : Nat} {v : Int32} (h : Pr m own sf r) : Pr (trR m v) own sf (r + 1) := by
  obtain ⟨a1, a2, a3, a4, a5⟩ := h
  refine ⟨a1, a2, by rw [trR_c.I rfl]; exact a3, by rw [trR_c.I rfl]; exact a4, ?_⟩
  unfold trR
  rw [gI_at, if_pos rfl, a5, nI_1]
theorem Pc_trs : ∀ (l : List Int32) {m : Mm} {r : Nat}, Pc m own sf r → Pc (trCs m l) own sf (r + l.length)
  | [], _, _, h => h
  | v :: l, m, r, h => by
    have := Pc_trs l (Pc_tr (v := v) h)
    rw [show r + (v :: l).length = r + 1 + l.length by simp; omega]
    exact this
theorem Pr_trs : ∀ (l : List Int32) {m : Mm} {r : Nat}, Pr m own sf r → Pr (trRs m l) own sf (r + l.length)
  | [], _, _, h => h
  | v :: l, m, r, h => by
    have := Pr_trs l (Pr_tr (v := v) h)
    rw [show r + (v :: l).length = r + 1 + l.length by simp; omega]
    exact this
theorem actNote_x {r : Nat} {v : Int32} (h : Pc m own sf r) (hr : r ≤ 1000) : dX4_note v m = some ((), trC m v) := by
  have er : (nI r).toInt = r := nI_toInt (by omega)
  unfold dX4_note DX4_note_19 trC
  rw [h.2.2.2.2, er]
  by_cases q : r < 24
  · rw [if_neg (show ¬ (24 : Int32) ≤ nI r from nI_ge (b := 24) q (by omega)), if_pos (inB_nI q (by omega)), if_pos (by omega), nI_clamp (by omega), gI_o (by omega), h.2.2.2.2, Int.toNat_natCast]
  · rw [if_pos (show (24 : Int32) ≤ nI r from nI_le (a := 24) (by omega) (by omega)), if_neg (by omega)]
theorem runs_m {r : Nat} {v : Int32} (h : Pr m own sf r) (hr : r ≤ 1000) : dX10_runs v m = some ((), trR m v) := by
  have er : (nI r).toInt = r := nI_toInt (by omega)
  unfold dX10_runs DX10_runs_19 trR
  rw [h.2.2.2.2, er]
  by_cases q : r < 24
  · rw [if_neg (show ¬ (24 : Int32) ≤ nI r from nI_ge (b := 24) q (by omega)), if_pos (inB_nI q (by omega)), if_pos (by omega), nI_clamp (by omega), gI_o (by omega), h.2.2.2.2, Int.toNat_natCast]
  · rw [if_pos (show (24 : Int32) ≤ nI r from nI_le (a := 24) (by omega) (by omega)), if_neg (by omega)]
/-- whose body runs -/
def owS (k a : Nat) : Nat := ([0, 0, 0, 0, 1, 0, 0, 0, 0, 2, 0, 0, 0, 3, 3, 0, 1, 0, 4, 0, 0, 3, 3, 5, 6, 0, 0, 0, 1, 7, 4, 7] : List Nat).getD (4 * k + a) 0
theorem ownerOf_x {k a : Nat} (hk : k < 8) (ha : a < 4) : dX4_ownerOf (nI k) (nI a) m = some (nI (owS k a), m) := by
  have h1 : k = 0 ∨ k = 1 ∨ k = 2 ∨ k = 3 ∨ k = 4 ∨ k = 5 ∨ k = 6 ∨ k = 7 := by omega
  have h2 : a = 0 ∨ a = 1 ∨ a = 2 ∨ a = 3 := by omega
  rcases h1 with rfl | rfl | rfl | rfl | rfl | rfl | rfl | rfl <;> rcases h2 with rfl | rfl | rfl | rfl <;> rfl
theorem owS_lt {k a : Nat} (hk : k < 8) (ha : a < 4) : owS k a < 8 := by
  have h1 : k = 0 ∨ k = 1 ∨ k = 2 ∨ k = 3 ∨ k = 4 ∨ k = 5 ∨ k = 6 ∨ k = 7 := by omega
  have h2 : a = 0 ∨ a = 1 ∨ a = 2 ∨ a = 3 := by omega
  rcases h1 with rfl | rfl | rfl | rfl | rfl | rfl | rfl | rfl <;> rcases h2 with rfl | rfl | rfl | rfl <;> decide
def runB (rr : Int32 → Int32 → Int32 → Int32 → Mm → Option (Int32 × Mm)) (num ab ow x th : Int32) (m1 : Mm) : Option (Int32 × Mm) :=
  if num = 1 then some (x + gI m1 34 2, m1) else
  if num = 2 then (rr ow 1 x th m1).bind fun p => (rr ow 2 1 th p.2).bind fun q => some (p.1 - q.1, q.2) else
  if num = 10 then (rr ow 0 x th m1).bind fun p => some (p.1 * 2, p.2) else
  if num = 11 then some (x ^^^ gI m1 34 2, m1) else
  if num = 20 then (rr ab 0 x th m1).bind fun p => some (p.1 + 3, p.2) else
  if num = 30 then (rr ab 1 x th m1).bind fun p => some (-p.1, p.2) else
  if num = 40 then (rr ab 2 x th m1).bind fun p => some (p.1 * 3, p.2) else
  if num = 41 then (rr ab 1 (x + 1) th m1).bind fun p => some (p.1, p.2) else
  if num = 50 then (rr ab 2 x th m1).bind fun p => (rr ow 0 2 th p.2).bind fun q => some (p.1 - q.1, q.2) else
  if num = 60 then (rr ab 3 x th m1).bind fun p => some (p.1 ^^^ 5, p.2) else
  if num = 70 then (rr ab 0 x th m1).bind fun p => some (p.1 * 2, p.2) else
  if num = 80 then (rr ab 1 x th m1).bind fun p => (rr ow 2 2 th p.2).bind fun q => some (p.1 + q.1, q.2) else
  if num = 81 then (rr ab 3 x th m1).bind fun p => some (p.1 - 1, p.2) else some (0, m1)
theorem run_s {N k a r dp : Nat} {x : Int32} (hk : k < 8) (ha : a < 4) (hd : dp ≤ 40) (h : Pc m own sf r) (hr : r ≤ 1000) : dX4_run (N + 1) (nI k) (nI a) x (nI dp) m = runB (dX4_run N) (tbOWN (4 * owS k a + a)) (tbABOVE (owS k a)) (nI own) x (nI (dp + 1)) (trC m (tbOWN (4 * owS k a + a))) := by
  have hw := owS_lt hk ha
  show bX4_run (gX4_run N) (nI k) (nI a) x (nI dp) m = _
  unfold bX4_run
  rw [ownerOf_x hk ha, Option.bind_some]
  have m4 : (4 : Int32) * nI (owS k a) + nI a = nI (4 * owS k a + a) := by
    generalize owS k a = o at hw
    have : o = 0 ∨ o = 1 ∨ o = 2 ∨ o = 3 ∨ o = 4 ∨ o = 5 ∨ o = 6 ∨ o = 7 := by omega
    rw [← nI_add]
    rcases this with rfl | rfl | rfl | rfl | rfl | rfl | rfl | rfl <;> rfl
  have i50 : inB (nI sf) 50 := inB_nI h.1 (by omega)
  have i8 : inB (nI (owS k a)) 8 := inB_nI hw (by omega)
  have i32 : inB (nI (4 * owS k a + a)) 32 := inB_nI (by omega) (by omega)
  have c40 : nI dp ≤ 40 := nI_le (b := 40) hd (by omega)
  simp only [if_neg (nI_pos (show owS k a < 2 ^ 31 by omega)), if_pos c40, h.2.2.1, if_pos i50, if_pos i8, m4, if_pos i32, nI_clamp (show 4 * owS k a + a < 2 ^ 31 by omega), nI_clamp (show owS k a < 2 ^ 31 by omega), nI_clamp (show sf < 2 ^ 31 by have := h.1; omega), h.2.2.2.1, actNote_x h hr, Option.bind_some, nI_1]
  rfl
/-- what each body gives, and what runs -/
def tiS (k : Nat) (x sf : Int32) : Int32 × List Int32 := if k = 1 ∨ k = 4 ∨ k = 7 then (x + sf + 3, [20, 1]) else if k = 6 then ((x + sf) * 2, [70, 1]) else (x + sf, [1])
def shS (own k : Nat) (x sf : Int32) : Int32 × List Int32 := if k = 3 ∨ k = 5 then ((x ^^^ sf) * 3, [40, 11]) else if k = 4 ∨ k = 7 then ((x ^^^ sf) - (tiS own 2 sf).1, 50 :: 11 :: (tiS own 2 sf).2) else (x ^^^ sf, [11])
def se0 (own : Nat) (x sf : Int32) : Int32 × List Int32 := ((tiS own x sf).1 * 2, 10 :: (tiS own x sf).2)
def ssS (own k : Nat) (x sf : Int32) : Int32 × List Int32 := if k = 3 ∨ k = 5 then (-(se0 own (x + 1) sf).1, 41 :: 30 :: (se0 own (x + 1) sf).2) else if k = 2 then (-(se0 own x sf).1, 30 :: (se0 own x sf).2) else if k = 7 then ((se0 own x sf).1 + (shS own own 2 sf).1, 80 :: ((se0 own x sf).2 ++ (shS own own 2 sf).2)) else se0 own x sf
def te0 (own : Nat) (x sf : Int32) : Int32 × List Int32 := ((ssS own own x sf).1 - (shS own own 1 sf).1, 2 :: ((ssS own own x sf).2 ++ (shS own own 1 sf).2))
def teS (own k : Nat) (x sf : Int32) : Int32 × List Int32 := if k = 5 then ((te0 own x sf).1 ^^^ 5, 60 :: (te0 own x sf).2) else if k = 7 then ((te0 own x sf).1 - 1, 81 :: (te0 own x sf).2) else te0 own x sf
theorem tiS_l {k : Nat} {x y : Int32} : (tiS k x y).2.length ≤ 2 := by
  unfold tiS
  by_cases h : k = 1 ∨ k = 4 ∨ k = 7
  · rw [if_pos h]; simp
  · rw [if_neg h]
    by_cases h2 : k = 6
    · rw [if_pos h2]; simp
    · rw [if_neg h2]; simp
theorem shS_l {k : Nat} {x y : Int32} : (shS own k x y).2.length ≤ 4 := by
  have := tiS_l (k := own) (x := 2) (y := y)
  unfold shS
  by_cases h : k = 3 ∨ k = 5
  · rw [if_pos h]; simp
  · rw [if_neg h]
    by_cases h2 : k = 4 ∨ k = 7
    · rw [if_pos h2]; simp; omega
    · rw [if_neg h2]; simp
theorem ssS_l {k : Nat} {x y : Int32} : (ssS own k x y).2.length ≤ 8 := by
  have h1 := tiS_l (k := own) (x := x) (y := y)
  have h2 := tiS_l (k := own) (x := x + 1) (y := y)
  have h3 := shS_l (own := own) (k := own) (x := 2) (y := y)
  unfold ssS se0
  by_cases q1 : k = 3 ∨ k = 5
  · rw [if_pos q1]; simp; omega
  · rw [if_neg q1]
    by_cases q2 : k = 2
    · rw [if_pos q2]; simp; omega
    · rw [if_neg q2]
      by_cases q3 : k = 7
      · rw [if_pos q3]; simp; omega
      · rw [if_neg q3]; simp; omega
def Rn (own sf N k a dp R : Nat) (S : Int32 → Int32 × List Int32) : Prop := ∀ (x : Int32) (m : Mm) (r : Nat), Pc m own sf r → r ≤ R → dX4_run N (nI k) (nI a) x (nI dp) m = some ((S x).1, trCs m (S x).2)
theorem ti_x {N k dp : Nat} (hk : k < 8) (hd : dp ≤ 38) : Rn own sf (N + 2) k 0 dp 900 (fun x => tiS k x (nI sf)) := by
  intro x m r h hr
  have base : ∀ (N dp : Nat) (m : Mm) (r : Nat), dp ≤ 40 → Pc m own sf r → r ≤ 950 → dX4_run (N + 1) 0 0 x (nI dp) m = some (x + nI sf, trC m 1) := by
    intro N dp m r hd h hr
    rw [show (0 : Int32) = nI 0 from rfl, run_s (by omega) (by omega) hd h (by omega)]
    show some (x + gI (trC m 1) 34 2, trC m 1) = _
    rw [trC_c.I rfl, h.2.2.1]
  have h1 : k = 0 ∨ k = 1 ∨ k = 2 ∨ k = 3 ∨ k = 4 ∨ k = 5 ∨ k = 6 ∨ k = 7 := by omega
  rw [run_s hk (by omega) (by omega) h (by omega)]
  rcases h1 with rfl | rfl | rfl | rfl | rfl | rfl | rfl | rfl
  · show some (x + gI (trC m 1) 34 2, trC m 1) = _
    rw [trC_c.I rfl, h.2.2.1]; rfl
  · show ((dX4_run (N + 1) 0 0 x (nI (dp + 1)) (trC m 20)).bind fun p => some (p.1 + 3, p.2)) = _
    rw [base N (dp + 1) _ (r + 1) (by omega) (Pc_tr h) (by omega)]; rfl
  · show some (x + gI (trC m 1) 34 2, trC m 1) = _
    rw [trC_c.I rfl, h.2.2.1]; rfl
  · show some (x + gI (trC m 1) 34 2, trC m 1) = _
    rw [trC_c.I rfl, h.2.2.1]; rfl
  · show ((dX4_run (N + 1) 0 0 x (nI (dp + 1)) (trC m 20)).bind fun p => some (p.1 + 3, p.2)) = _
    rw [base N (dp + 1) _ (r + 1) (by omega) (Pc_tr h) (by omega)]; rfl
  · show some (x + gI (trC m 1) 34 2, trC m 1) = _
    rw [trC_c.I rfl, h.2.2.1]; rfl
  · show ((dX4_run (N + 1) 0 0 x (nI (dp + 1)) (trC m 70)).bind fun p => some (p.1 * 2, p.2)) = _
    rw [base N (dp + 1) _ (r + 1) (by omega) (Pc_tr h) (by omega)]; rfl
  · show ((dX4_run (N + 1) 0 0 x (nI (dp + 1)) (trC m 20)).bind fun p => some (p.1 + 3, p.2)) = _
    rw [base N (dp + 1) _ (r + 1) (by omega) (Pc_tr h) (by omega)]; rfl
theorem sh_x {N k dp : Nat} (hk : k < 8) (hd : dp ≤ 36) : Rn own sf (N + 3) k 2 dp 850 (fun x => shS own k x (nI sf)) := by
  intro x m r h hr
  have ho := h.2.1
  have base : ∀ (k : Nat), k = 0 ∨ k = 1 ∨ k = 2 → ∀ (N dp : Nat) (m : Mm) (r : Nat), dp ≤ 40 → Pc m own sf r → r ≤ 950 → dX4_run (N + 1) (nI k) 2 x (nI dp) m = some (x ^^^ nI sf, trC m 11) := by
    intro k hk N dp m r hd h hr
    rw [show (2 : Int32) = nI 2 from rfl, run_s (by omega) (by omega) hd h (by omega)]
    rcases hk with rfl | rfl | rfl <;> (show some (x ^^^ gI (trC m 11) 34 2, trC m 11) = _; rw [trC_c.I rfl, h.2.2.1])
  have h1 : k = 0 ∨ k = 1 ∨ k = 2 ∨ k = 3 ∨ k = 4 ∨ k = 5 ∨ k = 6 ∨ k = 7 := by omega
  have e2 : (2 : Int32) = nI 2 := rfl
  have c40 : ((dX4_run (N + 2) (nI 2) 2 x (nI (dp + 1)) (trC m 40)).bind fun p => some (p.1 * 3, p.2)) = some ((x ^^^ nI sf) * 3, trCs m [40, 11]) := by
    rw [base 2 (by omega) (N + 1) (dp + 1) _ (r + 1) (by omega) (Pc_tr h) (by omega)]; rfl
  have c50 : ((dX4_run (N + 2) (nI 1) 2 x (nI (dp + 1)) (trC m 50)).bind fun p => (dX4_run (N + 2) (nI own) (nI 0) 2 (nI (dp + 1)) p.2).bind fun q => some (p.1 - q.1, q.2)) = some ((x ^^^ nI sf) - (tiS own 2 (nI sf)).1, trCs m (50 :: 11 :: (tiS own 2 (nI sf)).2)) := by
    rw [base 1 (by omega) (N + 1) (dp + 1) _ (r + 1) (by omega) (Pc_tr h) (by omega), Option.bind_some]
    simp only []
    rw [ti_x ho (by omega) 2 _ (r + 1 + 1) (Pc_tr (Pc_tr h)) (by omega)]; rfl
  rw [run_s hk (by omega) (by omega) h (by omega)]
  rcases h1 with rfl | rfl | rfl | rfl | rfl | rfl | rfl | rfl
  · show some (x ^^^ gI (trC m 11) 34 2, trC m 11) = _
    rw [trC_c.I rfl, h.2.2.1]; rfl
  · show some (x ^^^ gI (trC m 11) 34 2, trC m 11) = _
    rw [trC_c.I rfl, h.2.2.1]; rfl
  · show some (x ^^^ gI (trC m 11) 34 2, trC m 11) = _
    rw [trC_c.I rfl, h.2.2.1]; rfl
  · exact c40
  · exact c50
  · exact c40
  · show some (x ^^^ gI (trC m 11) 34 2, trC m 11) = _
    rw [trC_c.I rfl, h.2.2.1]; rfl
  · exact c50
theorem se_x {N k dp : Nat} (hk : k < 8) (hd : dp ≤ 32) : Rn own sf (N + 6) k 1 dp 800 (fun x => ssS own k x (nI sf)) := by
  intro x m r h hr
  have ho := h.2.1
  have base : ∀ (k : Nat), k = 0 ∨ k = 1 ∨ k = 4 ∨ k = 6 → ∀ (x : Int32) (N dp : Nat) (m : Mm) (r : Nat), dp ≤ 36 → Pc m own sf r → r ≤ 850 → dX4_run (N + 3) (nI k) (nI 1) x (nI dp) m = some ((se0 own x (nI sf)).1, trCs m (se0 own x (nI sf)).2) := by
    intro k hk x N dp m r hd h hr
    rw [run_s (by omega) (by omega) (by omega) h (by omega)]
    rcases hk with rfl | rfl | rfl | rfl <;> (show ((dX4_run (N + 2) (nI own) (nI 0) x (nI (dp + 1)) (trC m 10)).bind fun p => some (p.1 * 2, p.2)) = _; rw [ti_x ho (by omega) x _ (r + 1) (Pc_tr h) (by omega)]; rfl)
  have t30 : ∀ (x : Int32) (N dp : Nat) (m : Mm) (r : Nat), dp ≤ 35 → Pc m own sf r → r ≤ 840 → dX4_run (N + 4) (nI 2) (nI 1) x (nI dp) m = some (-(se0 own x (nI sf)).1, trCs m (30 :: (se0 own x (nI sf)).2)) := by
    intro x N dp m r hd h hr
    rw [run_s (by omega) (by omega) (by omega) h (by omega)]
    show ((dX4_run (N + 3) (nI 0) (nI 1) x (nI (dp + 1)) (trC m 30)).bind fun p => some (-p.1, p.2)) = _
    rw [base 0 (by omega) x N (dp + 1) _ (r + 1) (by omega) (Pc_tr h) (by omega)]; rfl
  have t41 : ((dX4_run (N + 5) (nI 2) (nI 1) (x + 1) (nI (dp + 1)) (trC m 41)).bind fun p => some (p.1, p.2)) = some (-(se0 own (x + 1) (nI sf)).1, trCs m (41 :: 30 :: (se0 own (x + 1) (nI sf)).2)) := by
    rw [t30 (x + 1) (N + 1) (dp + 1) _ (r + 1) (by omega) (Pc_tr h) (by omega)]; rfl
  have t80 : ((dX4_run (N + 5) (nI 4) (nI 1) x (nI (dp + 1)) (trC m 80)).bind fun p => (dX4_run (N + 5) (nI own) (nI 2) 2 (nI (dp + 1)) p.2).bind fun q => some (p.1 + q.1, q.2)) = some ((se0 own x (nI sf)).1 + (shS own own 2 (nI sf)).1, trCs m (80 :: ((se0 own x (nI sf)).2 ++ (shS own own 2 (nI sf)).2))) := by
    rw [base 4 (by omega) x (N + 2) (dp + 1) _ (r + 1) (by omega) (Pc_tr h) (by omega), Option.bind_some]
    simp only []
    have hl := tiS_l (k := own) (x := x) (y := nI sf)
    rw [sh_x (N := N + 2) ho (by omega) 2 _ _ (Pc_trs (se0 own x (nI sf)).2 (Pc_tr (v := 80) h)) (by unfold se0; simp; omega), Option.bind_some]
    show some (_, trCs (trCs (trC m 80) _) _) = some (_, trCs (trC m 80) _)
    rw [trCs_app]
  have h1 : k = 0 ∨ k = 1 ∨ k = 2 ∨ k = 3 ∨ k = 4 ∨ k = 5 ∨ k = 6 ∨ k = 7 := by omega
  rcases h1 with rfl | rfl | rfl | rfl | rfl | rfl | rfl | rfl
  · exact base 0 (by omega) x (N + 3) dp m r (by omega) h (by omega)
  · exact base 1 (by omega) x (N + 3) dp m r (by omega) h (by omega)
  · exact t30 x (N + 2) dp m r (by omega) h (by omega)
  · rw [run_s hk (by omega) (by omega) h (by omega)]; exact t41
  · exact base 4 (by omega) x (N + 3) dp m r (by omega) h (by omega)
  · rw [run_s hk (by omega) (by omega) h (by omega)]; exact t41
  · exact base 6 (by omega) x (N + 3) dp m r (by omega) h (by omega)
  · rw [run_s hk (by omega) (by omega) h (by omega)]; exact t80
theorem te_x {N k dp : Nat} (hk : k < 8) (hd : dp ≤ 28) : Rn own sf (N + 8) k 3 dp 750 (fun x => teS own k x (nI sf)) := by
  intro x m r h hr
  have ho := h.2.1
  have base : ∀ (k : Nat), ¬ k = 5 → ¬ k = 7 → k < 8 → ∀ (N dp : Nat) (m : Mm) (r : Nat), dp ≤ 31 → Pc m own sf r → r ≤ 780 → dX4_run (N + 7) (nI k) (nI 3) x (nI dp) m = some ((te0 own x (nI sf)).1, trCs m (te0 own x (nI sf)).2) := by
    intro k k5 k7 hk N dp m r hd h hr
    have key : ((dX4_run (N + 6) (nI own) (nI 1) x (nI (dp + 1)) (trC m 2)).bind fun p => (dX4_run (N + 6) (nI own) (nI 2) 1 (nI (dp + 1)) p.2).bind fun q => some (p.1 - q.1, q.2)) = some ((te0 own x (nI sf)).1, trCs m (te0 own x (nI sf)).2) := by
      rw [se_x ho (by omega) x _ (r + 1) (Pc_tr h) (by omega), Option.bind_some]
      simp only []
      have hl := ssS_l (own := own) (k := own) (x := x) (y := nI sf)
      rw [sh_x (N := N + 3) ho (by omega) 1 _ _ (Pc_trs (ssS own own x (nI sf)).2 (Pc_tr (v := 2) h)) (by omega), Option.bind_some]
      show some (_, trCs (trCs (trC m 2) _) _) = some (_, trCs (trC m 2) _)
      rw [trCs_app]; rfl
    rw [run_s hk (by omega) (by omega) h (by omega)]
    have h1 : k = 0 ∨ k = 1 ∨ k = 2 ∨ k = 3 ∨ k = 4 ∨ k = 6 := by omega
    rcases h1 with rfl | rfl | rfl | rfl | rfl | rfl <;> exact key
  have h1 : k = 5 ∨ k = 7 ∨ (¬ k = 5 ∧ ¬ k = 7) := by omega
  rcases h1 with rfl | rfl | ⟨h5, h7⟩
  · rw [run_s hk (by omega) (by omega) h (by omega)]
    show ((dX4_run (N + 7) (nI 3) (nI 3) x (nI (dp + 1)) (trC m 60)).bind fun p => some (p.1 ^^^ 5, p.2)) = _
    rw [base 3 (by omega) (by omega) (by omega) N (dp + 1) _ (r + 1) (by omega) (Pc_tr h) (by omega)]; rfl
  · rw [run_s hk (by omega) (by omega) h (by omega)]
    show ((dX4_run (N + 7) (nI 4) (nI 3) x (nI (dp + 1)) (trC m 81)).bind fun p => some (p.1 - 1, p.2)) = _
    rw [base 4 (by omega) (by omega) (by omega) N (dp + 1) _ (r + 1) (by omega) (Pc_tr h) (by omega)]; rfl
  · have e : teS own k x (nI sf) = te0 own x (nI sf) := by unfold teS; rw [if_neg h5, if_neg h7]
    show _ = some ((teS own k x (nI sf)).1, trCs m (teS own k x (nI sf)).2)
    rw [e]
    exact base k h5 h7 hk (N + 1) dp m r (by omega) h (by omega)
end ACT
