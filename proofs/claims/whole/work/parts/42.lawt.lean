/-! ===== THE LAW: lines, the whole text; both sides ===== -/
section LAWT
variable {t : Nat → Nat} {n : Nat}
/-- the reference, from a line's beginning -/
def gvn (st : Option Int32) : Int32 := match st with
  | some _ => 1
  | none => 0
theorem workOut_l (hn : n ≤ 120) (ht : ∀ p, p < n → t p < 256) : ∀ (k N : Nat) (m : Mm) (p : Nat) (st : Option Int32), k + 1 < N → n + 1 < k + p → RS t n m p 6 → p ≤ n → (match textP t n k p with
    | .inl f => ∃ v m2, DX10_workOut_33 N (gvn st) (st.getD 0) 1 m = some (v, m2) ∧ gI m2 58 17 = nI f ∧ ch PVr m m2
    | .inr ls => ∃ m2, DX10_workOut_33 N (gvn st) (st.getD 0) 1 m = some ((ls.foldl (stL (gI m 67)) st).getD 0, m2) ∧ gI m2 58 17 = -1 ∧ ch PVr m m2) := by
  intro k
  induction k with
  | zero => intro N m p st h1 h2 h3 h4; omega
  | succ k ih =>
    intro N m p st h1 h2 h3 h4
    obtain ⟨M, rfl⟩ : ∃ M, N = M + 2 := ⟨N - 2, by omega⟩
    -- a fault told: the rest is nothing
    have bad : ∀ (m2 : Mm) (f : Nat) (x y z w : Int32), f ≤ n → RF t n m2 f → ch PVr m m2 → ∃ v m3, DX10_workOut_74 (DX10_workOut_33 (M + 1)) x y z w m2 = some (v, m3) ∧ gI m3 58 17 = nI f ∧ ch PVr m m3 := by
      intro m2 f x y z w hf hF hc
      refine ⟨y, m2, ?_, hF.2.1, hc⟩
      unfold DX10_workOut_74 DX10_workOut_96
      rw [hF.2.1, if_pos (nn (by omega)), takes_f hF (by omega), Option.bind_some]
      show BX10_workOut_33 (DX10_workOut_33 M) x y 0 m2 = _
      unfold BX10_workOut_33 DX10_workOut_130
      rw [if_pos rfl, hF.2.1, if_pos (nn (by omega))]
    have step : DX10_workOut_33 (M + 2) (gvn st) (st.getD 0) 1 m = BX10_workOut_33 (DX10_workOut_33 (M + 1)) (gvn st) (st.getD 0) 1 m := rfl
    rw [step]
    unfold BX10_workOut_33 DX10_workOut_66 textP lineP
    rw [if_neg (show ¬ (1 : Int32) = 0 by decide)]
    have hE := E6_m hn ht m p h3 h4
    unfold resR at hE
    cases e : EP t n (opP t n 6) p with
    | inl f =>
      have hf := (E6_F (t := t) (n := n) p h4).1 f e
      rw [e] at hE
      obtain ⟨v, m2, x1, x2, x3⟩ := hE
      rw [x1, Option.bind_some]
      dsimp only
      rw [takes_f x2 (by omega), Option.bind_some]
      dsimp only
      rw [if_pos rfl]
      exact bad m2 f _ _ _ _ hf x2 x3
    | inr q =>
      obtain ⟨a1, a2, a3, a4⟩ := (E6_F (t := t) (n := n) p h4).2 q e
      rw [e] at hE
      obtain ⟨m2, x1, x2, x3⟩ := hE
      rw [x1, Option.bind_some]
      dsimp only
      rw [show (63 : Int32) = nI 63 from rfl, takes_m hn ht x2 a2 (by omega) (by omega)]
      -- a line's end, at q1 with its lines told
      have fin : ∀ (m3 : Mm) (p3 : Nat) (ln : LLn) (v hold : Int32), RS t n m3 p3 6 → p3 ≤ n → p < p3 → ch PVr m m3 → v = vaS (gI m 67) ln.2 → (hold = 0 ↔ ∃ c, ln.1 = some c ∧ vaS (gI m 67) c = 0) → (match (if cA t n p3 = 59 then (match textP t n k (p3 + 1) with
          | .inl f => (.inl f : Nat ⊕ List LLn)
          | .inr r => .inr (ln :: r)) else if p3 < n then .inl p3 else .inr [ln]) with
          | .inl f => ∃ v' m4, DX10_workOut_74 (DX10_workOut_33 (M + 1)) (gvn st) (st.getD 0) v hold m3 = some (v', m4) ∧ gI m4 58 17 = nI f ∧ ch PVr m m4
          | .inr ls => ∃ m4, DX10_workOut_74 (DX10_workOut_33 (M + 1)) (gvn st) (st.getD 0) v hold m3 = some ((ls.foldl (stL (gI m 67)) st).getD 0, m4) ∧ gI m4 58 17 = -1 ∧ ch PVr m m4) := by
        intro m3 p3 ln v hold r1 r2 r3 r4 r5 r6
        have key : DX10_workOut_74 (DX10_workOut_33 (M + 1)) (gvn st) (st.getD 0) v hold m3 = (dX10_takes 59 m3).bind fun q99 => DX10_workOut_33 (M + 1) (gvn (stL (gI m 67) st ln)) ((stL (gI m 67) st ln).getD 0) q99.1 q99.2 := by
          unfold DX10_workOut_74 DX10_workOut_96
          rw [r1.2.2.1, if_neg (by decide)]
          cases st with
          | some x =>
            show (if hold = 0 then _ else if (1 : Int32) = 0 then _ else _) = _
            rw [if_neg (show ¬ (1 : Int32) = 0 by decide)]
            split <;> rfl
          | none =>
            show (if hold = 0 then _ else if (0 : Int32) = 0 then _ else _) = _
            rw [if_pos (show (0 : Int32) = 0 from rfl)]
            by_cases hh : hold = 0
            · obtain ⟨c, c1, c2⟩ := r6.mp hh
              rw [if_pos hh]
              have : stL (gI m 67) none ln = none := by unfold stL; rw [c1]; simp only [c2, if_true]
              rw [this]; try rfl
            · rw [if_neg hh]
              have : stL (gI m 67) none ln = some v := by
                unfold stL
                cases hc : ln.1 with
                | none => simp only [r5]
                | some c =>
                  have : ¬ vaS (gI m 67) c = 0 := fun q => hh (r6.mpr ⟨c, hc, q⟩)
                  simp only [if_neg this, r5]
              rw [this]; rfl
        rw [key, show (59 : Int32) = nI 59 from rfl, takes_m hn ht r1 r2 (by omega) (by omega)]
        by_cases h59 : cA t n p3 = 59
        · have hlt : p3 < n := cA_lt (t := t) (by omega)
          rw [if_pos h59, if_pos h59, Option.bind_some]
          dsimp only
          have c1 : ch PVr m3 (sI m3 58 15 (nI (p3 + 1))) := ch15 (Or.inl rfl)
          have := ih (M + 1) (sI m3 58 15 (nI (p3 + 1))) (p3 + 1) (stL (gI m 67) st ln) (by omega) (by omega) (r1.at (p3 + 1)) (by omega)
          have en : gI (sI m3 58 15 (nI (p3 + 1))) 67 = gI m 67 := (r4.tr c1).n67
          rw [en] at this
          cases e3 : textP t n k (p3 + 1) with
          | inl f => rw [e3] at this; obtain ⟨v', m4, z1, z2, z3⟩ := this; exact ⟨v', m4, z1, z2, (r4.tr c1).tr z3⟩
          | inr r => rw [e3] at this; obtain ⟨m4, z1, z2, z3⟩ := this; exact ⟨m4, z1, z2, (r4.tr c1).tr z3⟩
        · rw [if_neg h59, if_neg h59, Option.bind_some]
          dsimp only
          have e16 := r1.1.1
          have e1 : (nI n).toInt = n := nI_toInt (by omega)
          have e2 : (nI p3).toInt = p3 := nI_toInt (by omega)
          have hend : DX10_workOut_33 (M + 1) (gvn (stL (gI m 67) st ln)) ((stL (gI m 67) st ln).getD 0) 0 m3 = if n ≤ p3 then some ((stL (gI m 67) st ln).getD 0, m3) else some (0, sI m3 58 17 (nI p3)) := by
            show BX10_workOut_33 (DX10_workOut_33 M) _ _ 0 m3 = _
            unfold BX10_workOut_33 DX10_workOut_130
            rw [if_pos rfl, r1.2.2.1, if_neg (by decide), e16, r1.2.1, wrong_m r1, Option.bind_some]
            by_cases hle : n ≤ p3
            · rw [if_pos hle, if_pos (by rw [toI_le, e1, e2]; omega)]
            · rw [if_neg hle, if_neg (by rw [toI_le, e1, e2]; omega)]
          rw [hend]
          by_cases hlt : p3 < n
          · rw [if_pos hlt, if_neg (by omega)]
            exact ⟨0, _, rfl, by rw [gI_sI, if_pos ⟨rfl, rfl⟩], r4.tr (ch15 (Or.inr (Or.inl rfl)))⟩
          · rw [if_neg hlt, if_pos (by omega)]
            exact ⟨m3, rfl, r1.2.2.1, r4⟩
      by_cases h63 : cA t n q.1 = 63
      · have hqn : q.1 < n := cA_lt (t := t) (by omega)
        rw [if_pos h63, if_pos h63, Option.bind_some]
        dsimp only
        rw [if_neg (show ¬ (1 : Int32) = 0 by decide)]
        have c1 : ch PVr m2 (sI m2 58 15 (nI (q.1 + 1))) := ch15 (Or.inl rfl)
        have hE2 := E6_m hn ht (sI m2 58 15 (nI (q.1 + 1))) (q.1 + 1) (x2.at (q.1 + 1)) (by omega)
        have en1 : gI (sI m2 58 15 (nI (q.1 + 1))) 67 = gI m 67 := (x3.tr c1).n67
        unfold resR at hE2
        have hsame : ∀ X : Int32 → Option (Int32 × Mm), (if vaS (gI m 67) q.2 = 0 then X 0 else X 1) = X (if vaS (gI m 67) q.2 = 0 then 0 else 1) := fun X => by split <;> rfl
        rw [hsame (fun z => (dX10_either 100 (sI m2 58 15 (nI (q.1 + 1)))).bind fun q69 => DX10_workOut_74 (DX10_workOut_33 (M + 1)) (gvn st) (st.getD 0) q69.1 z q69.2)]
        try dsimp only
        cases e2 : EP t n (opP t n 6) (q.1 + 1) with
        | inl f =>
          have hf := (E6_F (t := t) (n := n) (q.1 + 1) (by omega)).1 f e2
          rw [e2] at hE2
          obtain ⟨v, m3, y1, y2, y3⟩ := hE2
          rw [y1, Option.bind_some]
          exact bad m3 f _ _ _ _ hf y2 ((x3.tr c1).tr y3)
        | inr r =>
          obtain ⟨b1, b2, b3, b4⟩ := (E6_F (t := t) (n := n) (q.1 + 1) (by omega)).2 r e2
          rw [e2] at hE2
          obtain ⟨m3, y1, y2, y3⟩ := hE2
          rw [y1, Option.bind_some, en1]
          dsimp only
          exact fin m3 r.1 (some q.2, r.2) _ _ y2 b2 (by omega) ((x3.tr c1).tr y3) rfl (by
            by_cases hz : vaS (gI m 67) q.2 = 0
            · rw [if_pos hz]; exact ⟨fun _ => ⟨q.2, rfl, hz⟩, fun _ => rfl⟩
            · rw [if_neg hz]; exact ⟨fun q' => absurd q' (by decide), fun ⟨c, c1, c2⟩ => by cases c1; exact absurd c2 hz⟩)
      · rw [if_neg h63, if_neg h63, Option.bind_some]
        dsimp only
        rw [if_pos rfl]
        exact fin m2 q.1 (none, q.2) _ 1 x2 a2 a1 x3 rfl ⟨fun q' => absurd q' (by decide), fun ⟨c, c1, _⟩ => by cases c1⟩
theorem workOut_m (hn : n ≤ 120) (ht : ∀ p, p < n → t p < 256) {m : Mm} {base : Int32} (hb : (base = -1 ∧ ∀ p, p < n → gI m 65 p = nI (t p)) ∨ (base = 0 ∧ ∀ p, p < n → gI m 66 p = nI (t p))) : (match textP t n 122 0 with
    | .inl f => ∃ v m2, dX10_workOut base (nI n) m = some (v, m2) ∧ gI m2 58 17 = nI f ∧ ch PVr m m2
    | .inr ls => ∃ m2, dX10_workOut base (nI n) m = some (evL (gI m 67) ls, m2) ∧ gI m2 58 17 = -1 ∧ ch PVr m m2) := by
  have c0 : ch PVr m (sI (sI (sI (sI (sI m 58 14 base) 58 15 0) 58 16 (nI n)) 58 17 (-1)) 58 18 0) := ((((ch.sI rfl).tr (ch.sI rfl)).tr (ch.sI rfl)).tr (ch.sI rfl)).tr (ch.sI rfl)
  have r0 : RS t n (sI (sI (sI (sI (sI m 58 14 base) 58 15 0) 58 16 (nI n)) 58 17 (-1)) 58 18 0) 0 6 := by
    refine ⟨⟨rfl, ?_⟩, rfl, rfl, rfl⟩
    rcases hb with ⟨a, b⟩ | ⟨a, b⟩
    · exact Or.inl ⟨a, b⟩
    · exact Or.inr ⟨a, b⟩
  have := workOut_l hn ht 122 FU _ 0 none (by unfold FU; omega) (by omega) r0 (by omega)
  rw [c0.n67] at this
  cases e : textP t n 122 0 with
  | inl f => rw [e] at this; obtain ⟨v, m2, z1, z2, z3⟩ := this; exact ⟨v, m2, z1, z2, c0.tr z3⟩
  | inr ls => rw [e] at this; obtain ⟨m2, z1, z2, z3⟩ := this; exact ⟨m2, z1, z2, c0.tr z3⟩
/-- the class's reader, from a line's beginning -/
def PRd (o a k : Nat) : Bool := PL o a k || (a == 15 && k == 4)
theorem PL_PRd {o : Nat} : ∀ a k, PRd o a k = false → PL o a k = false := up_of fun a k h => by unfold PRd; rw [h]; rfl
theorem read_end {o : Nat} {m : Mm} : ch (PRd o) m (sI m 15 4 0) := ch.sI (by unfold PRd; simp)
theorem read_l {o : Nat} (ho : isLa o) (hn : n ≤ 120) (ht : ∀ p, p < n → t p < 256) : ∀ (k N : Nat) (m : Mm) (p i : Nat) (acc : List LSt), k + 1 < N → n + 1 < k + p → i ≤ p → CSt t n o m p acc → p ≤ n → acc.length ≤ p → (match textP t n k p with
    | .inl f => ∃ m2, DX6_read_21 N 1 (nI i) m = some (nI f, m2) ∧ ch (PRd o) m m2 ∧ gI m2 15 4 = 0
    | .inr ls => ∃ m2, DX6_read_21 N 1 (nI i) m = some (-1, m2) ∧ ch (PRd o) m m2 ∧ gI m2 15 4 = 0 ∧ stepsAt o m2 (acc ++ flT ls)) := by
  intro k
  induction k with
  | zero => intro N m p i acc h1 h2 h3 h4 h5 h6; omega
  | succ k ih =>
    intro N m p i acc h1 h2 hip h3 h4 hacc
    obtain ⟨M, rfl⟩ : ∃ M, N = M + 2 := ⟨N - 2, by omega⟩
    have ei : (nI i).toInt = i := nI_toInt (by omega)
    -- a fault told
    have badE : ∀ (m2 : Mm) (f : Nat), f ≤ n → CFt t n o m2 f → ch (PL o) m m2 → ∃ m3, ((dX6_passes 59 m2).bind fun q46 => DX6_read_21 (M + 1) q46.1 (nI i + 1) q46.2) = some (nI f, m3) ∧ ch (PRd o) m m3 ∧ gI m3 15 4 = 0 := by
      intro m2 f hf hF hc
      have hF2 := hF.at ho (gI m2 15 2)
      rw [passes_f hF (by omega), Option.bind_some, nI_1]
      dsimp only
      have hfe : gI (sI (sI m2 15 2 (gI m2 15 2)) 15 4 0) 15 3 = nI f := by rw [gI_sI, if_neg (by omega)]; exact hF2.2.1
      refine ⟨sI (sI m2 15 2 (gI m2 15 2)) 15 4 0, ?_, ((hc.tr (PL_15 (Or.inl rfl))).up PL_PRd).tr read_end, by rw [gI_sI, if_pos ⟨rfl, rfl⟩]⟩
      show BX6_read_21 (DX6_read_21 M) 0 (nI (i + 1)) _ = _
      unfold BX6_read_21 DX6_read_56 DX6_read_80
      rw [hF2.2.1, if_neg (nf (by omega)), hfe]
      repeat' split
      all_goals first | rfl | contradiction
    have step : DX6_read_21 (M + 2) 1 (nI i) m = BX6_read_21 (DX6_read_21 (M + 1)) 1 (nI i) m := rfl
    rw [step]
    unfold BX6_read_21 dX6_line DX6_line_31
    rw [if_neg (by rw [toI_lt, ei]; simp; omega), if_neg (show ¬ (1 : Int32) = 0 by decide), if_pos h3.2.2.1]
    have hE := E6_x ho hn ht m p acc h3 h4 hacc
    unfold resC at hE
    unfold textP lineP
    cases e : EP t n (opP t n 6) p with
    | inl f =>
      have hf := (E6_F (t := t) (n := n) p h4).1 f e
      rw [e] at hE
      obtain ⟨m2, x1, x2, x3⟩ := hE
      rw [x1, Option.bind_some]
      dsimp only
      have x4 := x2.at ho (gI m2 15 2)
      rw [passes_f x2 (by omega), Option.bind_some]
      dsimp only
      rw [if_pos rfl, x4.1.2.2, if_pos (pLa ho)]
      obtain ⟨m3, y1, y2, y3⟩ := add_f ho x4 (v1 := 59) (v2 := 0)
      rw [y1, Option.bind_some, Option.bind_some]
      exact badE m3 f hf y2 ((x3.tr (PL_15 (Or.inl rfl))).tr y3)
    | inr q =>
      obtain ⟨a1, a2, a3, a4⟩ := (E6_F (t := t) (n := n) p h4).2 q e
      rw [e] at hE
      obtain ⟨m2, x1, x2, x3⟩ := hE
      rw [x1, Option.bind_some]
      dsimp only
      rw [show (63 : Int32) = nI 63 from rfl, passes_x hn ht x2 a2 (by omega)]
      have fin : ∀ (m3 : Mm) (p3 : Nat) (ln : LLn), CSt t n o m3 p3 (acc ++ flL1 ln) → p3 ≤ n → p < p3 → (acc ++ flL1 ln).length ≤ p3 + 1 → ch (PL o) m m3 → (match (if cA t n p3 = 59 then (match textP t n k (p3 + 1) with
          | .inl f => (.inl f : Nat ⊕ List LLn)
          | .inr r => .inr (ln :: r)) else if p3 < n then .inl p3 else .inr [ln]) with
          | .inl f => ∃ m4, ((dX6_passes (nI 59) m3).bind fun q46 => DX6_read_21 (M + 1) q46.1 (nI i + 1) q46.2) = some (nI f, m4) ∧ ch (PRd o) m m4 ∧ gI m4 15 4 = 0
          | .inr ls => ∃ m4, ((dX6_passes (nI 59) m3).bind fun q46 => DX6_read_21 (M + 1) q46.1 (nI i + 1) q46.2) = some (-1, m4) ∧ ch (PRd o) m m4 ∧ gI m4 15 4 = 0 ∧ stepsAt o m4 (acc ++ flT ls)) := by
        intro m3 p3 ln r1 r2 r3 r4 r5
        rw [passes_x hn ht r1 r2 (by omega), nI_1]
        by_cases h59 : cA t n p3 = 59
        · have hlt : p3 < n := cA_lt (t := t) (by omega)
          rw [if_pos h59, if_pos h59, Option.bind_some]
          dsimp only
          have := ih (M + 1) (sI m3 15 2 (nI (p3 + 1))) (p3 + 1) (i + 1) (acc ++ flL1 ln) (by omega) (by omega) (by omega) (r1.at ho (p3 + 1)) (by omega) r4
          have c5 := (r5.tr (PL_15 (v := nI (p3 + 1)) (Or.inl rfl))).up (PL_PRd (o := o))
          cases e3 : textP t n k (p3 + 1) with
          | inl f => rw [e3] at this; obtain ⟨m4, z1, z2, z3⟩ := this; exact ⟨m4, z1, c5.tr z2, z3⟩
          | inr r =>
            rw [e3] at this
            obtain ⟨m4, z1, z2, z3, z4⟩ := this
            rw [List.append_assoc] at z4
            exact ⟨m4, z1, c5.tr z2, z3, z4⟩
        · rw [if_neg h59, if_neg h59, Option.bind_some]
          dsimp only
          have r6 := r1.at ho p3
          have ha := ahead_x ht r6.1 r6.2.1 r2 hn
          have hci := ahC_toInt (cA_le (p := p3) ht)
          have hend : DX6_read_21 (M + 1) 0 (nI (i + 1)) (sI m3 15 2 (nI p3)) = (if p3 < n then some (nI p3, sI (sI (sI m3 15 2 (nI p3)) 15 3 (nI p3)) 15 4 0) else some (-1, sI (sI m3 15 2 (nI p3)) 15 4 0)) := by
            show BX6_read_21 (DX6_read_21 M) 0 (nI (i + 1)) (sI m3 15 2 (nI p3)) = _
            unfold BX6_read_21 DX6_read_56 DX6_read_80
            rw [ha, Option.bind_some, r6.2.2.1]
            dsimp only
            have e3 : gI (sI (sI m3 15 2 (nI p3)) 15 4 0) 15 3 = -1 := by rw [gI_sI, if_neg (by omega)]; exact r6.2.2.1
            have e4 : gI (sI (sI (sI m3 15 2 (nI p3)) 15 3 (nI p3)) 15 4 0) 15 3 = nI p3 := by rw [gI_sI, if_neg (by omega), gI_sI, if_pos ⟨rfl, rfl⟩]
            rw [e3, r6.2.1, e4, if_pos rfl, if_pos rfl]
            have hlast : (if ahC (cA t n p3) = -1 then some (-1, sI (sI m3 15 2 (nI p3)) 15 4 0) else some (nI p3, sI (sI (sI m3 15 2 (nI p3)) 15 3 (nI p3)) 15 4 0)) = (if p3 < n then some (nI p3, sI (sI (sI m3 15 2 (nI p3)) 15 3 (nI p3)) 15 4 0) else some (-1, sI (sI m3 15 2 (nI p3)) 15 4 0)) := by
              by_cases hlt : p3 < n
              · have := ht p3 hlt
                have hne : ¬ ahC (cA t n p3) = -1 := fun q => by
                  rw [toI_eq, hci] at q
                  unfold cA at q
                  rw [if_pos hlt, if_neg (by omega)] at q
                  simp at q
                rw [if_pos hlt, if_neg hne]
              · rw [if_neg hlt, if_pos (by unfold cA; rw [if_neg hlt]; rfl)]
            rw [hlast]
            split <;> rfl
          rw [hend]
          have c5 := (r5.tr (PL_15 (v := nI p3) (Or.inl rfl)))
          by_cases hlt : p3 < n
          · rw [if_pos hlt, if_pos hlt]
            exact ⟨_, rfl, ((c5.tr (PL_15 (Or.inr rfl))).up PL_PRd).tr read_end, by rw [gI_sI, if_pos ⟨rfl, rfl⟩]⟩
          · rw [if_neg hlt, if_neg hlt]
            refine ⟨_, rfl, (c5.up PL_PRd).tr read_end, by rw [gI_sI, if_pos ⟨rfl, rfl⟩], ?_⟩
            have no : ¬ o = 15 := by rcases ho with rfl | rfl <;> omega
            have no1 : ¬ o + 1 = 15 := by rcases ho with rfl | rfl <;> omega
            have no2 : ¬ o + 2 = 15 := by rcases ho with rfl | rfl <;> omega
            obtain ⟨s1, s2, s3⟩ := r6.2.2.2
            have eapp : acc ++ flT [ln] = acc ++ flL1 ln := by show acc ++ (flL1 ln ++ []) = _; rw [List.append_nil]
            rw [eapp]
            refine ⟨s1, by rw [gI_sI, if_neg (fun q => no q.1)]; exact s2, fun j hj => ?_⟩
            have g1 : gI (sI (sI m3 15 2 (nI p3)) 15 4 0) (o + 1) j = gI (sI m3 15 2 (nI p3)) (o + 1) j := by rw [gI_sI, if_neg (fun q => no1 q.1)]
            have g2 : gI (sI (sI m3 15 2 (nI p3)) 15 4 0) (o + 2) j = gI (sI m3 15 2 (nI p3)) (o + 2) j := by rw [gI_sI, if_neg (fun q => no2 q.1)]
            rw [g1, g2]
            exact s3 j hj
      by_cases h63 : cA t n q.1 = 63
      · have hqn : q.1 < n := cA_lt (t := t) (by omega)
        rw [if_pos h63, if_pos h63, Option.bind_some]
        dsimp only
        have x4 := x2.at ho (q.1 + 1)
        rw [if_neg (show ¬ (1 : Int32) = 0 by decide), x4.1.2.2, if_pos (pLa ho)]
        obtain ⟨m3, y1, y2, y3⟩ := add_s ho x4 (by simp only [List.length_append]; omega) (c := 63) (by omega) (v := 0)
        have c3 := (x3.tr (PL_15 (Or.inl rfl))).tr y3
        rw [y1, Option.bind_some]
        dsimp only
        have hE2 := E6_x ho hn ht m3 (q.1 + 1) (acc ++ q.2 ++ [(63, 0)]) y2 (by omega) (by simp only [List.length_append, List.length_singleton]; omega)
        unfold resC at hE2
        cases e2 : EP t n (opP t n 6) (q.1 + 1) with
        | inl f =>
          have hf := (E6_F (t := t) (n := n) (q.1 + 1) (by omega)).1 f e2
          rw [e2] at hE2
          obtain ⟨m4, w1, w2, w3⟩ := hE2
          rw [w1, Option.bind_some]
          dsimp only
          rw [w2.1.2.2, if_pos (pLa ho)]
          obtain ⟨m5, u1, u2, u3⟩ := add_f ho w2 (v1 := 59) (v2 := 0)
          rw [u1, Option.bind_some, Option.bind_some]
          exact badE m5 f hf u2 ((c3.tr w3).tr u3)
        | inr r =>
          obtain ⟨b1, b2, b3, b4⟩ := (E6_F (t := t) (n := n) (q.1 + 1) (by omega)).2 r e2
          rw [e2] at hE2
          obtain ⟨m4, w1, w2, w3⟩ := hE2
          rw [w1, Option.bind_some]
          dsimp only
          rw [w2.1.2.2, if_pos (pLa ho)]
          obtain ⟨m5, u1, u2, u3⟩ := add_s ho w2 (by simp only [List.length_append, List.length_singleton]; omega) (c := 59) (by omega) (v := 0)
          rw [show (59 : Int32) = nI 59 from rfl, u1, Option.bind_some, Option.bind_some]
          dsimp only
          have eapp : acc ++ q.2 ++ [(63, 0)] ++ r.2 ++ [(59, 0)] = acc ++ flL1 (some q.2, r.2) := by simp [flL1]
          rw [eapp] at u2
          exact fin m5 r.1 (some q.2, r.2) u2 b2 (by omega) (by simp only [flL1, List.length_append, List.length_singleton]; omega) ((c3.tr w3).tr u3)
      · rw [if_neg h63, if_neg h63, Option.bind_some]
        dsimp only
        have x4 := x2.at ho q.1
        rw [if_pos rfl, x4.1.2.2, if_pos (pLa ho)]
        obtain ⟨m5, u1, u2, u3⟩ := add_s ho x4 (by simp only [List.length_append]; omega) (c := 59) (by omega) (v := 0)
        rw [show (59 : Int32) = nI 59 from rfl, u1, Option.bind_some, Option.bind_some]
        dsimp only
        have eapp : acc ++ q.2 ++ [(59, 0)] = acc ++ flL1 (none, q.2) := by simp [flL1]
        rw [eapp] at u2
        exact fin m5 q.1 (none, q.2) u2 a2 a1 (by simp only [flL1, List.length_append, List.length_singleton]; omega) ((x3.tr (PL_15 (Or.inl rfl))).tr u3)
end LAWT
