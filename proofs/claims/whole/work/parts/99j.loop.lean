/-! ===== the loop of the law: whatever the run, true ===== -/
section LOOP
variable {L : Nat} {xs : Nat → Int32} {k18 : Int32 → Mm → Option (Int32 × Mm)} {v3 : Int32} {m : Mm}
theorem ans_step {R : Type} [DecidableEq R] {f g : Mm → Option (R × Mm)} {k : Mm → Option (Int32 × Mm)} (h : Ans f g m) (hk : ∀ m', JJ m' → ∃ q, k m' = some q ∧ q.1 = 1) : ∃ q, ((f m).bind fun q1 => ((g q1.2).bind fun q2 => if q1.1 = q2.1 then k q2.2 else some (0, q2.2))) = some q ∧ q.1 = 1 := by
  obtain ⟨r, m1, m2, h1, h2, h3⟩ := h
  rw [h1, Option.bind_some]
  simp only []
  rw [h2, Option.bind_some]
  simp only [if_true]
  exact hk m2 h3
theorem ifE {c : Prop} [Decidable c] {x y : Option (Int32 × Mm)} (h1 : ∃ q, x = some q ∧ q.1 = 1) (h2 : ∃ q, y = some q ∧ q.1 = 1) : ∃ q, (if c then x else y) = some q ∧ q.1 = 1 := by
  by_cases h : c
  · rw [if_pos h]; exact h1
  · rw [if_neg h]; exact h2
def inAll (v3 : Int32) (L : Nat) : Prop := inB (v3 + 1) L ∧ inB (v3 + 2) L ∧ inB (v3 + 3) L ∧ inB (v3 + 4) L ∧ inB (v3 + 5) L
theorem bk_200 (hi : inAll v3 L) (J : JJ m) (hk : ∀ m', JJ m' → ∃ q, k18 (v3 + 6) m' = some q ∧ q.1 = 1) : ∃ q, DL_law_200 L xs k18 v3 m = some q ∧ q.1 = 1 := by
  obtain ⟨s, b, kn, n, t, lv, J⟩ := J
  obtain ⟨i1, i2, i3, i4, i5⟩ := hi
  unfold DL_law_200 DL_law_1449
  simp only [if_pos i1]
  exact ans_step (sack_j J) hk
theorem bk_223 (hi : inAll v3 L) (J : JJ m) (hk : ∀ m', JJ m' → ∃ q, k18 (v3 + 6) m' = some q ∧ q.1 = 1) : ∃ q, DL_law_223 L xs k18 v3 m = some q ∧ q.1 = 1 := by
  obtain ⟨s, b, kn, n, t, lv, J⟩ := J
  obtain ⟨i1, i2, i3, i4, i5⟩ := hi
  unfold DL_law_223 DL_law_1449
  simp only [if_pos i1, if_pos i2, if_pos i3]
  exact ans_step (sacks_j J) hk
theorem bk_266 (hi : inAll v3 L) (J : JJ m) (hk : ∀ m', JJ m' → ∃ q, k18 (v3 + 6) m' = some q ∧ q.1 = 1) : ∃ q, DL_law_266 L xs k18 v3 m = some q ∧ q.1 = 1 := by
  obtain ⟨s, b, kn, n, t, lv, J⟩ := J
  obtain ⟨i1, i2, i3, i4, i5⟩ := hi
  unfold DL_law_266 DL_law_1449
  simp only [if_pos i1, if_pos i2]
  exact ans_step (buyer_j J) hk
theorem bk_299 (hi : inAll v3 L) (J : JJ m) (hk : ∀ m', JJ m' → ∃ q, k18 (v3 + 6) m' = some q ∧ q.1 = 1) : ∃ q, DL_law_299 L xs k18 v3 m = some q ∧ q.1 = 1 := by
  obtain ⟨s, b, kn, n, t, lv, J⟩ := J
  obtain ⟨i1, i2, i3, i4, i5⟩ := hi
  unfold DL_law_299 DL_law_1449
  simp only [if_pos i1, if_pos i2, if_pos i3]
  exact ans_step (mend_j J) hk
theorem bk_342 (hi : inAll v3 L) (J : JJ m) (hk : ∀ m', JJ m' → ∃ q, k18 (v3 + 6) m' = some q ∧ q.1 = 1) : ∃ q, DL_law_342 L xs k18 v3 m = some q ∧ q.1 = 1 := by
  obtain ⟨s, b, kn, n, t, lv, J⟩ := J
  obtain ⟨i1, i2, i3, i4, i5⟩ := hi
  unfold DL_law_342 DL_law_1449
  simp only [if_pos i1, if_pos i2]
  exact ans_step (of_j J) hk
theorem bk_375 (hi : inAll v3 L) (J : JJ m) (hk : ∀ m', JJ m' → ∃ q, k18 (v3 + 6) m' = some q ∧ q.1 = 1) : ∃ q, DL_law_375 L xs k18 v3 m = some q ∧ q.1 = 1 := by
  obtain ⟨s, b, kn, n, t, lv, J⟩ := J
  obtain ⟨i1, i2, i3, i4, i5⟩ := hi
  unfold DL_law_375 DL_law_1449
  simp only [if_pos i1]
  exact ans_step (feed_j J) hk
theorem bk_398 (hi : inAll v3 L) (J : JJ m) (hk : ∀ m', JJ m' → ∃ q, k18 (v3 + 6) m' = some q ∧ q.1 = 1) : ∃ q, DL_law_398 L xs k18 v3 m = some q ∧ q.1 = 1 := by
  obtain ⟨s, b, kn, n, t, lv, J⟩ := J
  obtain ⟨i1, i2, i3, i4, i5⟩ := hi
  unfold DL_law_398 DL_law_1449
  exact ans_step (law_j J) hk
theorem bk_411 (hi : inAll v3 L) (J : JJ m) (hk : ∀ m', JJ m' → ∃ q, k18 (v3 + 6) m' = some q ∧ q.1 = 1) : ∃ q, DL_law_411 L xs k18 v3 m = some q ∧ q.1 = 1 := by
  obtain ⟨s, b, kn, n, t, lv, J⟩ := J
  obtain ⟨i1, i2, i3, i4, i5⟩ := hi
  unfold DL_law_411 DL_law_1449
  simp only [if_pos i1, if_pos i2]
  exact ans_step (worthOf_j J) hk
theorem bk_444 (hi : inAll v3 L) (J : JJ m) (hk : ∀ m', JJ m' → ∃ q, k18 (v3 + 6) m' = some q ∧ q.1 = 1) : ∃ q, DL_law_444 L xs k18 v3 m = some q ∧ q.1 = 1 := by
  obtain ⟨s, b, kn, n, t, lv, J⟩ := J
  obtain ⟨i1, i2, i3, i4, i5⟩ := hi
  unfold DL_law_444 DL_law_1449
  simp only [if_pos i1, if_pos i2, if_pos i3, if_pos i4]
  exact ans_step (belief_j J) hk
theorem bk_498 (hi : inAll v3 L) (J : JJ m) (hk : ∀ m', JJ m' → ∃ q, k18 (v3 + 6) m' = some q ∧ q.1 = 1) : ∃ q, DL_law_498 L xs k18 v3 m = some q ∧ q.1 = 1 := by
  obtain ⟨s, b, kn, n, t, lv, J⟩ := J
  obtain ⟨i1, i2, i3, i4, i5⟩ := hi
  unfold DL_law_498 DL_law_1449
  simp only [if_pos i1, if_pos i2, if_pos i3]
  exact ans_step (likeliest_j J) hk
theorem bk_541 (hi : inAll v3 L) (J : JJ m) (hk : ∀ m', JJ m' → ∃ q, k18 (v3 + 6) m' = some q ∧ q.1 = 1) : ∃ q, DL_law_541 L xs k18 v3 m = some q ∧ q.1 = 1 := by
  obtain ⟨s, b, kn, n, t, lv, J⟩ := J
  obtain ⟨i1, i2, i3, i4, i5⟩ := hi
  unfold DL_law_541 DL_law_1449
  simp only [if_pos i1, if_pos i2, if_pos i3]
  exact ans_step (worth_j J) hk
theorem bk_585 (hi : inAll v3 L) (J : JJ m) (hk : ∀ m', JJ m' → ∃ q, k18 (v3 + 6) m' = some q ∧ q.1 = 1) : ∃ q, DL_law_585 L xs k18 v3 m = some q ∧ q.1 = 1 := by
  obtain ⟨s, b, kn, n, t, lv, J⟩ := J
  obtain ⟨i1, i2, i3, i4, i5⟩ := hi
  unfold DL_law_585 DL_law_1449
  simp only [if_pos i1, if_pos i2]
  exact ans_step (next_j J) hk
theorem bk_618 (hi : inAll v3 L) (J : JJ m) (hk : ∀ m', JJ m' → ∃ q, k18 (v3 + 6) m' = some q ∧ q.1 = 1) : ∃ q, DL_law_618 L xs k18 v3 m = some q ∧ q.1 = 1 := by
  obtain ⟨s, b, kn, n, t, lv, J⟩ := J
  obtain ⟨i1, i2, i3, i4, i5⟩ := hi
  unfold DL_law_618 DL_law_1449
  simp only [if_pos i1, if_pos i2, if_pos i3]
  exact ans_step (right_j J) hk
theorem bk_662 (hi : inAll v3 L) (J : JJ m) (hk : ∀ m', JJ m' → ∃ q, k18 (v3 + 6) m' = some q ∧ q.1 = 1) : ∃ q, DL_law_662 L xs k18 v3 m = some q ∧ q.1 = 1 := by
  obtain ⟨s, b, kn, n, t, lv, J⟩ := J
  obtain ⟨i1, i2, i3, i4, i5⟩ := hi
  unfold DL_law_662 DL_law_1449
  simp only [if_pos i1, if_pos i2, if_pos i3]
  exact ans_step (buys_j J) hk
theorem bk_705 (hi : inAll v3 L) (J : JJ m) (hk : ∀ m', JJ m' → ∃ q, k18 (v3 + 6) m' = some q ∧ q.1 = 1) : ∃ q, DL_law_705 L xs k18 v3 m = some q ∧ q.1 = 1 := by
  obtain ⟨s, b, kn, n, t, lv, J⟩ := J
  obtain ⟨i1, i2, i3, i4, i5⟩ := hi
  unfold DL_law_705 DL_law_1449
  simp only [if_pos i1]
  exact ans_step (dealt_j J) hk
theorem bk_728 (hi : inAll v3 L) (J : JJ m) (hk : ∀ m', JJ m' → ∃ q, k18 (v3 + 6) m' = some q ∧ q.1 = 1) : ∃ q, DL_law_728 L xs k18 v3 m = some q ∧ q.1 = 1 := by
  obtain ⟨s, b, kn, n, t, lv, J⟩ := J
  obtain ⟨i1, i2, i3, i4, i5⟩ := hi
  unfold DL_law_728 DL_law_1449
  simp only [if_pos i1, if_pos i2]
  exact ans_step (groan_j J) hk
theorem bk_761 (hi : inAll v3 L) (J : JJ m) (hk : ∀ m', JJ m' → ∃ q, k18 (v3 + 6) m' = some q ∧ q.1 = 1) : ∃ q, DL_law_761 L xs k18 v3 m = some q ∧ q.1 = 1 := by
  obtain ⟨s, b, kn, n, t, lv, J⟩ := J
  obtain ⟨i1, i2, i3, i4, i5⟩ := hi
  unfold DL_law_761 DL_law_1449
  simp only [if_pos i1, if_pos i2]
  exact ans_step (stock_j J) hk
theorem bk_795 (hi : inAll v3 L) (J : JJ m) (hk : ∀ m', JJ m' → ∃ q, k18 (v3 + 6) m' = some q ∧ q.1 = 1) : ∃ q, DL_law_795 L xs k18 v3 m = some q ∧ q.1 = 1 := by
  obtain ⟨s, b, kn, n, t, lv, J⟩ := J
  obtain ⟨i1, i2, i3, i4, i5⟩ := hi
  unfold DL_law_795 DL_law_1449
  simp only [if_pos i1]
  exact ans_step (tells_j J) hk
theorem bk_818 (hi : inAll v3 L) (J : JJ m) (hk : ∀ m', JJ m' → ∃ q, k18 (v3 + 6) m' = some q ∧ q.1 = 1) : ∃ q, DL_law_818 L xs k18 v3 m = some q ∧ q.1 = 1 := by
  obtain ⟨s, b, kn, n, t, lv, J⟩ := J
  obtain ⟨i1, i2, i3, i4, i5⟩ := hi
  unfold DL_law_818 DL_law_1449
  simp only [if_pos i1, if_pos i2, if_pos i3]
  exact ans_step (byTurns_j J) hk
theorem bk_861 (hi : inAll v3 L) (J : JJ m) (hk : ∀ m', JJ m' → ∃ q, k18 (v3 + 6) m' = some q ∧ q.1 = 1) : ∃ q, DL_law_861 L xs k18 v3 m = some q ∧ q.1 = 1 := by
  obtain ⟨s, b, kn, n, t, lv, J⟩ := J
  obtain ⟨i1, i2, i3, i4, i5⟩ := hi
  unfold DL_law_861 DL_law_1449
  simp only [if_pos i1, if_pos i2, if_pos i3, if_pos i4]
  exact ans_step (drawn_j J) hk
theorem bk_914 (hi : inAll v3 L) (J : JJ m) (hk : ∀ m', JJ m' → ∃ q, k18 (v3 + 6) m' = some q ∧ q.1 = 1) : ∃ q, DL_law_914 L xs k18 v3 m = some q ∧ q.1 = 1 := by
  obtain ⟨s, b, kn, n, t, lv, J⟩ := J
  obtain ⟨i1, i2, i3, i4, i5⟩ := hi
  unfold DL_law_914 DL_law_1449
  simp only [if_pos i1, if_pos i2]
  exact ans_step (sell_j J) hk
theorem bk_947 (hi : inAll v3 L) (J : JJ m) (hk : ∀ m', JJ m' → ∃ q, k18 (v3 + 6) m' = some q ∧ q.1 = 1) : ∃ q, DL_law_947 L xs k18 v3 m = some q ∧ q.1 = 1 := by
  obtain ⟨s, b, kn, n, t, lv, J⟩ := J
  obtain ⟨i1, i2, i3, i4, i5⟩ := hi
  unfold DL_law_947 DL_law_1449
  simp only [if_pos i1]
  exact ans_step (open_j J) hk
theorem bk_970 (hi : inAll v3 L) (J : JJ m) (hk : ∀ m', JJ m' → ∃ q, k18 (v3 + 6) m' = some q ∧ q.1 = 1) : ∃ q, DL_law_970 L xs k18 v3 m = some q ∧ q.1 = 1 := by
  obtain ⟨s, b, kn, n, t, lv, J⟩ := J
  obtain ⟨i1, i2, i3, i4, i5⟩ := hi
  unfold DL_law_970 DL_law_1449
  exact ans_step (dusk_j J) hk
theorem bk_983 (hi : inAll v3 L) (J : JJ m) (hk : ∀ m', JJ m' → ∃ q, k18 (v3 + 6) m' = some q ∧ q.1 = 1) : ∃ q, DL_law_983 L xs k18 v3 m = some q ∧ q.1 = 1 := by
  obtain ⟨s, b, kn, n, t, lv, J⟩ := J
  obtain ⟨i1, i2, i3, i4, i5⟩ := hi
  unfold DL_law_983 DL_law_1449
  simp only [if_pos i1]
  exact ans_step (led_j J) hk
theorem bk_1006 (hi : inAll v3 L) (J : JJ m) (hk : ∀ m', JJ m' → ∃ q, k18 (v3 + 6) m' = some q ∧ q.1 = 1) : ∃ q, DL_law_1006 L xs k18 v3 m = some q ∧ q.1 = 1 := by
  obtain ⟨s, b, kn, n, t, lv, J⟩ := J
  obtain ⟨i1, i2, i3, i4, i5⟩ := hi
  unfold DL_law_1006 DL_law_1449
  exact ans_step (image_j J) hk
theorem bk_1019 (hi : inAll v3 L) (J : JJ m) (hk : ∀ m', JJ m' → ∃ q, k18 (v3 + 6) m' = some q ∧ q.1 = 1) : ∃ q, DL_law_1019 L xs k18 v3 m = some q ∧ q.1 = 1 := by
  obtain ⟨s, b, kn, n, t, lv, J⟩ := J
  obtain ⟨i1, i2, i3, i4, i5⟩ := hi
  unfold DL_law_1019 DL_law_1449
  exact ans_step (back_j J) hk
theorem bk_1032 (hi : inAll v3 L) (J : JJ m) (hk : ∀ m', JJ m' → ∃ q, k18 (v3 + 6) m' = some q ∧ q.1 = 1) : ∃ q, DL_law_1032 L xs k18 v3 m = some q ∧ q.1 = 1 := by
  obtain ⟨s, b, kn, n, t, lv, J⟩ := J
  obtain ⟨i1, i2, i3, i4, i5⟩ := hi
  unfold DL_law_1032 DL_law_1449
  exact ans_step (undo_j J) hk
theorem bk_1045 (hi : inAll v3 L) (J : JJ m) (hk : ∀ m', JJ m' → ∃ q, k18 (v3 + 6) m' = some q ∧ q.1 = 1) : ∃ q, DL_law_1045 L xs k18 v3 m = some q ∧ q.1 = 1 := by
  obtain ⟨s, b, kn, n, t, lv, J⟩ := J
  obtain ⟨i1, i2, i3, i4, i5⟩ := hi
  unfold DL_law_1045 DL_law_1449
  exact ans_step (redo_j J) hk
theorem bk_1058 (hi : inAll v3 L) (J : JJ m) (hk : ∀ m', JJ m' → ∃ q, k18 (v3 + 6) m' = some q ∧ q.1 = 1) : ∃ q, DL_law_1058 L xs k18 v3 m = some q ∧ q.1 = 1 := by
  obtain ⟨s, b, kn, n, t, lv, J⟩ := J
  obtain ⟨i1, i2, i3, i4, i5⟩ := hi
  unfold DL_law_1058 DL_law_1449
  simp only [if_pos i1]
  exact ans_step (body_j J) hk
theorem bk_1081 (hi : inAll v3 L) (J : JJ m) (hk : ∀ m', JJ m' → ∃ q, k18 (v3 + 6) m' = some q ∧ q.1 = 1) : ∃ q, DL_law_1081 L xs k18 v3 m = some q ∧ q.1 = 1 := by
  obtain ⟨s, b, kn, n, t, lv, J⟩ := J
  obtain ⟨i1, i2, i3, i4, i5⟩ := hi
  unfold DL_law_1081 DL_law_1449
  simp only [if_pos i1, if_pos i2, if_pos i3]
  exact ans_step (act_j J) hk
theorem bk_1124 (hi : inAll v3 L) (J : JJ m) (hk : ∀ m', JJ m' → ∃ q, k18 (v3 + 6) m' = some q ∧ q.1 = 1) : ∃ q, DL_law_1124 L xs k18 v3 m = some q ∧ q.1 = 1 := by
  obtain ⟨s, b, kn, n, t, lv, J⟩ := J
  obtain ⟨i1, i2, i3, i4, i5⟩ := hi
  unfold DL_law_1124 DL_law_1449
  simp only [if_pos i1]
  exact ans_step (trace_j J) hk
theorem bk_1147 (hi : inAll v3 L) (J : JJ m) (hk : ∀ m', JJ m' → ∃ q, k18 (v3 + 6) m' = some q ∧ q.1 = 1) : ∃ q, DL_law_1147 L xs k18 v3 m = some q ∧ q.1 = 1 := by
  obtain ⟨s, b, kn, n, t, lv, J⟩ := J
  obtain ⟨i1, i2, i3, i4, i5⟩ := hi
  unfold DL_law_1147 DL_law_1449
  simp only [if_pos i1, if_pos i2]
  exact ans_step (keep_j J) hk
theorem bk_1180 (hi : inAll v3 L) (J : JJ m) (hk : ∀ m', JJ m' → ∃ q, k18 (v3 + 6) m' = some q ∧ q.1 = 1) : ∃ q, DL_law_1180 L xs k18 v3 m = some q ∧ q.1 = 1 := by
  obtain ⟨s, b, kn, n, t, lv, J⟩ := J
  obtain ⟨i1, i2, i3, i4, i5⟩ := hi
  unfold DL_law_1180 DL_law_1449
  simp only [if_pos i1, if_pos i2, if_pos i3]
  exact ans_step (row_j J) hk
theorem bk_1223 (hi : inAll v3 L) (J : JJ m) (hk : ∀ m', JJ m' → ∃ q, k18 (v3 + 6) m' = some q ∧ q.1 = 1) : ∃ q, DL_law_1223 L xs k18 v3 m = some q ∧ q.1 = 1 := by
  obtain ⟨s, b, kn, n, t, lv, J⟩ := J
  obtain ⟨i1, i2, i3, i4, i5⟩ := hi
  unfold DL_law_1223 DL_law_1449
  simp only [if_pos i1, if_pos i2, if_pos i3, if_pos i4]
  exact ans_step (put_j J) hk
theorem bk_1296 (hi : inAll v3 L) (J : JJ m) (hk : ∀ m', JJ m' → ∃ q, k18 (v3 + 6) m' = some q ∧ q.1 = 1) : ∃ q, DL_law_1296 L xs k18 v3 m = some q ∧ q.1 = 1 := by
  obtain ⟨s, b, kn, n, t, lv, J⟩ := J
  obtain ⟨i1, i2, i3, i4, i5⟩ := hi
  unfold DL_law_1296 DL_law_1449
  simp only [if_pos i1, if_pos i2]
  exact ans_step (element_j J) hk
theorem bk_1330 (hi : inAll v3 L) (J : JJ m) (hk : ∀ m', JJ m' → ∃ q, k18 (v3 + 6) m' = some q ∧ q.1 = 1) : ∃ q, DL_law_1330 L xs k18 v3 m = some q ∧ q.1 = 1 := by
  obtain ⟨s, b, kn, n, t, lv, J⟩ := J
  obtain ⟨i1, i2, i3, i4, i5⟩ := hi
  unfold DL_law_1330 DL_law_1449
  simp only [if_pos i1, if_pos i2, if_pos i3, if_pos i4, if_pos i5]
  exact ans_step (shift_j J) hk
theorem bk_1393 (hi : inAll v3 L) (J : JJ m) (hk : ∀ m', JJ m' → ∃ q, k18 (v3 + 6) m' = some q ∧ q.1 = 1) : ∃ q, DL_law_1393 L xs k18 v3 m = some q ∧ q.1 = 1 := by
  obtain ⟨s, b, kn, n, t, lv, J⟩ := J
  obtain ⟨i1, i2, i3, i4, i5⟩ := hi
  unfold DL_law_1393 DL_law_1449
  simp only [if_pos i1, if_pos i2]
  exact ans_step (taken_j J) hk
theorem bk_1426 (hi : inAll v3 L) (J : JJ m) (hk : ∀ m', JJ m' → ∃ q, k18 (v3 + 6) m' = some q ∧ q.1 = 1) : ∃ q, DL_law_1426 L xs k18 v3 m = some q ∧ q.1 = 1 := by
  obtain ⟨s, b, kn, n, t, lv, J⟩ := J
  obtain ⟨i1, i2, i3, i4, i5⟩ := hi
  unfold DL_law_1426 DL_law_1449
  simp only [if_pos i1]
  exact ans_step (count_j J) hk
theorem bl_step (h : ¬ (Int32.ofNat L - 6) < v3) (h0 : inB v3 L) (hi : inAll v3 L) (J : JJ m) (hk : ∀ m', JJ m' → ∃ q, k18 (v3 + 6) m' = some q ∧ q.1 = 1) : ∃ q, BL_law_18 L xs k18 v3 m = some q ∧ q.1 = 1 := by
  unfold BL_law_18
  rw [if_neg h, if_pos h0]
  exact ifE (bk_200 hi J hk) (ifE (bk_223 hi J hk) (ifE (bk_266 hi J hk) (ifE (bk_299 hi J hk) (ifE (bk_342 hi J hk) (ifE (bk_375 hi J hk) (ifE (bk_398 hi J hk) (ifE (bk_411 hi J hk) (ifE (bk_444 hi J hk) (ifE (bk_498 hi J hk) (ifE (bk_541 hi J hk) (ifE (bk_585 hi J hk) (ifE (bk_618 hi J hk) (ifE (bk_662 hi J hk) (ifE (bk_705 hi J hk) (ifE (bk_728 hi J hk) (ifE (bk_761 hi J hk) (ifE (bk_795 hi J hk) (ifE (bk_818 hi J hk) (ifE (bk_861 hi J hk) (ifE (bk_914 hi J hk) (ifE (bk_947 hi J hk) (ifE (bk_970 hi J hk) (ifE (bk_983 hi J hk) (ifE (bk_1006 hi J hk) (ifE (bk_1019 hi J hk) (ifE (bk_1032 hi J hk) (ifE (bk_1045 hi J hk) (ifE (bk_1058 hi J hk) (ifE (bk_1081 hi J hk) (ifE (bk_1124 hi J hk) (ifE (bk_1147 hi J hk) (ifE (bk_1180 hi J hk) (ifE (bk_1223 hi J hk) (ifE (bk_1296 hi J hk) (ifE (bk_1330 hi J hk) (ifE (bk_1393 hi J hk) (ifE (bk_1426 hi J hk) (hk m J))))))))))))))))))))))))))))))))))))))
theorem law_loop (hL : L ≤ 3072) : ∀ (N f i : Nat) (m : Mm), L + 6 ≤ i + f → f < N → i ≤ L + 6 → JJ m → ∃ q, DL_law_18 L xs N (nI i) m = some q ∧ q.1 = 1 := by
  intro N
  induction N with
  | zero => intro f i m h1 h2; omega
  | succ N ih =>
    intro f i m h1 h2 h3 J
    show ∃ q, BL_law_18 L xs (DL_law_18 L xs N) (nI i) m = some q ∧ q.1 = 1
    have eL : (Int32.ofNat L).toInt = L := nI_toInt (by omega)
    have z6 : (6 : Int32).toInt = 6 := rfl
    have e6 : (Int32.ofNat L - 6).toInt = (L : Int) - 6 := by rw [iSub (by rw [eL, z6]; omega) (by rw [eL, z6]; omega), eL, z6]
    have ei : (nI i).toInt = i := nI_toInt (by omega)
    by_cases h : Int32.ofNat L - 6 < nI i
    · unfold BL_law_18
      rw [if_pos h]
      exact ⟨_, rfl, rfl⟩
    · have hle : (i : Int) ≤ (L : Int) - 6 := by
        have : ¬ (Int32.ofNat L - 6).toInt < (nI i).toInt := fun z => h (toI_lt.mpr z)
        omega
      have ad : ∀ j : Nat, nI i + nI j = nI (i + j) := fun j => nI_add i j
      have inn : ∀ j : Nat, j < 6 → inB (nI i + nI j) L := fun j hj => by rw [ad]; exact inB_nI (by omega) (by omega)
      refine bl_step h (inB_nI (by omega) (by omega)) ⟨inn 1 (by omega), inn 2 (by omega), inn 3 (by omega), inn 4 (by omega), inn 5 (by omega)⟩ J (fun m' J' => ?_)
      rw [show nI i + 6 = nI (i + 6) from ad 6]
      exact ih (f - 6) (i + 6) m' (by omega) (by omega) (by omega) J'
theorem law_true (hL : L ≤ 3072) (J : JJ m) : ∃ q, dLaw L xs m = some q ∧ q.1 = 1 := by
  have h := law_loop (xs := xs) hL FU (L + 6) 0 m (by omega) (by unfold FU; omega) (by omega) J
  rw [nI_0] at h
  exact h
end LOOP
