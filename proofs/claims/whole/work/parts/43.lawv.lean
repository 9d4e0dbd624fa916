/-! ===== THE LAW: its steps run by the class; law() itself ===== -/
def Stk (o : Nat) (m : Mm) (st : List Int32) : Prop := ∀ i, i < st.length → gI m (o + 3) (st.length - 1 - i) = st.getD i 0
theorem Stk_push {o : Nat} {m : Mm} {st : List Int32} (h : Stk o m st) (v : Int32) : Stk o (sI m (o + 3) st.length v) (v :: st) := by
  intro i hi
  simp only [List.length_cons] at hi ⊢
  rw [gI_sI]
  cases i with
  | zero => rw [if_pos ⟨rfl, by omega⟩]; rfl
  | succ i =>
    rw [if_neg (by omega), show st.length + 1 - 1 - (i + 1) = st.length - 1 - i by omega]
    exact h i (by omega)
theorem Stk_tl {o : Nat} {m : Mm} {x : Int32} {st : List Int32} (h : Stk o m (x :: st)) : Stk o m st := by
  intro i hi
  have := h (i + 1) (by simp; omega)
  simp only [List.length_cons] at this
  rw [show st.length + 1 - 1 - (i + 1) = st.length - 1 - i by omega] at this
  exact this
theorem Stk_hd {o : Nat} {m : Mm} {x : Int32} {st : List Int32} (h : Stk o m (x :: st)) : gI m (o + 3) st.length = x := by
  have := h 0 (by simp)
  simp only [List.length_cons] at this
  rw [show st.length + 1 - 1 - 0 = st.length by omega] at this
  exact this
theorem joined_x {c : Nat} (hc : isB c = true) {a b : Int32} {m : Mm} : dX5_joined (nI c) a b m = some (jnS c a b, m) := by
  have h : c = 37 ∨ c = 38 ∨ c = 42 ∨ c = 43 ∨ c = 45 ∨ c = 47 ∨ c = 60 ∨ c = 61 ∨ c = 62 ∨ c = 124 := by
    unfold isB at hc
    simp only [Bool.or_eq_true, beq_iff_eq] at hc
    omega
  unfold dX5_joined DX5_joined_118 DX5_joined_100
  rcases h with rfl | rfl | rfl | rfl | rfl | rfl | rfl | rfl | rfl | rfl
  · rw [if_pos (by decide)]
    show _ = some ((if b = 0 then 0 else iRem a b), m)
    by_cases hb : b = 0
    · rw [if_pos hb, if_pos hb]
    · rw [if_neg hb, if_neg hb, if_neg hb]
  · rw [if_neg (by decide), if_pos (by decide)]
    show _ = some ((if a = 0 then 0 else if b = 0 then 0 else 1), m)
    repeat' split
    all_goals rfl
  · rw [if_neg (by decide), if_neg (by decide), if_pos (by decide)]; rfl
  · rw [if_neg (by decide), if_neg (by decide), if_neg (by decide), if_pos (by decide)]; rfl
  · rw [if_neg (by decide), if_neg (by decide), if_neg (by decide), if_neg (by decide), if_pos (by decide)]; rfl
  · rw [if_neg (by decide), if_neg (by decide), if_neg (by decide), if_neg (by decide), if_neg (by decide), if_pos (by decide)]
    show _ = some ((if b = 0 then 0 else a / b), m)
    by_cases hb : b = 0
    · rw [if_pos hb, if_pos hb]
    · rw [if_neg hb, if_neg hb, if_neg hb]
  · rw [if_neg (by decide), if_neg (by decide), if_neg (by decide), if_neg (by decide), if_neg (by decide), if_neg (by decide), if_pos (by decide)]
    show _ = some ((if b ≤ a then 0 else 1), m)
    split <;> rfl
  · rw [if_neg (by decide), if_neg (by decide), if_neg (by decide), if_neg (by decide), if_neg (by decide), if_neg (by decide), if_neg (by decide), if_pos (by decide)]
    show _ = some ((if a = b then 1 else 0), m)
    split <;> rfl
  · rw [if_neg (by decide), if_neg (by decide), if_neg (by decide), if_neg (by decide), if_neg (by decide), if_neg (by decide), if_neg (by decide), if_neg (by decide), if_pos (by decide)]
    show _ = some ((if a ≤ b then 0 else 1), m)
    split <;> rfl
  · rw [if_neg (by decide), if_neg (by decide), if_neg (by decide), if_neg (by decide), if_neg (by decide), if_neg (by decide), if_neg (by decide), if_neg (by decide), if_neg (by decide), if_pos (by decide)]
    show _ = some ((if a = 0 then (if b = 0 then 0 else 1) else 1), m)
    repeat' split
    all_goals rfl
section LAWV
variable {o : Nat} {S : List LSt}
theorem stepsAt.ch3 (ho : isLa o) {m m2 : Mm} (h : stepsAt o m S) (c : ch (P1 (o + 3)) m m2) : stepsAt o m2 S := by
  have p0 : ∀ k, P1 (o + 3) o k = false := fun k => by unfold P1; simp
  have p1 : ∀ k, P1 (o + 3) (o + 1) k = false := fun k => by unfold P1; simp
  have p2 : ∀ k, P1 (o + 3) (o + 2) k = false := fun k => by unfold P1; simp
  exact ⟨h.1, by rw [c.I (p0 3)]; exact h.2.1, fun i hi => by rw [c.I (p1 i), c.I (p2 i)]; exact h.2.2 i hi⟩
/-- a step that is jumped over -/
theorem val_skip {m : Mm} (hS : stepsAt o m S) {a N : Nat} {top : Int32} (ht : ¬ (128 : Int32) ≤ top) (ha : a < S.length) (hq : (S.getD a (0, 0)).1 < 256) : DX5_value_7 (N + 1) o top 1 (nI a) m = DX5_value_7 N o top (if (S.getD a (0, 0)).1 = 59 then 0 else 1) (nI (a + 1)) m := by
  have h128 := hS.1
  have e1 : (nI S.length).toInt = S.length := nI_toInt (by omega)
  have e2 : (nI a).toInt = a := nI_toInt (by omega)
  show BX5_value_7 (DX5_value_7 N) o top 1 (nI a) m = _
  unfold BX5_value_7 DX5_value_48 DX5_value_276
  rw [hS.2.1, if_neg (by rw [toI_le, e1, e2]; omega), if_neg ht, if_pos (inB_nI (by omega) (by omega)), if_neg (show ¬ (1 : Int32) = 0 by decide), nI_clamp (by omega), (hS.2.2 a ha).1, nI_1]
  have e59 : (nI (S.getD a (0, 0)).1 = 59) = ((S.getD a (0, 0)).1 = 59) := propext (by rw [show (59 : Int32) = nI 59 from rfl]; exact nI_eq (by omega) (by omega))
  simp only [e59]
  split <;> rfl
theorem okS_lt {q : LSt} (h : okS q) : q.1 < 256 := by
  rcases h with h | h | h | h | h
  · omega
  · omega
  · omega
  · omega
  · unfold isB at h; simp only [Bool.or_eq_true, beq_iff_eq] at h; omega
theorem val_1 (ho : isLa o) {m : Mm} (hS : stepsAt o m S) {a N d' : Nat} {st : List Int32} (ha : a < S.length) (hq : okS (S.getD a (0, 0))) (hd : dp1 (S.getD a (0, 0)) st.length = some d') (hst : st.length ≤ a) (hk : Stk o m st) : ∃ m2, DX5_value_7 (N + 1) o (nI st.length) 0 (nI a) m = DX5_value_7 N o (nI d') 0 (nI (a + 1)) m2 ∧ d' = (ex1 (gI m 14) (S.getD a (0, 0)) st).length ∧ Stk o m2 (ex1 (gI m 14) (S.getD a (0, 0)) st) ∧ ch (P1 (o + 3)) m m2 := by
  have h128 := hS.1
  have e1 : (nI S.length).toInt = S.length := nI_toInt (by omega)
  have e2 : (nI a).toInt = a := nI_toInt (by omega)
  have e3 : (nI st.length).toInt = st.length := nI_toInt (by omega)
  have hlt := okS_lt hq
  have eq : ∀ j, j < 256 → (nI (S.getD a (0, 0)).1 = nI j) = ((S.getD a (0, 0)).1 = j) := fun j hj => propext (nI_eq (by omega) (by omega))
  obtain ⟨s1, s2⟩ := hS.2.2 a ha
  have pc : ∀ k v, ch (P1 (o + 3)) m (sI m (o + 3) k v) := fun k v => ch.sI (by unfold P1; simp)
  have start : DX5_value_7 (N + 1) o (nI st.length) 0 (nI a) m = BX5_value_7 (DX5_value_7 N) o (nI st.length) 0 (nI a) m := rfl
  rw [start]
  unfold BX5_value_7 DX5_value_276
  have z128 : (128 : Int32).toInt = 128 := rfl
  have t128 : ¬ (128 : Int32) ≤ nI st.length := fun z => by rw [toI_le, z128, e3] at z; omega
  rw [hS.2.1, if_neg (by rw [toI_le, e1, e2]; omega), if_neg t128, if_pos (inB_nI (by omega) (by omega)), if_pos rfl]
  simp only [nI_clamp (show a < 2 ^ 31 by omega), nI_clamp (show st.length < 2 ^ 31 by omega), s1, s2, if_pos (show inB (nI a) 128 from inB_nI (by omega) (by omega)), if_pos (show inB (nI st.length) 128 from inB_nI (by omega) (by omega)), show (35 : Int32) = nI 35 from rfl, show (110 : Int32) = nI 110 from rfl, eq 35 (by omega), eq 110 (by omega), nI_1]
  generalize S.getD a (0, 0) = q at hq hd hlt eq s1 s2 ⊢
  unfold dp1 at hd
  by_cases h35 : q.1 = 35
  · rw [if_pos (Or.inl h35)] at hd
    cases hd
    rw [if_pos h35]
    have ex : ex1 (gI m 14) q st = q.2 :: st := by unfold ex1; rw [if_pos h35]
    rw [ex]
    exact ⟨_, rfl, rfl, Stk_push hk _, pc _ _⟩
  · rw [if_neg h35]
    by_cases h110 : q.1 = 110
    · rw [if_pos (Or.inr h110)] at hd
      cases hd
      have hop : 0 ≤ q.2.toInt ∧ q.2.toInt < 6 := by
        rcases hq with h | h | h | h | h
        · exact absurd h h35
        · exact h.2
        · omega
        · omega
        · rw [h110] at h; exact absurd h (by decide)
      have z0 : (0 : Int32).toInt = 0 := rfl
      have z6 : (6 : Int32).toInt = 6 := rfl
      rw [if_pos h110, if_neg (show ¬ q.2 < 0 from fun z => by rw [toI_lt, z0] at z; omega), if_neg (show ¬ (6 : Int32) ≤ q.2 from fun z => by rw [toI_le, z6] at z; omega), if_pos (inB_iff.mpr (by omega))]
      have ex : ex1 (gI m 14) q st = gI m 14 q.2.toNatClampNeg :: st := by unfold ex1; rw [if_neg h35, if_pos h110]
      rw [ex]
      exact ⟨_, rfl, rfl, Stk_push hk _, pc _ _⟩
    · rw [if_neg h110]
      rw [if_neg (by omega)] at hd
      unfold DX5_value_128 DX5_value_193 DX5_value_235 DX5_value_276
      by_cases hu : q.1 = 126 ∨ q.1 = 33
      · rw [if_pos hu] at hd
        have h1 : 1 ≤ st.length := by
          by_cases h : 1 ≤ st.length
          · exact h
          · rw [if_neg h] at hd; cases hd
        rw [if_pos h1] at hd
        cases hd
        obtain ⟨x, r, rfl⟩ : ∃ x r, st = x :: r := by cases st with
          | nil => simp at h1
          | cons x r => exact ⟨x, r, rfl⟩
        have hx := Stk_hd hk
        simp only [List.length_cons] at hst e3 ⊢
        have em : nI (r.length + 1) - 1 = nI r.length := nI_pred r.length
        rw [if_pos (by rw [toI_le, e3]; simp; omega)]
        simp only [show (59 : Int32) = nI 59 from rfl, show (63 : Int32) = nI 63 from rfl, show (33 : Int32) = nI 33 from rfl, show (126 : Int32) = nI 126 from rfl, eq 59 (by omega), eq 63 (by omega), eq 33 (by omega), eq 126 (by omega), em, nI_clamp (show r.length < 2 ^ 31 by omega), hx, if_pos (show inB (nI r.length) 128 from inB_nI (by omega) (by omega)), nI_1]
        rw [if_neg (by omega), if_neg (by omega)]
        have fin : ∀ v, Stk o (sI m (o + 3) r.length v) (v :: r) := fun v => Stk_push (Stk_tl hk) v
        rcases hu with h | h
        · have ex : ex1 (gI m 14) q (x :: r) = (-x) :: r := by unfold ex1; rw [if_neg h35, if_neg h110, if_pos h]
          rw [ex, if_neg (show ¬ q.1 = 33 by omega), if_pos h, if_pos h]
          exact ⟨_, rfl, rfl, fin _, pc _ _⟩
        · have ex : ex1 (gI m 14) q (x :: r) = (if x = 0 then 1 else 0) :: r := by unfold ex1; rw [if_neg h35, if_neg h110, if_neg (show ¬ q.1 = 126 by omega), if_pos h]
          rw [ex, if_pos h, if_neg (show ¬ q.1 = 126 by omega)]
          by_cases hz : x = 0
          · rw [if_pos hz, if_pos hz]
            exact ⟨_, rfl, rfl, fin _, pc _ _⟩
          · rw [if_neg hz, if_neg hz]
            exact ⟨_, rfl, rfl, fin _, pc _ _⟩
      · rw [if_neg hu] at hd
        have hB : isB q.1 = true := by
          rcases hq with h | h | h | h | h
          · exact absurd h h35
          · exact absurd h.1 h110
          · exact absurd (Or.inl h) hu
          · exact absurd (Or.inr h) hu
          · exact h
        have h59 : ¬ q.1 = 59 := fun z => by rw [z] at hB; exact absurd hB (by decide)
        have h63 : ¬ q.1 = 63 := fun z => by rw [z] at hB; exact absurd hB (by decide)
        have h2 : 2 ≤ st.length := by
          by_cases h : 2 ≤ st.length
          · exact h
          · rw [if_neg h] at hd; cases hd
        rw [if_pos h2] at hd
        cases hd
        obtain ⟨y, x, r, rfl⟩ : ∃ y x r, st = y :: x :: r := by
          cases st with
          | nil => simp at h2
          | cons y st =>
            cases st with
            | nil => simp at h2
            | cons x r => exact ⟨y, x, r, rfl⟩
        have hy := Stk_hd hk
        have hx := Stk_hd (Stk_tl hk)
        simp only [List.length_cons] at hst e3 hy ⊢
        have em : nI (r.length + 1 + 1) + (-1) = nI (r.length + 1) := by rw [← Int32.sub_eq_add_neg]; exact nI_pred _
        have em2 : nI (r.length + 1) - 1 = nI r.length := nI_pred r.length
        rw [if_pos (by rw [toI_le, e3]; simp; omega)]
        simp only [show (59 : Int32) = nI 59 from rfl, show (63 : Int32) = nI 63 from rfl, show (33 : Int32) = nI 33 from rfl, show (126 : Int32) = nI 126 from rfl, eq 59 (by omega), eq 63 (by omega), eq 33 (by omega), eq 126 (by omega), em, em2, nI_clamp (show r.length < 2 ^ 31 by omega), nI_clamp (show r.length + 1 < 2 ^ 31 by omega), hx, hy, if_pos (show inB (nI r.length) 128 from inB_nI (by omega) (by omega)), if_pos (show inB (nI (r.length + 1)) 128 from inB_nI (by omega) (by omega)), nI_1, joined_x hB, Option.bind_some]
        rw [if_neg h59, if_neg h63, if_neg (show ¬ q.1 = 33 by omega), if_neg (show ¬ q.1 = 126 by omega), if_pos (by rw [toI_le, e3]; simp; omega)]
        have ex : ex1 (gI m 14) q (y :: x :: r) = jnS q.1 x y :: r := by unfold ex1; rw [if_neg h35, if_neg h110, if_neg (show ¬ q.1 = 126 by omega), if_neg (show ¬ q.1 = 33 by omega)]
        rw [ex]
        exact ⟨_, rfl, rfl, Stk_push (Stk_tl (Stk_tl hk)) _, pc _ _⟩
theorem getD_mid {pre post : List LSt} {q : LSt} : (pre ++ q :: post).getD pre.length (0, 0) = q := by
  simp [List.getD]
/-- a run of steps -/
theorem val_s (ho : isLa o) : ∀ (s pre post : List LSt) (m : Mm) (N d' : Nat) (st : List Int32), S = pre ++ (s ++ post) → stepsAt o m S → (∀ q ∈ s, okS q) → dps s st.length = some d' → st.length ≤ pre.length → Stk o m st → ∃ m2, DX5_value_7 (N + s.length) o (nI st.length) 0 (nI pre.length) m = DX5_value_7 N o (nI d') 0 (nI (pre.length + s.length)) m2 ∧ d' = (exs (gI m 14) s st).length ∧ Stk o m2 (exs (gI m 14) s st) ∧ ch (P1 (o + 3)) m m2
  | [], pre, post, m, N, d', st, _, _, _, hd, _, hk => by
    cases hd
    exact ⟨m, rfl, rfl, hk, ch.rf⟩
  | q :: s, pre, post, m, N, d', st, hS, hA, hok, hd, hst, hk => by
    have eg : S.getD pre.length (0, 0) = q := by rw [hS, List.cons_append]; exact getD_mid
    have hlen : pre.length < S.length := by rw [hS]; simp
    cases h1 : dp1 q st.length with
    | none => unfold dps at hd; rw [h1] at hd; cases hd
    | some d1 =>
      unfold dps at hd
      rw [h1, Option.bind_some] at hd
      have hq := hok q (List.mem_cons_self)
      obtain ⟨m1, x1, x2, x3, x4⟩ := val_1 ho hA (N := N + s.length) hlen (by rw [eg]; exact hq) (by rw [eg]; exact h1) hst hk
      rw [eg] at x2 x3
      have hd1 : d1 ≤ st.length + 1 := by
        unfold dp1 at h1
        repeat' split at h1
        all_goals first | (cases h1; omega) | cases h1
      have p14 : ∀ k, P1 (o + 3) 14 k = false := fun k => by rcases ho with rfl | rfl <;> rfl
      have en : gI m1 14 = gI m 14 := funext fun k => x4.I (p14 k)
      obtain ⟨m2, y1, y2, y3, y4⟩ := val_s ho s (pre ++ [q]) post m1 N d' (ex1 (gI m 14) q st) (by rw [hS]; simp) (hA.ch3 ho x4) (fun z hz => hok z (List.mem_cons_of_mem _ hz)) (by rw [← x2]; exact hd) (by rw [← x2]; simp; omega) x3
      rw [en] at y2 y3
      rw [← x2] at y1
      refine ⟨m2, ?_, y2, y3, x4.tr y4⟩
      rw [show N + (q :: s).length = N + s.length + 1 from rfl, x1]
      simp only [List.length_append, List.length_singleton] at y1
      rw [y1]
      congr 2
      simp; omega
/-- over what is jumped -/
theorem val_sk {m : Mm} (hA : stepsAt o m S) {top : Int32} (ht : ¬ (128 : Int32) ≤ top) : ∀ (s pre post : List LSt) (N : Nat), S = pre ++ (s ++ post) → (∀ q ∈ s, okS q) → DX5_value_7 (N + s.length) o top 1 (nI pre.length) m = DX5_value_7 N o top 1 (nI (pre.length + s.length)) m
  | [], pre, post, N, _, _ => rfl
  | q :: s, pre, post, N, hS, hok => by
    have eg : S.getD pre.length (0, 0) = q := by rw [hS, List.cons_append]; exact getD_mid
    have hlen : pre.length < S.length := by rw [hS]; simp
    have hq := hok q (List.mem_cons_self)
    have h59 : ¬ q.1 = 59 := by
      rcases hq with h | h | h | h | h
      · omega
      · omega
      · omega
      · omega
      · intro z; rw [z] at h; exact absurd h (by decide)
    have := val_skip hA (N := N + s.length) (top := top) ht hlen (by rw [eg]; exact okS_lt hq)
    rw [eg, if_neg h59] at this
    rw [show N + (q :: s).length = N + s.length + 1 from rfl, this]
    have := val_sk hA ht s (pre ++ [q]) post N (by rw [hS]; simp) (fun z hz => hok z (List.mem_cons_of_mem _ hz))
    simp only [List.length_append, List.length_singleton] at this
    rw [this]
    congr 2
    simp; omega
/-- a line's end: the top of the stack -/
theorem val_end {m : Mm} (hA : stepsAt o m S) {a N : Nat} {v : Int32} (ha : a < S.length) (hq : S.getD a (0, 0) = (59, 0)) (hk : Stk o m [v]) : DX5_value_7 (N + 1) o (nI 1) 0 (nI a) m = some (v, m) := by
  have h128 := hA.1
  have e1 : (nI S.length).toInt = S.length := nI_toInt (by omega)
  have e2 : (nI a).toInt = a := nI_toInt (by omega)
  have s1 := (hA.2.2 a ha).1
  rw [hq] at s1
  have hv := Stk_hd hk
  show BX5_value_7 (DX5_value_7 N) o (nI 1) 0 (nI a) m = _
  unfold BX5_value_7 DX5_value_128
  rw [hA.2.1, if_neg (by rw [toI_le, e1, e2]; omega), if_neg (show ¬ (128 : Int32) ≤ nI 1 by decide), if_pos (inB_nI (by omega) (by omega)), if_pos rfl]
  simp only [nI_clamp (show a < 2 ^ 31 by omega), s1]
  rw [if_neg (by decide), if_neg (by decide), if_pos (by decide), if_pos (by decide), if_pos (by decide)]
  exact congrArg (fun z => some (z, m)) hv
theorem val_test {m : Mm} (hA : stepsAt o m S) {a N : Nat} {v : Int32} (ha : a < S.length) (hq : S.getD a (0, 0) = (63, 0)) (hk : Stk o m [v]) : DX5_value_7 (N + 1) o (nI 1) 0 (nI a) m = DX5_value_7 N o (nI 0) (if v = 0 then 1 else 0) (nI (a + 1)) m := by
  have h128 := hA.1
  have e1 : (nI S.length).toInt = S.length := nI_toInt (by omega)
  have e2 : (nI a).toInt = a := nI_toInt (by omega)
  have s1 := (hA.2.2 a ha).1
  rw [hq] at s1
  have hv : gI m (o + 3) 0 = v := Stk_hd hk
  show BX5_value_7 (DX5_value_7 N) o (nI 1) 0 (nI a) m = _
  unfold BX5_value_7 DX5_value_128 DX5_value_175 DX5_value_276
  rw [hA.2.1, if_neg (by rw [toI_le, e1, e2]; omega), if_neg (show ¬ (128 : Int32) ≤ nI 1 by decide), if_pos (inB_nI (by omega) (by omega)), if_pos rfl]
  simp only [nI_clamp (show a < 2 ^ 31 by omega), s1]
  rw [if_neg (by decide), if_neg (by decide), if_pos (by decide), if_neg (by decide), if_pos (by decide), if_pos (by decide), nI_1]
  have e0 : gI m (o + 3) (nI 1 + (-1)).toNatClampNeg = v := hv
  rw [e0]
  by_cases hz : v = 0
  · rw [if_pos hz, if_pos hz]; rfl
  · rw [if_neg hz, if_neg hz]; rfl
theorem val_l (ho : isLa o) : ∀ (ls : List LLn) (pre : List LSt) (m : Mm) (N : Nat), S = pre ++ flT ls → stepsAt o m S → (∀ ln ∈ ls, GdL ln) → ∃ m2, DX5_value_7 (N + (flT ls).length + 1) o (nI 0) 0 (nI pre.length) m = some (evL (gI m 14) ls, m2) ∧ ch (P1 (o + 3)) m m2
  | [], pre, m, N, hS, hA, hg => by
    have h128 := hA.1
    refine ⟨m, ?_, ch.rf⟩
    show BX5_value_7 (DX5_value_7 N) o (nI 0) 0 (nI pre.length) m = _
    unfold BX5_value_7
    have : S.length = pre.length := by rw [hS]; simp [flT]
    rw [hA.2.1, this, if_pos (Int32.le_refl _)]
    rfl
  | ln :: r, pre, m, N, hS, hA, hg => by
    have h128 := hA.1
    have g := hg ln (List.mem_cons_self)
    have p14 : ∀ k, P1 (o + 3) 14 k = false := fun k => by rcases ho with rfl | rfl <;> rfl
    have hnil : ∀ m', Stk o m' [] := fun m' i hi => by simp at hi
    rw [evL_cons]
    obtain ⟨c, e⟩ := ln
    cases c with
    | none =>
      have hS2 : S = pre ++ (e ++ ([(59, 0)] ++ flT r)) := by rw [hS]; simp [flT, flL1]
      obtain ⟨m2, x1, x2, x3, x4⟩ := val_s ho e pre ([(59, 0)] ++ flT r) m (N + (flT r).length + 1 + 1) 1 [] hS2 hA g.1.1 (g.1.2.2 0) (by simp) (hnil m)
      rw [g.1.2.1] at x3
      have eg : S.getD (pre.length + e.length) (0, 0) = (59, 0) := by
        have := getD_mid (pre := pre ++ e) (post := flT r) (q := (59, 0))
        rw [hS2]
        simpa using this
      have hlen : pre.length + e.length < S.length := by rw [hS2]; simp
      have hend := val_end (hA.ch3 ho x4) (N := N + (flT r).length + 1) hlen eg x3
      refine ⟨m2, ?_, x4⟩
      have el : (flT ((none, e) :: r)).length = e.length + 1 + (flT r).length := by simp [flT, flL1]; omega
      rw [el, show N + (e.length + 1 + (flT r).length) + 1 = N + (flT r).length + 1 + 1 + e.length by omega]
      exact x1.trans hend
    | some c =>
      have gc := g.2 c rfl
      have hS2 : S = pre ++ (c ++ ([(63, 0)] ++ (e ++ ([(59, 0)] ++ flT r)))) := by rw [hS]; simp [flT, flL1]
      have el : (flT ((some c, e) :: r)).length = c.length + 1 + e.length + 1 + (flT r).length := by simp [flT, flL1]; omega
      obtain ⟨m2, x1, x2, x3, x4⟩ := val_s ho c pre _ m (N + (flT r).length + 1 + 1 + e.length + 1) 1 [] hS2 hA gc.1 (gc.2.2 0) (by simp) (hnil m)
      rw [gc.2.1] at x3
      have A2 := hA.ch3 ho x4
      have en : gI m2 14 = gI m 14 := funext fun k => x4.I (p14 k)
      have eg : S.getD (pre.length + c.length) (0, 0) = (63, 0) := by
        have := getD_mid (pre := pre ++ c) (post := e ++ ([(59, 0)] ++ flT r)) (q := (63, 0))
        rw [hS2]
        simpa using this
      have hlen : pre.length + c.length < S.length := by rw [hS2]; simp
      have htest := val_test A2 (N := N + (flT r).length + 1 + 1 + e.length) hlen eg x3
      have hS3 : S = (pre ++ c ++ [(63, 0)]) ++ (e ++ ([(59, 0)] ++ flT r)) := by rw [hS2]; simp
      have hl3 : (pre ++ c ++ [(63, 0)]).length = pre.length + c.length + 1 := by simp; omega
      have eg2 : S.getD (pre.length + c.length + 1 + e.length) (0, 0) = (59, 0) := by
        have := getD_mid (pre := pre ++ c ++ [(63, 0)] ++ e) (post := flT r) (q := (59, 0))
        rw [hS2]
        have hl : (pre ++ c ++ [(63, 0)] ++ e).length = pre.length + c.length + 1 + e.length := by simp; omega
        rw [hl] at this
        simpa using this
      have hlen2 : pre.length + c.length + 1 + e.length < S.length := by rw [hS2]; simp; omega
      have e0 : DX5_value_7 (N + (flT ((some c, e) :: r)).length + 1) o (nI 0) 0 (nI pre.length) m = DX5_value_7 (N + (flT r).length + 1 + 1 + e.length) o (nI 0) (if vaS (gI m 14) c = 0 then 1 else 0) (nI (pre.length + c.length + 1)) m2 := by
        rw [el, show N + (c.length + 1 + e.length + 1 + (flT r).length) + 1 = N + (flT r).length + 1 + 1 + e.length + 1 + c.length by omega]
        exact x1.trans htest
      rw [e0]
      by_cases hz : vaS (gI m 14) c = 0
      · have hst : stL (gI m 14) none (some c, e) = none := by unfold stL; simp only [hz, if_true]
        rw [hst, if_pos hz]
        have hsk := val_sk A2 (top := nI 0) (by decide) e (pre ++ c ++ [(63, 0)]) ([(59, 0)] ++ flT r) (N + (flT r).length + 1 + 1) hS3 g.1.1
        rw [hl3] at hsk
        have hs59 := val_skip A2 (N := N + (flT r).length + 1) (top := nI 0) (by decide) hlen2 (by rw [eg2]; omega)
        rw [eg2, if_pos rfl] at hs59
        rw [hsk, hs59]
        have hS4 : S = (pre ++ c ++ [(63, 0)] ++ e ++ [(59, 0)]) ++ flT r := by rw [hS2]; simp
        have hl4 : (pre ++ c ++ [(63, 0)] ++ e ++ [(59, 0)]).length = pre.length + c.length + 1 + e.length + 1 := by simp; omega
        obtain ⟨m3, y1, y2⟩ := val_l ho r (pre ++ c ++ [(63, 0)] ++ e ++ [(59, 0)]) m2 N hS4 A2 (fun l hl => hg l (List.mem_cons_of_mem _ hl))
        rw [hl4, en] at y1
        exact ⟨m3, y1, x4.tr y2⟩
      · have hst : stL (gI m 14) none (some c, e) = some (vaS (gI m 14) e) := by unfold stL; simp only [if_neg hz]
        rw [hst, if_neg hz]
        obtain ⟨m3, y1, y2, y3, y4⟩ := val_s ho e (pre ++ c ++ [(63, 0)]) ([(59, 0)] ++ flT r) m2 (N + (flT r).length + 1 + 1) 1 [] hS3 A2 g.1.1 (g.1.2.2 0) (by simp) (hnil m2)
        rw [g.1.2.1, en] at y3
        rw [hl3] at y1
        have hend := val_end (A2.ch3 ho y4) (N := N + (flT r).length + 1) hlen2 eg2 y3
        exact ⟨m3, y1.trans hend, x4.tr y4⟩
theorem value_x (ho : isLa o) {ls : List LLn} {m : Mm} (hA : stepsAt o m (flT ls)) (hg : ∀ ln ∈ ls, GdL ln) : ∃ m2, dX5_value o m = some (evL (gI m 14) ls, m2) ∧ ch PV m m2 := by
  have h128 := hA.1
  unfold dX5_value
  rw [if_pos (pLa ho)]
  obtain ⟨N, hN⟩ : ∃ N, FU = N + (flT ls).length + 1 := ⟨40000 - ((flT ls).length + 1), by unfold FU; omega⟩
  obtain ⟨m2, x1, x2⟩ := val_l (S := flT ls) ho ls [] m N rfl hA hg
  rw [hN]
  refine ⟨m2, x1, x2.up (up_of fun a k h => ?_)⟩
  unfold P1 at h
  simp only [beq_iff_eq] at h
  subst h
  unfold PV
  rcases ho with rfl | rfl <;> rfl
end LAWV
