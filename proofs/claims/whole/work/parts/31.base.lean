/-! ===== the pure part: numbers, memory, frames ===== -/
theorem toI_lt {x y : Int32} : x < y ↔ x.toInt < y.toInt := Int32.lt_iff_toInt_lt
theorem toI_le {x y : Int32} : x ≤ y ↔ x.toInt ≤ y.toInt := Int32.le_iff_toInt_le
theorem toI_eq {x y : Int32} : x = y ↔ x.toInt = y.toInt := Int32.toInt_inj.symm
theorem toL_lt {x y : Int64} : x < y ↔ x.toInt < y.toInt := Int64.lt_iff_toInt_lt
theorem toL_le {x y : Int64} : x ≤ y ↔ x.toInt ≤ y.toInt := Int64.le_iff_toInt_le
theorem toL_eq {x y : Int64} : x = y ↔ x.toInt = y.toInt := Int64.toInt_inj.symm
theorem iAdd {a b : Int32} (h1 : -2147483648 ≤ a.toInt + b.toInt) (h2 : a.toInt + b.toInt < 2147483648) : (a + b).toInt = a.toInt + b.toInt := by
  rw [Int32.toInt_add]; exact Int.bmod_eq_of_le (by omega) (by omega)
theorem iSub {a b : Int32} (h1 : -2147483648 ≤ a.toInt - b.toInt) (h2 : a.toInt - b.toInt < 2147483648) : (a - b).toInt = a.toInt - b.toInt := by
  rw [Int32.toInt_sub]; exact Int.bmod_eq_of_le (by omega) (by omega)
theorem iMul {a b : Int32} (h1 : -2147483648 ≤ a.toInt * b.toInt) (h2 : a.toInt * b.toInt < 2147483648) : (a * b).toInt = a.toInt * b.toInt := by
  rw [Int32.toInt_mul]; exact Int.bmod_eq_of_le (by omega) (by omega)
theorem lAdd {a b : Int64} (h1 : -9223372036854775808 ≤ a.toInt + b.toInt) (h2 : a.toInt + b.toInt < 9223372036854775808) : (a + b).toInt = a.toInt + b.toInt := by
  rw [Int64.toInt_add]; exact Int.bmod_eq_of_le (by omega) (by omega)
theorem lSub {a b : Int64} (h1 : -9223372036854775808 ≤ a.toInt - b.toInt) (h2 : a.toInt - b.toInt < 9223372036854775808) : (a - b).toInt = a.toInt - b.toInt := by
  rw [Int64.toInt_sub]; exact Int.bmod_eq_of_le (by omega) (by omega)
theorem lMul {a b : Int64} (h1 : -9223372036854775808 ≤ a.toInt * b.toInt) (h2 : a.toInt * b.toInt < 9223372036854775808) : (a * b).toInt = a.toInt * b.toInt := by
  rw [Int64.toInt_mul]; exact Int.bmod_eq_of_le (by omega) (by omega)
theorem iDiv {a b : Int32} (h1 : 0 ≤ a.toInt) (h2 : 0 < b.toInt) : (a / b).toInt = a.toInt / b.toInt := by
  rw [Int32.toInt_div_of_ne_right a b (fun h => by rw [h] at h2; exact absurd h2 (by decide)), Int.tdiv_eq_ediv_of_nonneg h1]
theorem lDiv {a b : Int64} (h1 : 0 ≤ a.toInt) (h2 : 0 < b.toInt) : (a / b).toInt = a.toInt / b.toInt := by
  rw [Int64.toInt_div_of_ne_right a b (fun h => by rw [h] at h2; exact absurd h2 (by decide)), Int.tdiv_eq_ediv_of_nonneg h1]
theorem iRem_toInt {a b : Int32} (h1 : 0 ≤ a.toInt) (h2 : 0 < b.toInt) : (iRem a b).toInt = a.toInt % b.toInt := by
  have e1 := iDiv h1 h2
  have h3 : a.toInt / b.toInt * b.toInt ≤ a.toInt := Int.ediv_mul_le _ (by omega)
  have h4 : 0 ≤ a.toInt / b.toInt * b.toInt := Int.mul_nonneg (Int.ediv_nonneg h1 (by omega)) (by omega)
  have h5 := a.toInt_lt
  have e2 : (a / b * b).toInt = a.toInt / b.toInt * b.toInt := by rw [iMul (by rw [e1]; omega) (by rw [e1]; omega), e1]
  unfold iRem
  rw [iSub (by rw [e2]; omega) (by rw [e2]; omega), e2]
  have := Int.mul_ediv_add_emod a.toInt b.toInt
  rw [Int.mul_comm] at this
  omega
theorem lRem_toInt {a b : Int64} (h1 : 0 ≤ a.toInt) (h2 : 0 < b.toInt) : (lRem a b).toInt = a.toInt % b.toInt := by
  have e1 := lDiv h1 h2
  have h3 : a.toInt / b.toInt * b.toInt ≤ a.toInt := Int.ediv_mul_le _ (by omega)
  have h4 : 0 ≤ a.toInt / b.toInt * b.toInt := Int.mul_nonneg (Int.ediv_nonneg h1 (by omega)) (by omega)
  have h5 := a.toInt_lt
  have e2 : (a / b * b).toInt = a.toInt / b.toInt * b.toInt := by rw [lMul (by rw [e1]; omega) (by rw [e1]; omega), e1]
  unfold lRem
  rw [lSub (by rw [e2]; omega) (by rw [e2]; omega), e2]
  have := Int.mul_ediv_add_emod a.toInt b.toInt
  rw [Int.mul_comm] at this
  omega
theorem inB_iff {i : Int32} {n : Nat} : inB i n ↔ 0 ≤ i.toInt ∧ i.toInt < n := by
  have e : i.toNatClampNeg = i.toInt.toNat := rfl
  unfold inB
  rw [e, toI_lt, show (0 : Int32).toInt = 0 from rfl]
  omega
theorem inB_nI {i n : Nat} (h : i < n) (hn : n < 2147483648) : inB (nI i) n := vp_in_nI h (by omega)
theorem nI_of_toInt {x : Int32} {n : Nat} (h : x.toInt = n) : x = nI n := by
  have := x.toInt_lt
  exact Int32.toInt_inj.mp (by rw [h, nI_toInt (by omega)])
theorem nI_get {x : Int32} (h : 0 ≤ x.toInt) : ∃ n : Nat, n < 2147483648 ∧ x = nI n ∧ x.toInt = n := by
  have := x.toInt_lt
  exact ⟨x.toInt.toNat, by omega, nI_of_toInt (by omega), by omega⟩
theorem clampN {x : Int32} : x.toNatClampNeg = x.toInt.toNat := rfl
/-- reads behind writes -/
theorem gI_sI {m : Mm} {o k a b : Nat} {v : Int32} : gI (sI m o k v) a b = if a = o ∧ b = k then v else gI m a b := rfl
theorem gL_sI {m : Mm} {o k a b : Nat} {v : Int32} : gL (sI m o k v) a b = gL m a b := rfl
theorem gR_sI {m : Mm} {o k a b : Nat} {v : Int32} : gR (sI m o k v) a b = gR m a b := rfl
theorem gI_sL {m : Mm} {o k a b : Nat} {v : Int64} : gI (sL m o k v) a b = gI m a b := rfl
theorem gL_sL {m : Mm} {o k a b : Nat} {v : Int64} : gL (sL m o k v) a b = if a = o ∧ b = k then v else gL m a b := rfl
theorem gR_sL {m : Mm} {o k a b : Nat} {v : Int64} : gR (sL m o k v) a b = gR m a b := rfl
theorem gI_sR {m : Mm} {o k a b v : Nat} : gI (sR m o k v) a b = gI m a b := rfl
theorem gL_sR {m : Mm} {o k a b v : Nat} : gL (sR m o k v) a b = gL m a b := rfl
theorem gR_sR {m : Mm} {o k a b v : Nat} : gR (sR m o k v) a b = if a = o ∧ b = k then v else gR m a b := rfl
theorem gI_flI {m : Mm} {o n a b : Nat} {v : Int32} : gI (flI m o n v) a b = if a = o then (if b < n then v else gI m o b) else gI m a b := rfl
theorem gL_flI {m : Mm} {o n a b : Nat} {v : Int32} : gL (flI m o n v) a b = gL m a b := rfl
theorem gR_flI {m : Mm} {o n a b : Nat} {v : Int32} : gR (flI m o n v) a b = gR m a b := rfl
theorem gI_flL {m : Mm} {o n a b : Nat} {v : Int64} : gI (flL m o n v) a b = gI m a b := rfl
theorem gL_flL {m : Mm} {o n a b : Nat} {v : Int64} : gL (flL m o n v) a b = if a = o then (if b < n then v else gL m o b) else gL m a b := rfl
theorem gR_flL {m : Mm} {o n a b : Nat} {v : Int64} : gR (flL m o n v) a b = gR m a b := rfl
theorem gI_cpI {m : Mm} {o p a b : Nat} {i j w : Int32} : gI (cpI m o p i j w) a b = if a = p then va_cpy (gI m o) (gI m p) i.toNatClampNeg j.toNatClampNeg w.toNatClampNeg b else gI m a b := rfl
theorem gL_cpI {m : Mm} {o p a b : Nat} {i j w : Int32} : gL (cpI m o p i j w) a b = gL m a b := rfl
theorem gR_cpI {m : Mm} {o p a b : Nat} {i j w : Int32} : gR (cpI m o p i j w) a b = gR m a b := rfl
theorem gI_cpL {m : Mm} {o p a b : Nat} {i j w : Int32} : gI (cpL m o p i j w) a b = gI m a b := rfl
theorem gL_cpL {m : Mm} {o p a b : Nat} {i j w : Int32} : gL (cpL m o p i j w) a b = if a = p then va_cpy (gL m o) (gL m p) i.toNatClampNeg j.toNatClampNeg w.toNatClampNeg b else gL m a b := rfl
theorem gR_cpL {m : Mm} {o p a b : Nat} {i j w : Int32} : gR (cpL m o p i j w) a b = gR m a b := rfl
/-- what may have changed: the cells of P alone -/
def ch (P : Nat → Nat → Bool) (m m' : Mm) : Prop := ∀ o k, P o k = false → gI m' o k = gI m o k ∧ gL m' o k = gL m o k ∧ gR m' o k = gR m o k
theorem ch.rf {P : Nat → Nat → Bool} {m : Mm} : ch P m m := fun _ _ _ => ⟨rfl, rfl, rfl⟩
theorem ch.tr {P : Nat → Nat → Bool} {a b c : Mm} (h1 : ch P a b) (h2 : ch P b c) : ch P a c := fun o k h => by
  obtain ⟨x1, x2, x3⟩ := h1 o k h
  obtain ⟨y1, y2, y3⟩ := h2 o k h
  exact ⟨y1.trans x1, y2.trans x2, y3.trans x3⟩
theorem ch.up {P P' : Nat → Nat → Bool} {a b : Mm} (h : ch P a b) (hp : ∀ o k, P' o k = false → P o k = false) : ch P' a b := fun o k q => h o k (hp o k q)
theorem ch.I {P : Nat → Nat → Bool} {a b : Mm} (h : ch P a b) {o k : Nat} (q : P o k = false) : gI b o k = gI a o k := (h o k q).1
theorem ch.L {P : Nat → Nat → Bool} {a b : Mm} (h : ch P a b) {o k : Nat} (q : P o k = false) : gL b o k = gL a o k := (h o k q).2.1
theorem ch.R {P : Nat → Nat → Bool} {a b : Mm} (h : ch P a b) {o k : Nat} (q : P o k = false) : gR b o k = gR a o k := (h o k q).2.2
theorem ch.sI {P : Nat → Nat → Bool} {m : Mm} {o k : Nat} {v : Int32} (hp : P o k = true) : ch P m (sI m o k v) := fun a b h => by
  refine ⟨?_, rfl, rfl⟩
  rw [gI_sI]
  by_cases q : a = o ∧ b = k
  · obtain ⟨rfl, rfl⟩ := q; rw [hp] at h; cases h
  · rw [if_neg q]
theorem ch.sL {P : Nat → Nat → Bool} {m : Mm} {o k : Nat} {v : Int64} (hp : P o k = true) : ch P m (sL m o k v) := fun a b h => by
  refine ⟨rfl, ?_, rfl⟩
  rw [gL_sL]
  by_cases q : a = o ∧ b = k
  · obtain ⟨rfl, rfl⟩ := q; rw [hp] at h; cases h
  · rw [if_neg q]
theorem ch.sR {P : Nat → Nat → Bool} {m : Mm} {o k v : Nat} (hp : P o k = true) : ch P m (sR m o k v) := fun a b h => by
  refine ⟨rfl, rfl, ?_⟩
  rw [gR_sR]
  by_cases q : a = o ∧ b = k
  · obtain ⟨rfl, rfl⟩ := q; rw [hp] at h; cases h
  · rw [if_neg q]
theorem ch.flL {P : Nat → Nat → Bool} {m : Mm} {o n : Nat} {v : Int64} (hp : ∀ k, k < n → P o k = true) : ch P m (flL m o n v) := fun a b h => by
  refine ⟨rfl, ?_, rfl⟩
  rw [gL_flL]
  by_cases q : a = o
  · subst q
    by_cases q2 : b < n
    · rw [hp b q2] at h; cases h
    · rw [if_pos rfl, if_neg q2]
  · rw [if_neg q]
theorem ch.flI {P : Nat → Nat → Bool} {m : Mm} {o n : Nat} {v : Int32} (hp : ∀ k, k < n → P o k = true) : ch P m (flI m o n v) := fun a b h => by
  refine ⟨?_, rfl, rfl⟩
  rw [gI_flI]
  by_cases q : a = o
  · subst q
    by_cases q2 : b < n
    · rw [hp b q2] at h; cases h
    · rw [if_pos rfl, if_neg q2]
  · rw [if_neg q]
/-! ===== leaves that keep the memory ===== -/
def b01 (p : Prop) [Decidable p] : Int32 := if p then 1 else 0
theorem b01_t {p : Prop} [Decidable p] (h : p) : b01 p = 1 := if_pos h
theorem b01_f {p : Prop} [Decidable p] (h : ¬ p) : b01 p = 0 := if_neg h
theorem b01_0 {p : Prop} [Decidable p] : b01 p = 0 ↔ ¬ p := by
  unfold b01; by_cases h : p
  · simp [h]
  · simp [h]
theorem within_m {v a b : Int64} {mm : Mm} : dX10_within v a b mm = some (b01 (a.toInt ≤ v.toInt ∧ v.toInt ≤ b.toInt), mm) := by
  unfold dX10_within DX10_within_17
  simp only [toL_lt]
  by_cases h : a.toInt ≤ v.toInt ∧ v.toInt ≤ b.toInt
  · rw [b01_t h, if_neg (by omega), if_neg (by omega)]
  · rw [b01_f h]
    split
    · rfl
    · rw [if_pos (by omega)]
theorem isShelf_x {v : Int32} {mm : Mm} : dX9_isShelf v mm = some (b01 (0 ≤ v.toInt ∧ v.toInt < 6), mm) := by
  unfold dX9_isShelf DX9_isShelf_14
  simp only [toI_lt, toI_le, Int32.reduceToInt]
  by_cases h : 0 ≤ v.toInt ∧ v.toInt < 6
  · rw [b01_t h, if_neg (by omega), if_neg (by omega)]
  · rw [b01_f h]
    repeat' split
    all_goals first | rfl | (exfalso; omega)
theorem isPart_x {v : Int32} {mm : Mm} : dX9_isPart v mm = some (b01 (0 ≤ v.toInt ∧ v.toInt ≤ 1), mm) := by
  unfold dX9_isPart
  simp only [toI_eq]
  by_cases h : 0 ≤ v.toInt ∧ v.toInt ≤ 1
  · rw [b01_t h]
    repeat' split
    all_goals first | rfl | (exfalso; simp at *; omega)
  · rw [b01_f h]
    repeat' split
    all_goals first | rfl | (exfalso; simp at *; omega)
