/-! ===== the tables: goods, sacks, buyers, of class and reference ===== -/
def Js (mm : Mm) (s b : Nat) : Prop := s ≤ 10 ∧ b ≤ 6 ∧ gI mm 1 2 = nI s ∧ gI mm 1 3 = nI b ∧ gI mm 58 6 = nI s ∧ gI mm 58 7 = nI b
def Jg (mm : Mm) : Prop := ∀ w g : Nat, w < 4 → g < 6 → gI mm 59 (6 * w + g) = gI mm (3 + w) g ∧ 0 ≤ (gI mm (3 + w) g).toInt ∧ (gI mm (3 + w) g).toInt ≤ 99 ∧ (0 < w → (gI mm (3 + w) g).toInt ≤ 3)
def Jk (mm : Mm) (s b : Nat) : Prop := ∀ k : Nat, k < s → (gI mm 59 (24 + k) = gI mm 7 k ∧ 0 ≤ (gI mm 7 k).toInt ∧ (gI mm 7 k).toInt ≤ 5) ∧ (gI mm 59 (34 + k) = gI mm 8 k ∧ 0 ≤ (gI mm 8 k).toInt ∧ (gI mm 8 k).toInt ≤ 99) ∧ (gI mm 63 k = gI mm 12 k ∧ -1 ≤ (gI mm 12 k).toInt ∧ (gI mm 12 k).toInt < b) ∧ gI mm 64 k = gI mm 13 k ∧ (gI mm 13 k = 0 ∨ gI mm 13 k = 1)
def Jo (mm : Mm) (s : Nat) : Prop := ∀ k : Nat, s ≤ k → k < 10 → gI mm 64 k = 0
def Jb (mm : Mm) (b : Nat) : Prop := ∀ k : Nat, k < b → (gI mm 59 (44 + k) = gI mm 9 k ∧ 0 ≤ (gI mm 9 k).toInt ∧ (gI mm 9 k).toInt ≤ 999) ∧ (gI mm 59 (50 + k) = gI mm 10 k ∧ 0 ≤ (gI mm 10 k).toInt ∧ (gI mm 10 k).toInt ≤ 6) ∧ gI mm 59 (56 + k) = gI mm 11 k ∧ 1 ≤ (gI mm 11 k).toInt ∧ (gI mm 11 k).toInt ≤ 11
def Jt (mm : Mm) (s b : Nat) : Prop := Js mm s b ∧ Jg mm ∧ Jk mm s b ∧ Jo mm s ∧ Jb mm b
abbrev hd (s b : Nat) (w k : Int) : Prop := (0 ≤ w ∧ w < 4 ∧ 0 ≤ k ∧ k < 6) ∨ ((w = 4 ∨ w = 5 ∨ w = 9 ∨ w = 10) ∧ 0 ≤ k ∧ k < (s : Int)) ∨ (6 ≤ w ∧ w ≤ 8 ∧ 0 ≤ k ∧ k < (b : Int))
section TAB
variable {mm : Mm} {s b : Nat}
theorem Js.s10 (h : Js mm s b) : s ≤ 10 := h.1
theorem Js.b6 (h : Js mm s b) : b ≤ 6 := h.2.1
theorem Js.cs (h : Js mm s b) : (gI mm 1 2).toInt = s := by rw [h.2.2.1]; exact nI_toInt (by have := h.1; omega)
theorem Js.cb (h : Js mm s b) : (gI mm 1 3).toInt = b := by rw [h.2.2.2.1]; exact nI_toInt (by have := h.2.1; omega)
theorem Js.rs (h : Js mm s b) : (gI mm 58 6).toInt = s := by rw [h.2.2.2.2.1]; exact nI_toInt (by have := h.1; omega)
theorem Js.rb (h : Js mm s b) : (gI mm 58 7).toInt = b := by rw [h.2.2.2.2.2]; exact nI_toInt (by have := h.2.1; omega)
theorem holds_x (J : Js mm s b) {w k : Int32} : dX7_holds w k mm = some (b01 (hd s b w.toInt k.toInt), mm) := by
  have h1 := J.cs; have h2 := J.cb; have h3 := J.s10; have h4 := J.b6
  unfold dX7_holds DX7_holds_14 DX7_holds_53 DX7_holds_57
  simp only [toI_lt, toI_le, Int32.reduceToInt, h1, h2]
  by_cases h : hd s b w.toInt k.toInt
  · rw [b01_t h]
    repeat' split
    all_goals first | rfl | (exfalso; omega)
  · rw [b01_f h]
    repeat' split
    all_goals first | rfl | (exfalso; omega)
theorem told_x (J : Js mm s b) {w k : Int32} {wn kn : Nat} (hw : w.toInt = wn) (hk : k.toInt = kn) (h : hd s b wn kn) : dX7_told w k mm = some (gI mm (3 + wn) kn, mm) := by
  have h3 := J.s10; have h4 := J.b6
  unfold dX7_told
  rw [holds_x J, Option.bind_some, hw, hk, b01_t h, if_neg (show ¬ (1 : Int32) = 0 by decide), if_pos (inB_iff.mpr (by rw [hw]; omega)), if_pos (inB_iff.mpr (by rw [hk]; omega)), clampN, clampN, hw, hk]
  rfl
theorem told_bad (J : Js mm s b) {w k : Int32} (h : ¬ hd s b w.toInt k.toInt) : dX7_told w k mm = some (0, mm) := by
  unfold dX7_told
  rw [holds_x J, Option.bind_some, b01_f h, if_pos rfl]
theorem set_x (J : Js mm s b) {w k v : Int32} {wn kn : Nat} (hw : w.toInt = wn) (hk : k.toInt = kn) (h : hd s b wn kn) : dX7_set w k v mm = some ((), sI mm (3 + wn) kn v) := by
  have h3 := J.s10; have h4 := J.b6
  unfold dX7_set
  rw [holds_x J, Option.bind_some, hw, hk, b01_t h, if_neg (show ¬ (1 : Int32) = 0 by decide), if_pos (inB_iff.mpr (by rw [hw]; omega)), if_pos (inB_iff.mpr (by rw [hk]; omega)), clampN, clampN, hw, hk]
  rfl
theorem isOpen_x (J : Js mm s b) {k : Int32} {kn : Nat} (hk : k.toInt = kn) (h : kn < s) : dX7_isOpen k mm = some (b01 (gI mm 13 kn = 1), mm) := by
  unfold dX7_isOpen
  rw [told_x J (wn := 10) (by simp) hk (Or.inr (Or.inl (by omega))), Option.bind_some]
  dsimp only [Nat.reduceAdd]
  unfold b01
  split <;> rfl
theorem isFree_x (J : Js mm s b) {k : Int32} {kn : Nat} (hk : k.toInt = kn) (h : kn < s) : dX7_isFree k mm = some (b01 ((gI mm 12 kn).toInt < 0 ∧ ¬ gI mm 13 kn = 1), mm) := by
  unfold dX7_isFree DX7_isFree_22
  rw [told_x J (wn := 9) (by simp) hk (Or.inr (Or.inl (by omega))), Option.bind_some]
  dsimp only [Nat.reduceAdd]
  rw [isOpen_x J hk h, Option.bind_some]
  simp only [b01_0, toI_le, Int32.reduceToInt]
  by_cases h1 : (gI mm 12 kn).toInt < 0
  · rw [if_neg (by omega)]
    by_cases h2 : gI mm 13 kn = 1
    · rw [if_neg (by simp [h2]), b01_f (by simp [h2])]
    · rw [if_pos h2, b01_t ⟨h1, h2⟩]
  · rw [if_pos (by omega), b01_f (fun q => h1 q.1)]
theorem i64 {x : Int32} : (Int32.toInt64 x).toInt = x.toInt := Int32.toInt_toInt64 x
theorem isGood_m {v : Int64} : dX10_isGood v mm = some (b01 (0 ≤ v.toInt ∧ v.toInt ≤ 5), mm) := by
  unfold dX10_isGood
  rw [within_m, Option.bind_some]; rfl
theorem isShelf_m {v : Int32} : dX10_isShelf v mm = some (b01 (0 ≤ v.toInt ∧ v.toInt < 6), mm) := by
  unfold dX10_isShelf
  rw [within_m, Option.bind_some, i64]
  have e : (0 ≤ v.toInt ∧ v.toInt < 6) = ((0 : Int64).toInt ≤ v.toInt ∧ v.toInt ≤ (5 : Int64).toInt) := propext (by simp; omega)
  simp only [e]
theorem isSack_m (J : Js mm s b) {v : Int64} : dX10_isSack v mm = some (b01 (0 ≤ v.toInt ∧ v.toInt < s), mm) := by
  have h1 := J.rs; have h2 := J.s10
  unfold dX10_isSack
  rw [within_m, Option.bind_some, i64, iSub (by simp; omega) (by simp; omega), h1]
  have e : (0 ≤ v.toInt ∧ v.toInt < (s : Int)) = ((0 : Int64).toInt ≤ v.toInt ∧ v.toInt ≤ (s : Int) - (1 : Int32).toInt) := propext (by simp; omega)
  simp only [e]
theorem isBuyer_m (J : Js mm s b) {v : Int64} : dX10_isBuyer v mm = some (b01 (0 ≤ v.toInt ∧ v.toInt < b), mm) := by
  have h1 := J.rb; have h2 := J.b6
  unfold dX10_isBuyer
  rw [within_m, Option.bind_some, i64, iSub (by simp; omega) (by simp; omega), h1]
  have e : (0 ≤ v.toInt ∧ v.toInt < (b : Int)) = ((0 : Int64).toInt ≤ v.toInt ∧ v.toInt ≤ (b : Int) - (1 : Int32).toInt) := propext (by simp; omega)
  simp only [e]
theorem isFree_m (J : Jt mm s b) {k : Int32} {kn : Nat} (hk : k.toInt = kn) (h : kn < s) : dX10_isFree k mm = some (b01 ((gI mm 12 kn).toInt < 0 ∧ ¬ gI mm 13 kn = 1), mm) := by
  have h2 := J.1.s10
  obtain ⟨-, -, ⟨e1, -⟩, e2, e3⟩ := J.2.2.1 kn h
  have hi : inB k 10 := inB_iff.mpr (by omega)
  unfold dX10_isFree DX10_isFree_22
  rw [if_pos hi, if_pos hi, clampN, hk, Int.toNat_natCast, e1, e2]
  simp only [toI_le, Int32.reduceToInt]
  by_cases h1 : (gI mm 12 kn).toInt < 0
  · rw [if_neg (by omega)]
    rcases e3 with e3 | e3
    · rw [if_pos e3, b01_t ⟨h1, by rw [e3]; decide⟩]
    · rw [if_neg (by rw [e3]; decide), b01_f (by simp [e3])]
  · rw [if_pos (by omega), b01_f (fun q => h1 q.1)]
/-- a number 10 times one, and another -/
theorem dv10 {v : Int32} (h : 0 ≤ v.toInt) : (v / 10).toInt = v.toInt / 10 := by rw [iDiv h (by decide)]; rfl
theorem rm10 {v : Int32} (h : 0 ≤ v.toInt) : (iRem v 10).toInt = v.toInt % 10 := by rw [iRem_toInt h (by decide)]; rfl
theorem isBs_x (J : Js mm s b) {v : Int32} : dX9_isBuyerAndSack v mm = some (b01 (0 ≤ v.toInt ∧ v.toInt / 10 < b ∧ v.toInt % 10 < s), mm) := by
  unfold dX9_isBuyerAndSack DX9_isBuyerAndSack_39
  simp only [holds_x J, Option.bind_some, toI_lt, Int32.reduceToInt, b01_0]
  by_cases h0 : 0 ≤ v.toInt
  · rw [dv10 h0, rm10 h0, if_neg (by omega)]
    by_cases h : 0 ≤ v.toInt ∧ v.toInt / 10 < b ∧ v.toInt % 10 < s
    · rw [b01_t h, if_neg (by omega), if_neg (by omega)]
    · rw [b01_f h]
      repeat' split
      all_goals first | rfl | (exfalso; omega)
  · rw [if_pos (by omega), b01_f (by omega)]
theorem isBs_m (J : Js mm s b) {v : Int32} : dX10_isBs v mm = some (b01 (0 ≤ v.toInt ∧ v.toInt / 10 < b ∧ v.toInt % 10 < s), mm) := by
  unfold dX10_isBs DX10_isBs_32
  simp only [isBuyer_m J, isSack_m J, Option.bind_some, toI_lt, Int32.reduceToInt, b01_0, i64]
  by_cases h0 : 0 ≤ v.toInt
  · rw [dv10 h0, rm10 h0, if_neg (by omega)]
    by_cases h : 0 ≤ v.toInt ∧ v.toInt / 10 < b ∧ v.toInt % 10 < s
    · rw [b01_t h, if_neg (by omega), if_neg (by omega)]
    · rw [b01_f h]
      repeat' split
      all_goals first | rfl | (exfalso; omega)
  · rw [if_pos (by omega), b01_f (by omega)]
theorem isSg_x (J : Js mm s b) {v : Int32} : dX9_isSackAndGood v mm = some (b01 (0 ≤ v.toInt ∧ v.toInt / 10 < s ∧ v.toInt % 10 < 6), mm) := by
  unfold dX9_isSackAndGood DX9_isSackAndGood_38
  simp only [holds_x J, Option.bind_some, toI_lt, Int32.reduceToInt, b01_0]
  by_cases h0 : 0 ≤ v.toInt
  · rw [dv10 h0, rm10 h0, if_neg (by omega)]
    by_cases h : 0 ≤ v.toInt ∧ v.toInt / 10 < s ∧ v.toInt % 10 < 6
    · rw [b01_t h, if_neg (by omega), if_neg (by omega)]
    · rw [b01_f h]
      repeat' split
      all_goals first | rfl | (exfalso; omega)
  · rw [if_pos (by omega), b01_f (by omega)]
end TAB
