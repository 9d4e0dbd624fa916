/-! ===== the objects of this system, by number; facts of fields, arrays, calls; rules for the denotations ===== -/
def wsTab : List Shp := [
  .inl (9, [(2, 1), (2, 15), (2, 17), (2, 19), (2, 23), (2, 29), (2, 34), (2, 37)]),
  .inl (7, [(2, 2), (2, 14), (0, 0), (0, 0), (3, 0)]),
  .inr (5, 11, 3),
  .inr (0, 10, 0), .inr (0, 10, 0), .inr (0, 10, 0), .inr (0, 10, 0), .inr (0, 10, 0), .inr (0, 10, 0), .inr (0, 10, 0), .inr (0, 10, 0), .inr (0, 10, 0), .inr (0, 10, 0), .inr (0, 10, 0),
  .inr (0, 6, 0),
  .inl (6, [(2, 16), (3, 0), (0, 0), (0, 0), (0, 0)]),
  .inr (1, 120, 0),
  .inl (0, [(2, 1), (2, 18)]),
  .inr (3, 6, 0),
  .inl (2, [(2, 1), (2, 20), (2, 21), (2, 22), (0, 0), (0, 0)]),
  .inr (0, 10, 0), .inr (3, 64, 0), .inr (0, 6, 0),
  .inl (3, [(2, 1), (2, 24), (2, 25), (2, 26), (2, 27), (2, 28), (0, 0), (0, 0), (0, 0)]),
  .inr (0, 5, 0), .inr (0, 5, 0), .inr (0, 10, 0), .inr (0, 10, 0), .inr (0, 6, 0),
  .inl (1, [(2, 30), (2, 31), (2, 32), (2, 33), (0, 0), (0, 0)]),
  .inr (0, 40, 0), .inr (0, 40, 0), .inr (0, 40, 0), .inr (0, 40, 0),
  .inl (4, [(2, 35), (2, 36), (0, 0), (0, 0), (0, 0)]),
  .inr (0, 50, 0), .inr (0, 24, 0),
  .inr (4, 6, 38),
  .inl (8, [(2, 44), (0, 0), (0, 0), (0, 0), (0, 0)]), .inl (8, [(2, 45), (0, 0), (0, 0), (0, 0), (0, 0)]), .inl (8, [(2, 46), (0, 0), (0, 0), (0, 0), (0, 0)]), .inl (8, [(2, 47), (0, 0), (0, 0), (0, 0), (0, 0)]), .inl (8, [(2, 48), (0, 0), (0, 0), (0, 0), (0, 0)]), .inl (8, [(2, 49), (0, 0), (0, 0), (0, 0), (0, 0)]),
  .inr (3, 60, 0), .inr (3, 60, 0), .inr (3, 60, 0), .inr (3, 60, 0), .inr (3, 60, 0), .inr (3, 60, 0),
  .inl (5, [(2, 51), (2, 52), (2, 53), (0, 0)]), .inr (1, 128, 0), .inr (0, 128, 0), .inr (0, 128, 0),
  .inl (5, [(2, 55), (2, 56), (2, 57), (0, 0)]), .inr (1, 128, 0), .inr (0, 128, 0), .inr (0, 128, 0),
  .inl (10, [(2, 59), (2, 60), (2, 61), (2, 62), (0, 0), (0, 0), (0, 0), (0, 0), (2, 63), (2, 64), (2, 65), (0, 0), (2, 66), (0, 0), (0, 0), (0, 0), (0, 0), (0, 0), (0, 0), (2, 67), (2, 68), (2, 69), (2, 70), (2, 71), (2, 72), (0, 0), (0, 0), (0, 0), (2, 73), (2, 74), (2, 75), (2, 76), (0, 0), (2, 77), (2, 78), (0, 0), (0, 0), (0, 0), (2, 79), (2, 80), (2, 81), (2, 82)]),
  .inr (0, 62, 0), .inr (0, 40, 0), .inr (0, 40, 0), .inr (0, 40, 0), .inr (0, 10, 0), .inr (2, 10, 0), .inr (0, 120, 0), .inr (0, 120, 0), .inr (0, 6, 0), .inr (3, 6, 0), .inr (0, 10, 0), .inr (0, 7168, 0), .inr (0, 6, 0), .inr (0, 5, 0), .inr (0, 10, 0), .inr (2, 10, 0), .inr (0, 6, 0), .inr (0, 5, 0), .inr (0, 50, 0), .inr (0, 24, 0), .inr (0, 6, 0), .inr (0, 6, 0), .inr (3, 360, 0), .inr (3, 60, 0)]
def WS (o : Nat) : Shp := wsTab.getD o (.inr (0, 0, 0))
def WN : Nat := 83
def isSh (o : Nat) : Prop := 38 ≤ o ∧ o < 44
def isLa (o : Nat) : Prop := o = 50 ∨ o = 54
abbrev chkSh {α : Type} (o : Nat) (x : Option α) : Option α := if 38 ≤ o ∧ o < 44 then x else none
abbrev chkLa {α : Type} (o : Nat) (x : Option α) : Option α := if o = 50 ∨ o = 54 then x else none
def FU : Nat := 40000
def iRem (x y : Int32) : Int32 := x - x / y * y
def lRem (x y : Int64) : Int64 := x - x / y * y
def iShl (x y : Int32) : Int32 := x <<< (y &&& 31)
def iShr (x y : Int32) : Int32 := x >>> (y &&& 31)
def iUshr (x y : Int32) : Int32 := (x.toUInt32 >>> (y.toUInt32 &&& Int32.toUInt32 31)).toInt32
def lShl (x : Int64) (y : Int32) : Int64 := x <<< (y.toInt64 &&& 63)
def iC (x : Int32) : Int32 := (x.toUInt32 % 65536).toInt32
def iB (x : Int32) : Int32 := x.toInt8.toInt32
def iS (x : Int32) : Int32 := x.toInt16.toInt32
def iMax (x y : Int32) : Int32 := if x < y then y else x
def iMin (x y : Int32) : Int32 := if y < x then y else x
def lMax (x y : Int64) : Int64 := if y < x then x else y
/-- what arraycopy makes of the memory -/
def cpI (m : Mm) (a b : Nat) (i j n : Int32) : Mm := rI m b (va_cpy (m.1 a) (m.1 b) i.toNatClampNeg j.toNatClampNeg n.toNatClampNeg)
def cpL (m : Mm) (a b : Nat) (i j n : Int32) : Mm := rL m b (va_cpy (m.2.1 a) (m.2.1 b) i.toNatClampNeg j.toNatClampNeg n.toNatClampNeg)
abbrev cpOk (i j n : Int32) (n0 n1 : Nat) : Prop := ¬ i < 0 ∧ ¬ j < 0 ∧ ¬ n < 0 ∧ i.toNatClampNeg + n.toNatClampNeg ≤ n0 ∧ j.toNatClampNeg + n.toNatClampNeg ≤ n1
/-- what Arrays.fill makes of the memory -/
def flI (m : Mm) (o n : Nat) (v : Int32) : Mm := rI m o (fun b => if b < n then v else m.1 o b)
def flL (m : Mm) (o n : Nat) (v : Int64) : Mm := rL m o (fun b => if b < n then v else m.2.1 o b)
abbrev inB (i : Int32) (n : Nat) : Prop := ¬ (i < 0 ∨ n ≤ i.toNatClampNeg)
def ixC (b : Int32) : Int32 := if tbNAMES 0 = b then 0 else if tbNAMES 1 = b then 1 else if tbNAMES 2 = b then 2 else if tbNAMES 3 = b then 3 else if tbNAMES 4 = b then 4 else if tbNAMES 5 = b then 5 else -1
def dIx (c : Int32) : Int32 := if c < 0 then -1 else if 255 < c then -1 else ixC (iB c)
theorem tT {α : Type} {c : Prop} [Decidable c] {a b : Option α} {q : α} (hc : c) (h : (if c then a else b) = some q) : a = some q := by rwa [if_pos hc] at h
theorem tF {α : Type} {c : Prop} [Decidable c] {a b : Option α} {q : α} (hc : ¬ c) (h : (if c then a else b) = some q) : b = some q := by rwa [if_neg hc] at h
theorem tC {α : Type} {c : Prop} [Decidable c] {a : Option α} {q : α} (h : (if c then a else none) = some q) : c ∧ a = some q := by
  by_cases hc : c
  · exact ⟨hc, by rwa [if_pos hc] at h⟩
  · rw [if_neg hc] at h; cases h
theorem tN {α : Type} {c : Prop} [Decidable c] {a : Option α} {q : α} (h : (if c then none else a) = some q) : ¬ c ∧ a = some q := by
  by_cases hc : c
  · rw [if_pos hc] at h; cases h
  · exact ⟨hc, by rwa [if_neg hc] at h⟩
theorem tB {α β : Type} {o : Option α} {f : α → Option β} {q : β} (h : o.bind f = some q) : ∃ x, o = some x ∧ f x = some q := by
  cases o with
  | none => cases h
  | some x => exact ⟨x, rfl, h⟩
theorem shE {o : Nat} (h : isSh o) : o < WN ∧ WS o = .inl (8, [(2, o + 6), (0, 0), (0, 0), (0, 0), (0, 0)]) ∧ o + 6 < WN ∧ WS (o + 6) = .inr (3, 60, 0) := by
  obtain ⟨h1, h2⟩ := h
  have : o = 38 ∨ o = 39 ∨ o = 40 ∨ o = 41 ∨ o = 42 ∨ o = 43 := by omega
  rcases this with rfl | rfl | rfl | rfl | rfl | rfl <;> exact ⟨by decide, rfl, by decide, rfl⟩
theorem laE {o : Nat} (h : isLa o) : o < WN ∧ WS o = .inl (5, [(2, o + 1), (2, o + 2), (2, o + 3), (0, 0)]) ∧ o + 3 < WN ∧ WS (o + 1) = .inr (1, 128, 0) ∧ WS (o + 2) = .inr (0, 128, 0) ∧ WS (o + 3) = .inr (0, 128, 0) := by
  rcases h with rfl | rfl <;> exact ⟨by decide, rfl, by decide, rfl, rfl, rfl⟩
theorem in_lt {i : Int32} {n : Nat} (h : vp_in i n) : i.toNatClampNeg < n := Nat.not_le.mp fun q => h (Or.inr q)
theorem sh_of {i : Int32} (h : vp_in i 6) : isSh (38 + i.toNatClampNeg) := ⟨Nat.le_add_right _ _, by have := in_lt h; omega⟩
theorem row_of {i : Int32} (h : vp_in i 11) : 3 + i.toNatClampNeg < WN ∧ WS (3 + i.toNatClampNeg) = .inr (0, 10, 0) := by
  have h1 := in_lt h
  generalize i.toNatClampNeg = k at h1 ⊢
  have : k = 0 ∨ k = 1 ∨ k = 2 ∨ k = 3 ∨ k = 4 ∨ k = 5 ∨ k = 6 ∨ k = 7 ∨ k = 8 ∨ k = 9 ∨ k = 10 := by omega
  rcases this with rfl | rfl | rfl | rfl | rfl | rfl | rfl | rfl | rfl | rfl | rfl <;> exact ⟨by decide, rfl⟩
theorem in_u {C : String} {T : u_T} {N : Nat} (h : ∀ w ∈ u_ws C T N, w ∈ lw_tbl) (hg : (u_ws C T N).all goodWord = true) : ∀ w ∈ u_ws C T N, w ∈ wdT := fun w hw => List.mem_filter.mpr ⟨h w hw, List.all_eq_true.mp hg w hw⟩
theorem inX0 : ∀ w ∈ u_ws RX0 TX0 2, w ∈ wdT := in_u (by decide +kernel) (by decide +kernel)
theorem inX1 : ∀ w ∈ u_ws RX1 TX1 6, w ∈ wdT := in_u (by decide +kernel) (by decide +kernel)
theorem inX2 : ∀ w ∈ u_ws RX2 TX2 6, w ∈ wdT := in_u (by decide +kernel) (by decide +kernel)
theorem inX3 : ∀ w ∈ u_ws RX3 TX3 9, w ∈ wdT := in_u (by decide +kernel) (by decide +kernel)
theorem inX4 : ∀ w ∈ u_ws RX4 TX4 5, w ∈ wdT := in_u (by decide +kernel) (by decide +kernel)
theorem inX5 : ∀ w ∈ u_ws RX5 TX5 4, w ∈ wdT := in_u (by decide +kernel) (by decide +kernel)
theorem inX6 : ∀ w ∈ u_ws RX6 TX6 5, w ∈ wdT := in_u (by decide +kernel) (by decide +kernel)
theorem inX7 : ∀ w ∈ u_ws RX7 TX7 5, w ∈ wdT := in_u (by decide +kernel) (by decide +kernel)
theorem inX8 : ∀ w ∈ u_ws RX8 TX8 5, w ∈ wdT := in_u (by decide +kernel) (by decide +kernel)
theorem inX9 : ∀ w ∈ u_ws RX9 TX9 8, w ∈ wdT := in_u (by decide +kernel) (by decide +kernel)
theorem inX10 : ∀ w ∈ u_ws RX10 TX10 42, w ∈ wdT := in_u (by decide +kernel) (by decide +kernel)
/-- the static facts of a field of object o, read or written by a method of 'own' -/
def FA (own : String) (idx o k ci : Nat) (ts : List (Nat × Nat)) (Cn : String) (T : u_T) (NN : Nat) : Prop := o < WN ∧ WS o = .inl (ci, ts) ∧ k < ts.length ∧ vwCl[ci]? = some (Cn, T, NN) ∧ k < NN ∧ (∀ w ∈ u_ws Cn T NN, w ∈ wdT) ∧ Cond.fieldLink own idx (T k).1 (T k).2.1 (T k).2.2.1 ∈ wdT
def FI (own : String) (idx o k : Nat) : Prop := ∃ (ci : Nat) (ts : List (Nat × Nat)) (Cn : String) (T : u_T) (NN : Nat), FA own idx o k ci ts Cn T NN ∧ (ts.getD k (0, 0)).1 = 0
def FS (own : String) (idx o k o2 : Nat) : Prop := ∃ (ci : Nat) (ts : List (Nat × Nat)) (Cn : String) (T : u_T) (NN : Nat), FA own idx o k ci ts Cn T NN ∧ ts.getD k (0, 0) = (2, o2)
def FD (own : String) (idx o k : Nat) : Prop := ∃ (ci : Nat) (ts : List (Nat × Nat)) (Cn : String) (T : u_T) (NN : Nat), FA own idx o k ci ts Cn T NN ∧ (ts.getD k (0, 0)).1 = 3
def FW (T : u_T) (NN k : Nat) (ty : FieldType) : Prop := ∃ tf : Nat → FieldType, (∀ k, k < NN → parseFieldDescriptor (T k).2.2.1 = some (tf k)) ∧ (∀ a, a < NN → ∀ b, b < NN → a ≠ b → (T a).2.1 ≠ (T b).2.1) ∧ (T k).2.2.2 = false ∧ tf k = ty
def FPI (own : String) (idx o k : Nat) (ty : FieldType) : Prop := ∃ (ci : Nat) (ts : List (Nat × Nat)) (Cn : String) (T : u_T) (NN : Nat), FA own idx o k ci ts Cn T NN ∧ (ts.getD k (0, 0)).1 = 0 ∧ FW T NN k ty
def FPD (own : String) (idx o k : Nat) (ty : FieldType) : Prop := ∃ (ci : Nat) (ts : List (Nat × Nat)) (Cn : String) (T : u_T) (NN : Nat), FA own idx o k ci ts Cn T NN ∧ (ts.getD k (0, 0)).1 = 3 ∧ FW T NN k ty
def RO (o : Nat) (C : String) : Prop := ∃ (ci : Nat) (ts : List (Nat × Nat)) (T : u_T) (NN : Nat), o < WN ∧ WS o = .inl (ci, ts) ∧ vwCl[ci]? = some (C, T, NN)
def CF (own : String) (idx : Nat) (y : MethodName) (cc : ByteArray) (n : Nat) (ret : Option FieldType) (k : Nat) : Prop := Cond.methodLink own idx y ∈ wdT ∧ Cond.instanceMethod y ∈ wdT ∧ Cond.selects y.cls y y ∈ wdT ∧ Cond.initialized y.cls ∈ wdT ∧ Cond.code y cc n ret ∈ wdT ∧ y.cls ≠ "java/lang/invoke/MethodHandle" ∧ y.cls ≠ "java/lang/invoke/VarHandle" ∧ (parseMethodDescriptor y.desc).map (fun d => d.parameters.length) = some k
def CS (own : String) (idx : Nat) (y : MethodName) (cc : ByteArray) (n : Nat) (ret : Option FieldType) (k : Nat) : Prop := Cond.methodLink own idx y ∈ wdT ∧ Cond.static y ∈ wdT ∧ Cond.initialized y.cls ∈ wdT ∧ Cond.code y cc n ret ∈ wdT ∧ y.cls ≠ "java/lang/invoke/MethodHandle" ∧ y.cls ≠ "java/lang/invoke/VarHandle" ∧ (parseMethodDescriptor y.desc).map (fun d => d.parameters.length) = some k
def RR (R : Room) (lev n cells slots : Nat) : Prop := (lev + 1 ≤ R.frames ∧ 8 + (n + 11) + 40 * lev ≤ R.locals) ∧ cells ≤ R.cells ∧ slots ≤ R.slots
theorem RR_of {a b n : Nat} (h : b + 1 ≤ a) (hn : n ≤ 21) : RR (rmk a) b n 0 0 := ⟨⟨h, by show 8 + (n + 11) + 40 * b ≤ 40 * a; omega⟩, Nat.le_refl _, Nat.le_refl _⟩
theorem ro_sh {o : Nat} (h : isSh o) : RO o RX8 := ⟨8, _, TX8, 5, (shE h).1, (shE h).2.1, rfl⟩
theorem ro_la {o : Nat} (h : isLa o) : RO o RX5 := ⟨5, _, TX5, 4, (laE h).1, (laE h).2.1, rfl⟩
theorem ro_0 : RO 0 RX9 := ⟨9, _, TX9, 8, by decide, rfl, rfl⟩
theorem ro_1 : RO 1 RX7 := ⟨7, _, TX7, 5, by decide, rfl, rfl⟩
theorem ro_15 : RO 15 RX6 := ⟨6, _, TX6, 5, by decide, rfl, rfl⟩
theorem ro_17 : RO 17 RX0 := ⟨0, _, TX0, 2, by decide, rfl, rfl⟩
theorem ro_19 : RO 19 RX2 := ⟨2, _, TX2, 6, by decide, rfl, rfl⟩
theorem ro_23 : RO 23 RX3 := ⟨3, _, TX3, 9, by decide, rfl, rfl⟩
theorem ro_29 : RO 29 RX1 := ⟨1, _, TX1, 6, by decide, rfl, rfl⟩
theorem ro_34 : RO 34 RX4 := ⟨4, _, TX4, 5, by decide, rfl, rfl⟩
theorem ro_58 : RO 58 RX10 := ⟨10, _, TX10, 42, by decide, rfl, rfl⟩
