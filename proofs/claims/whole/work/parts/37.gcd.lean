/-! ===== fractions in lowest terms; bounds of weights ===== -/
def LN (n : Nat) : Int64 := Int64.ofNat n
theorem LN_toInt {n : Nat} (h : n < 9223372036854775808) : (LN n).toInt = (n : Int) := by
  unfold LN
  rw [Int64.toInt_ofNat_of_lt (by omega)]
theorem LN_of {x : Int64} (h : 0 ≤ x.toInt) : ∃ n, n < 9223372036854775808 ∧ x = LN n ∧ x.toInt = n := by
  have h2 := x.toInt_lt
  refine ⟨x.toInt.toNat, by omega, ?_, by omega⟩
  apply Int64.toInt_inj.mp
  rw [LN_toInt (by omega)]
  omega
theorem LN_rem {a b : Nat} (ha : a < 9223372036854775808) (hb0 : 0 < b) (hb : b < 9223372036854775808) : lRem (LN a) (LN b) = LN (a % b) := by
  have h3 := Nat.mod_lt a hb0
  apply Int64.toInt_inj.mp
  rw [lRem_toInt (by rw [LN_toInt ha]; omega) (by rw [LN_toInt hb]; omega), LN_toInt ha, LN_toInt hb, LN_toInt (by omega)]
  omega
theorem LN_div {a b : Nat} (ha : a < 9223372036854775808) (hb0 : 0 < b) (hb : b < 9223372036854775808) : LN a / LN b = LN (a / b) := by
  have h3 := Nat.div_le_self a b
  apply Int64.toInt_inj.mp
  rw [lDiv (by rw [LN_toInt ha]; omega) (by rw [LN_toInt hb]; omega), LN_toInt ha, LN_toInt hb, LN_toInt (by omega)]
  simp
theorem LN_0 {a : Nat} (ha : a < 9223372036854775808) : LN a = 0 ↔ a = 0 := by
  rw [toL_eq, LN_toInt ha]; simp
def rdS (a b : Nat) (p : Int32) : Int64 := LN ((if p = 0 then a else b) / Nat.gcd a b)
section GCD
variable {mm : Mm}
theorem reduced_l {v0 v2 : Int64} {v4 : Int32} : ∀ m x y k N : Nat, x < 9223372036854775808 → y < 9223372036854775808 → y < 2 ^ m → k + 2 * m + 1 ≤ 200 → 2 * m + 1 ≤ N → DX9_reduced_9 N v0 v2 v4 (LN x) (LN y) (nI k) mm = DX9_reduced_45 v0 v2 v4 (LN (Nat.gcd x y)) mm := by
  intro m
  induction m with
  | zero =>
    intro x y k N hx hy h1 h2 h3
    obtain ⟨M, rfl⟩ : ∃ M, N = M + 1 := ⟨N - 1, by omega⟩
    have hy0 : y = 0 := by omega
    subst hy0
    show BX9_reduced_9 (DX9_reduced_9 M) v0 v2 v4 (LN x) (LN 0) (nI k) mm = _
    unfold BX9_reduced_9
    rw [Nat.gcd_zero_right]
    split
    · rfl
    · rw [if_pos ((LN_0 (by omega)).mpr rfl)]
  | succ m ih =>
    intro x y k N hx hy h1 h2 h3
    obtain ⟨M, rfl⟩ : ∃ M, N = M + 1 + 1 := ⟨N - 2, by omega⟩
    show BX9_reduced_9 (DX9_reduced_9 (M + 1)) v0 v2 v4 (LN x) (LN y) (nI k) mm = _
    unfold BX9_reduced_9
    have ek : (nI k).toInt = k := nI_toInt (by omega)
    have ek1 : (nI (k + 1)).toInt = (k + 1 : Nat) := nI_toInt (by omega)
    rw [if_neg (by rw [toI_le, ek]; simp; omega)]
    by_cases hy0 : y = 0
    · subst hy0
      rw [if_pos ((LN_0 (by omega)).mpr rfl), Nat.gcd_zero_right]
    · have hn : ¬ LN y = 0 := fun q => hy0 ((LN_0 hy).mp q)
      rw [if_neg hn, if_neg hn, LN_rem hx (by omega) hy, nI_1]
      have hr := Nat.mod_lt x (show 0 < y by omega)
      have hg : Nat.gcd x y = Nat.gcd y (x % y) := by rw [Nat.gcd_comm x y, Nat.gcd_rec y x, Nat.gcd_comm]
      rw [hg]
      show BX9_reduced_9 (DX9_reduced_9 M) v0 v2 v4 (LN y) (LN (x % y)) (nI (k + 1)) mm = _
      unfold BX9_reduced_9
      rw [if_neg (by rw [toI_le, ek1]; simp; omega)]
      by_cases hr0 : x % y = 0
      · rw [hr0, if_pos ((LN_0 (by omega)).mpr rfl), Nat.gcd_zero_right]
      · have hn2 : ¬ LN (x % y) = 0 := fun q => hr0 ((LN_0 (by omega)).mp q)
        rw [if_neg hn2, if_neg hn2, LN_rem hy (by omega) (by omega), nI_1]
        have hr2 := Nat.mod_lt y (show 0 < x % y by omega)
        have hhalf : 2 * (y % (x % y)) < y := by
          have h5 : y % (x % y) + (x % y) * (y / (x % y)) = y := Nat.mod_add_div y (x % y)
          have h6 : 1 ≤ y / (x % y) := Nat.div_pos (by omega) (by omega)
          have h7 : x % y ≤ (x % y) * (y / (x % y)) := Nat.le_mul_of_pos_right _ h6
          omega
        have hg2 : Nat.gcd y (x % y) = Nat.gcd (x % y) (y % (x % y)) := by rw [Nat.gcd_comm y, Nat.gcd_rec (x % y) y, Nat.gcd_comm]
        rw [hg2]
        refine ih (x % y) (y % (x % y)) (k + 1 + 1) M (by omega) (by omega) ?_ (by omega) (by omega)
        rw [Nat.pow_succ] at h1
        omega
theorem reduced_x {a b : Nat} {p : Int32} (ha : a < 9223372036854775808) (hb : b < 9223372036854775808) (hb0 : 0 < b) : dX9_reduced (LN a) (LN b) p mm = some (rdS a b p, mm) := by
  unfold dX9_reduced
  have := reduced_l (mm := mm) (v0 := LN a) (v2 := LN b) (v4 := p) 63 a b 0 FU ha hb (by omega) (by omega) (by unfold FU; omega)
  rw [show (0 : Int32) = nI 0 from rfl, this]
  have hg : 0 < Nat.gcd a b := Nat.gcd_pos_of_pos_right a hb0
  have hgb : Nat.gcd a b ≤ b := Nat.gcd_le_right a hb0
  have hn : ¬ LN (Nat.gcd a b) = 0 := fun q => by have := (LN_0 (by omega)).mp q; omega
  unfold DX9_reduced_45 DX9_reduced_55 rdS
  rw [if_neg hn, if_neg hn]
  by_cases hp : p = 0
  · rw [if_pos hp, if_pos hp, LN_div ha hg (by omega)]
  · rw [if_neg hp, if_neg hp, if_neg hn, if_neg hn, LN_div hb hg (by omega)]
theorem partOf_l {v0 v2 : Int64} {v4 : Int32} : ∀ m x y N : Nat, x < 9223372036854775808 → y < 9223372036854775808 → y < 2 ^ m → 2 * m + 1 ≤ N → 0 < x → DX10_partOf_16 N v0 v2 v4 (LN x) (LN y) mm = (if v4 = 0 then some (v0 / LN (Nat.gcd x y), mm) else some (v2 / LN (Nat.gcd x y), mm)) := by
  intro m
  induction m with
  | zero =>
    intro x y N hx hy h1 h3 hx0
    obtain ⟨M, rfl⟩ : ∃ M, N = M + 1 := ⟨N - 1, by omega⟩
    have hy0 : y = 0 := by omega
    subst hy0
    show BX10_partOf_16 (DX10_partOf_16 M) v0 v2 v4 (LN x) (LN 0) mm = _
    unfold BX10_partOf_16
    have hn : ¬ LN x = 0 := fun q => by have := (LN_0 hx).mp q; omega
    rw [Nat.gcd_zero_right, if_pos ((LN_0 (by omega)).mpr rfl), if_neg hn, if_neg hn]
  | succ m ih =>
    intro x y N hx hy h1 h3 hx0
    obtain ⟨M, rfl⟩ : ∃ M, N = M + 1 + 1 := ⟨N - 2, by omega⟩
    show BX10_partOf_16 (DX10_partOf_16 (M + 1)) v0 v2 v4 (LN x) (LN y) mm = _
    unfold BX10_partOf_16
    have hnx : ¬ LN x = 0 := fun q => by have := (LN_0 hx).mp q; omega
    by_cases hy0 : y = 0
    · subst hy0
      rw [if_pos ((LN_0 (by omega)).mpr rfl), Nat.gcd_zero_right, if_neg hnx, if_neg hnx]
    · have hn : ¬ LN y = 0 := fun q => hy0 ((LN_0 hy).mp q)
      rw [if_neg hn, if_neg hn, LN_rem hx (by omega) hy]
      have hr := Nat.mod_lt x (show 0 < y by omega)
      have hg : Nat.gcd x y = Nat.gcd y (x % y) := by rw [Nat.gcd_comm x y, Nat.gcd_rec y x, Nat.gcd_comm]
      rw [hg]
      show BX10_partOf_16 (DX10_partOf_16 M) v0 v2 v4 (LN y) (LN (x % y)) mm = _
      unfold BX10_partOf_16
      by_cases hr0 : x % y = 0
      · rw [hr0, if_pos ((LN_0 (by omega)).mpr rfl), Nat.gcd_zero_right, if_neg hn, if_neg hn]
      · have hn2 : ¬ LN (x % y) = 0 := fun q => hr0 ((LN_0 (by omega)).mp q)
        rw [if_neg hn2, if_neg hn2, LN_rem hy (by omega) (by omega)]
        have hr2 := Nat.mod_lt y (show 0 < x % y by omega)
        have hhalf : 2 * (y % (x % y)) < y := by
          have h5 : y % (x % y) + (x % y) * (y / (x % y)) = y := Nat.mod_add_div y (x % y)
          have h6 : 1 ≤ y / (x % y) := Nat.div_pos (by omega) (by omega)
          have h7 : x % y ≤ (x % y) * (y / (x % y)) := Nat.le_mul_of_pos_right _ h6
          omega
        have hg2 : Nat.gcd y (x % y) = Nat.gcd (x % y) (y % (x % y)) := by rw [Nat.gcd_comm y, Nat.gcd_rec (x % y) y, Nat.gcd_comm]
        rw [hg2]
        refine ih (x % y) (y % (x % y)) M (by omega) (by omega) ?_ (by omega) (by omega)
        rw [Nat.pow_succ] at h1
        omega
theorem partOf_m {a b : Nat} {p : Int32} (ha : a < 9223372036854775808) (hb : b < 9223372036854775808) (hb0 : 0 < b) (hp : p = 0 ∨ p = 1) : dX10_partOf (LN a) (LN b) p mm = some (rdS a b p, mm) := by
  unfold dX10_partOf rdS
  by_cases ha0 : a = 0
  · subst ha0
    rw [if_pos ((LN_0 (by omega)).mpr rfl), Nat.gcd_zero_left]
    rcases hp with rfl | rfl
    · rw [if_pos rfl, Nat.zero_div]; rfl
    · rw [if_neg (by decide), Nat.div_self hb0]; rfl
  · have hn : ¬ LN a = 0 := fun q => ha0 ((LN_0 ha).mp q)
    have hg : 0 < Nat.gcd a b := Nat.gcd_pos_of_pos_right a hb0
    have hgb : Nat.gcd a b ≤ b := Nat.gcd_le_right a hb0
    rw [if_neg hn, partOf_l 63 a b FU ha hb (by omega) (by unfold FU; omega) (by omega)]
    rw [LN_div ha hg (by omega), LN_div hb hg (by omega)]
    split <;> rfl
theorem rdS_mul {a b c : Nat} {p : Int32} (hc : 0 < c) : rdS (c * a) (c * b) p = rdS a b p := by
  unfold rdS
  rw [Nat.gcd_mul_left]
  split
  · rw [Nat.mul_div_mul_left _ _ hc]
  · rw [Nat.mul_div_mul_left _ _ hc]
end GCD
/-! ===== bounds ===== -/
theorem sumL_b {f : Nat → Int64} {M : Int} (hM : 0 ≤ M) (hM2 : M < 1000000000000000000) : ∀ n : Nat, n ≤ 6 → (∀ g, g < n → 0 ≤ (f g).toInt ∧ (f g).toInt ≤ M) → 0 ≤ (sumL f n).toInt ∧ (sumL f n).toInt ≤ n * M ∧ (∀ g, g < n → (f g).toInt ≤ (sumL f n).toInt)
  | 0, _, _ => ⟨by show (0 : Int) ≤ (0 : Int64).toInt; decide, by simp [sumL], fun g hg => by omega⟩
  | n + 1, hn, h => by
    obtain ⟨h1, h2, h3⟩ := sumL_b hM hM2 n (by omega) (fun g hg => h g (by omega))
    obtain ⟨h4, h5⟩ := h n (by omega)
    have h6 : (n : Int) * M ≤ 5 * M := Int.mul_le_mul_of_nonneg_right (by omega) hM
    have e : (sumL f (n + 1)).toInt = (sumL f n).toInt + (f n).toInt := by
      show (sumL f n + f n).toInt = _
      exact lAdd (by omega) (by omega)
    refine ⟨by omega, ?_, fun g hg => ?_⟩
    · rw [e]
      have : ((n + 1 : Nat) : Int) * M = (n : Int) * M + M := by rw [Int.natCast_add, Int.add_mul]; simp
      omega
    · rw [e]
      by_cases hgn : g = n
      · subst hgn; omega
      · have := h3 g (by omega); omega
theorem sumL_mul {w x : Nat → Int64} {M K : Int} (hK : 0 ≤ K) (hM : 0 ≤ M) (hMK : M * K < 1000000000000000000) (hM1 : M < 1000000000000000000) (n : Nat) (hn : n ≤ 6) (hw : ∀ g, g < n → 0 ≤ (w g).toInt ∧ (w g).toInt ≤ M) (hx : ∀ g, g < n → 0 ≤ (x g).toInt ∧ (x g).toInt ≤ K) : (∀ g, g < n → (w g * x g).toInt = (w g).toInt * (x g).toInt ∧ 0 ≤ (w g).toInt * (x g).toInt ∧ (w g).toInt * (x g).toInt ≤ M * K) ∧ (sumL (fun g => w g * x g) n).toInt ≤ K * (sumL w n).toInt := by
  have key : ∀ g, g < n → (w g * x g).toInt = (w g).toInt * (x g).toInt ∧ 0 ≤ (w g).toInt * (x g).toInt ∧ (w g).toInt * (x g).toInt ≤ M * K := by
    intro g hg
    obtain ⟨a1, a2⟩ := hw g hg
    obtain ⟨b1, b2⟩ := hx g hg
    have h1 : 0 ≤ (w g).toInt * (x g).toInt := Int.mul_nonneg a1 b1
    have h2 : (w g).toInt * (x g).toInt ≤ M * K := Int.mul_le_mul a2 b2 b1 hM
    exact ⟨lMul (by omega) (by omega), h1, h2⟩
  refine ⟨key, ?_⟩
  have hind : ∀ m, m ≤ n → (sumL (fun g => w g * x g) m).toInt ≤ K * (sumL w m).toInt := by
    intro m
    induction m with
    | zero => intro _; show (0 : Int64).toInt ≤ K * (0 : Int64).toInt; simp
    | succ m ih =>
      intro hm
      have s1 := sumL_b hM hM1 m (by omega) (fun g hg => hw g (by omega))
      have s2 := sumL_b (f := fun g => w g * x g) (M := M * K) (Int.mul_nonneg hM hK) hMK m (by omega) (fun g hg => by have := key g (by omega); show 0 ≤ (w g * x g).toInt ∧ (w g * x g).toInt ≤ M * K; rw [this.1]; exact this.2)
      have k1 := key m (by omega)
      have w1 := hw m (by omega)
      have x1 := hx m (by omega)
      have h6 : (m : Int) * M ≤ 5 * M := Int.mul_le_mul_of_nonneg_right (by omega) hM
      have h7 : (m : Int) * (M * K) ≤ 5 * (M * K) := Int.mul_le_mul_of_nonneg_right (by omega) (Int.mul_nonneg hM hK)
      have e1 : (sumL (fun g => w g * x g) (m + 1)).toInt = (sumL (fun g => w g * x g) m).toInt + (w m * x m).toInt := by
        show (sumL (fun g => w g * x g) m + w m * x m).toInt = _
        exact lAdd (by omega) (by omega)
      have e2 : (sumL w (m + 1)).toInt = (sumL w m).toInt + (w m).toInt := lAdd (by omega) (by omega)
      rw [e1, e2, k1.1, Int.mul_add]
      have h8 : (w m).toInt * (x m).toInt ≤ K * (w m).toInt := by rw [Int.mul_comm K]; exact Int.mul_le_mul_of_nonneg_left x1.2 w1.1
      have := ih (by omega)
      omega
  exact hind n (Nat.le_refl n)
section BND
variable {mm : Mm} {s b : Nat} {lv : Option LF}
theorem worthS_r (J : Jt mm s b) {bn gn : Nat} {asked : Int32} (hg : gn < 6) : 0 ≤ (worthS (TT mm) s lv bn gn asked).toInt ∧ (worthS (TT mm) s lv bn gn asked).toInt ≤ 999 := by
  unfold worthS
  cases lv with
  | none =>
    have hp := J.2.1 0 gn (by omega) hg
    have hp1 : 0 ≤ (TT mm 0 gn).toInt := hp.2.1
    have hp2 : (TT mm 0 gn).toInt ≤ 99 := hp.2.2.1
    try dsimp only
    unfold wantS
    split
    · rw [Int32.mul_one, iAdd (by omega) (by omega)]; omega
    · rw [Int32.mul_zero, Int32.add_zero]; omega
  | some f => exact clp_r
theorem seS_r (J : Jt mm s b) {bn gn cn : Nat} {d : Int32} (hb : bn < b) : 1 ≤ (seS (TT mm) bn gn cn d).toInt ∧ (seS (TT mm) bn gn cn d).toInt ≤ 33 := by
  obtain ⟨-, -, -, h1, h2⟩ := J.2.2.2.2 bn hb
  have e : TT mm 8 bn = gI mm 11 bn := rfl
  unfold seS
  rw [e]
  split
  · rw [iMul (by simp; omega) (by simp; omega)]; simp; omega
  · rw [iSub (by simp; omega) (by simp; omega)]; simp; omega
theorem p33 {i j : Nat} (h : i ≤ j) : (33 : Int) ^ i ≤ 33 ^ j := by
  have := Nat.pow_le_pow_right (n := 33) (by omega) h
  exact_mod_cast this
def Wb (w : Nat → Int64) : Prop := (∀ g, g < 6 → 0 ≤ (w g).toInt ∧ (w g).toInt ≤ 1291467969) ∧ 0 < (sumL w 6).toInt
theorem lkS_b (J : Jt mm s b) {B : Nat → Int32} {bn kn : Nat} (hb : bn < b) : ∀ (n i : Nat) (w : Nat → Int64), n + i ≤ 6 → (∀ g, g < 6 → 1 ≤ (w g).toInt ∧ (w g).toInt ≤ 33 ^ i) → ∀ g, g < 6 → 1 ≤ (lkS B (TT mm) s bn kn n i w g).toInt ∧ (lkS B (TT mm) s bn kn n i w g).toInt ≤ 1291467969
  | 0, i, w, hn, hw => fun g hg => by
    have h1 : (33 : Int) ^ i ≤ 33 ^ 6 := p33 (by omega)
    have := hw g hg
    have e : (33 : Int) ^ 6 = 1291467969 := by decide
    exact ⟨this.1, by show (w g).toInt ≤ _; omega⟩
  | n + 1, i, w, hn, hw => fun g hg => by
    have h1 : (33 : Int) ^ i ≤ 33 ^ 6 := p33 (by omega)
    have h2 : (33 : Int) ^ (i + 1) ≤ 33 ^ 6 := p33 (by omega)
    have e : (33 : Int) ^ 6 = 1291467969 := by decide
    have e2 : (33 : Int) ^ (i + 1) = 33 ^ i * 33 := Int.pow_succ 33 i
    unfold lkS
    split
    · refine lkS_b J hb n (i + 1) _ (by omega) (fun g hg => ?_) g hg
      have hg1 := hw g hg
      split
      · have hs := seS_r J (gn := g) (cn := (B (3 * i + 1)).toInt.toNat) (d := B (3 * i + 2)) hb
        unfold lrn
        have h3 : (w g).toInt * (seS (TT mm) bn g (B (3 * i + 1)).toInt.toNat (B (3 * i + 2))).toInt ≤ 33 ^ i * 33 := Int.mul_le_mul hg1.2 hs.2 (by omega) (by omega)
        have h4 : 1 * 1 ≤ (w g).toInt * (seS (TT mm) bn g (B (3 * i + 1)).toInt.toNat (B (3 * i + 2))).toInt := Int.mul_le_mul hg1.1 hs.1 (by omega) (by omega)
        rw [lMul (by rw [i64]; omega) (by rw [i64]; omega), i64]
        omega
      · omega
    · have := hw g hg
      exact ⟨this.1, by omega⟩
theorem wghS_b (J : Jt mm s b) {B : Nat → Int32} {bn kn : Nat} (hb : bn < b) (hk : kn < s) : Wb (wghS B (TT mm) s bn kn) := by
  unfold wghS Wb
  by_cases ho : TT mm 10 kn = 1
  · rw [if_pos ho]
    have h0 : ∀ g, g < 6 → 0 ≤ ((fun g : Nat => if (TT mm 4 kn).toInt = g then (1 : Int64) else 0) g).toInt ∧ ((fun g : Nat => if (TT mm 4 kn).toInt = g then (1 : Int64) else 0) g).toInt ≤ 1291467969 := by
      intro g _
      try dsimp only
      split <;> decide
    refine ⟨h0, ?_⟩
    have hin := (J.2.2.1 kn hk).1
    have e5 : TT mm 4 kn = gI mm 7 kn := rfl
    have := (sumL_b (by omega) (by omega) 6 (by omega) h0).2.2 (TT mm 4 kn).toInt.toNat (by rw [e5]; omega)
    try dsimp only at this
    rw [if_pos (by rw [e5]; omega)] at this
    have e1 : (1 : Int64).toInt = 1 := by decide
    omega
  · rw [if_neg ho]
    have h0 := lkS_b J (B := B) (kn := kn) hb 6 0 (fun _ => 1) (by omega) (fun g hg => by decide)
    refine ⟨fun g hg => ⟨by have := h0 g hg; omega, (h0 g hg).2⟩, ?_⟩
    have := (sumL_b (f := lkS B (TT mm) s bn kn 6 0 (fun _ => 1)) (M := 1291467969) (by omega) (by omega) 6 (by omega) (fun g hg => ⟨by have := h0 g hg; omega, (h0 g hg).2⟩)).2.2 0 (by omega)
    have := h0 0 (by omega)
    omega
theorem ones_b : Wb (fun _ => 1) := ⟨fun g _ => (show 0 ≤ (1 : Int64).toInt ∧ (1 : Int64).toInt ≤ 1291467969 by decide), by decide⟩
theorem total_b {w : Nat → Int64} (h : Wb w) : 0 < (sumL w 6).toInt ∧ (sumL w 6).toInt ≤ 7748807814 := by
  have := (sumL_b (by omega) (by omega) 6 (by omega) h.1).2.1
  exact ⟨h.2, by omega⟩
theorem wall_b (J : Jt mm s b) {w : Nat → Int64} (h : Wb w) {bn : Nat} {asked : Int32} : 0 ≤ (wallS (TT mm) s lv w bn asked).toInt ∧ (wallS (TT mm) s lv w bn asked).toInt ≤ 999 * (sumL w 6).toInt := by
  have k := sumL_mul (w := w) (x := fun g => (worthS (TT mm) s lv bn g asked).toInt64) (M := 1291467969) (K := 999) (by omega) (by omega) (by omega) (by omega) 6 (by omega) h.1 (fun g hg => by (try dsimp only); rw [i64]; exact worthS_r J hg)
  have s := sumL_b (f := fun g => w g * (worthS (TT mm) s lv bn g asked).toInt64) (M := 1291467969 * 999) (by omega) (by omega) 6 (by omega) (fun g hg => by have := k.1 g hg; (try dsimp only at this ⊢); rw [this.1]; exact this.2)
  exact ⟨s.1, k.2⟩
theorem mxS_b {f : Nat → Int64} {M : Int} (hM : 0 ≤ M) : ∀ n, (∀ g, g < n → (f g).toInt ≤ M) → 0 ≤ (mxS f n).toInt ∧ (mxS f n).toInt ≤ M
  | 0, _ => ⟨by show (0 : Int) ≤ (0 : Int64).toInt; decide, by show (0 : Int64).toInt ≤ M; simpa using hM⟩
  | n + 1, h => by
    obtain ⟨h1, h2⟩ := mxS_b hM n (fun g hg => h g (by omega))
    have h3 := h n (by omega)
    show 0 ≤ (lMax (mxS f n) (f n)).toInt ∧ (lMax (mxS f n) (f n)).toInt ≤ M
    unfold lMax
    split
    · exact ⟨h1, h2⟩
    · rename_i q; rw [toL_lt] at q; omega
theorem fo_b (J : Jt mm s b) {w : Nat → Int64} (h : Wb w) {bn cn : Nat} (hb : bn < b) : 0 ≤ (foS (TT mm) bn w cn).toInt ∧ (foS (TT mm) bn w cn).toInt ≤ 170473771908 := by
  unfold foS
  have := sumL_b (f := fun a => mxS (fun g => w g * (seS (TT mm) bn g cn (nI a)).toInt64) 6) (M := 42618442977) (by omega) (by omega) 4 (by omega) (fun a ha => by
    have k := sumL_mul (w := w) (x := fun g => (seS (TT mm) bn g cn (nI a)).toInt64) (M := 1291467969) (K := 33) (by omega) (by omega) (by omega) (by omega) 6 (by omega) h.1 (fun g hg => by (try dsimp only); rw [i64]; have := seS_r J (gn := g) (cn := cn) (d := nI a) hb; omega)
    exact mxS_b (by omega) 6 (fun g hg => by have := k.1 g hg; (try dsimp only at this ⊢); omega))
  exact ⟨this.1, by omega⟩
theorem fl_b (J : Jt mm s b) {w : Nat → Int64} (h : Wb w) {bn cn : Nat} (hb : bn < b) : 0 ≤ (flS (TT mm) bn w cn).toInt ∧ (flS (TT mm) bn w cn).toInt ≤ 170473771908 := by
  unfold flS
  split
  · have := h.1 (hvS w 6) (hvS_lt w 5)
    have e : (36 : Int64).toInt = 36 := by decide
    rw [lMul (by rw [e]; omega) (by rw [e]; omega), e]
    omega
  · exact fo_b J h hb
end BND
