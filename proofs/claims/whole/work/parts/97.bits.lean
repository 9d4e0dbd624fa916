/-! ===== bits of small numbers ===== -/
section BITS
def cntB : Nat → Nat → Nat
  | 0, _ => 0
  | f + 1, y => y % 2 + cntB f (y / 2)
def bcF (v0 : Int32) : Int32 := ((((((((v0 - ((iUshr v0 1) &&& 1431655765)) &&& 858993459) + ((iUshr (v0 - ((iUshr v0 1) &&& 1431655765)) 2) &&& 858993459)) + (iUshr (((v0 - ((iUshr v0 1) &&& 1431655765)) &&& 858993459) + ((iUshr (v0 - ((iUshr v0 1) &&& 1431655765)) 2) &&& 858993459)) 4)) &&& 252645135) + (iUshr (((((v0 - ((iUshr v0 1) &&& 1431655765)) &&& 858993459) + ((iUshr (v0 - ((iUshr v0 1) &&& 1431655765)) 2) &&& 858993459)) + (iUshr (((v0 - ((iUshr v0 1) &&& 1431655765)) &&& 858993459) + ((iUshr (v0 - ((iUshr v0 1) &&& 1431655765)) 2) &&& 858993459)) 4)) &&& 252645135) 8)) + (iUshr ((((((v0 - ((iUshr v0 1) &&& 1431655765)) &&& 858993459) + ((iUshr (v0 - ((iUshr v0 1) &&& 1431655765)) 2) &&& 858993459)) + (iUshr (((v0 - ((iUshr v0 1) &&& 1431655765)) &&& 858993459) + ((iUshr (v0 - ((iUshr v0 1) &&& 1431655765)) 2) &&& 858993459)) 4)) &&& 252645135) + (iUshr (((((v0 - ((iUshr v0 1) &&& 1431655765)) &&& 858993459) + ((iUshr (v0 - ((iUshr v0 1) &&& 1431655765)) 2) &&& 858993459)) + (iUshr (((v0 - ((iUshr v0 1) &&& 1431655765)) &&& 858993459) + ((iUshr (v0 - ((iUshr v0 1) &&& 1431655765)) 2) &&& 858993459)) 4)) &&& 252645135) 8)) 16)) &&& 63)
theorem bc_all : ∀ x : Fin 1024, bcF (nI x.val) = nI (cntB 10 x.val) := by decide +kernel
theorem bc_x {x : Nat} (hx : x < 1024) {M : Mm} : dJ6_bitCount_0f7a4 (nI x) M = some (nI (cntB 10 x), M) := by
  have h : bcF (nI x) = nI (cntB 10 x) := bc_all ⟨x, hx⟩
  rw [← h]; rfl
theorem sh_all : ∀ k : Fin 10, ∀ x : Fin 1024, (iShr (nI x.val) (nI k.val)) &&& 1 = nI (x.val / 2 ^ k.val % 2) := by decide +kernel
theorem sh_l {x k : Nat} (hx : x < 1024) (hk : k < 10) : (iShr (nI x) (nI k)) &&& 1 = nI (x / 2 ^ k % 2) := sh_all ⟨k, hk⟩ ⟨x, hx⟩
theorem or_all : ∀ k : Fin 10, ∀ x : Fin 1024, x.val / 2 ^ k.val % 2 = 0 → nI x.val ||| iShl 1 (nI k.val) = nI (x.val + 2 ^ k.val) := by decide +kernel
theorem or_l {x k : Nat} (hx : x < 1024) (hk : k < 10) (h : x / 2 ^ k % 2 = 0) : nI x ||| iShl 1 (nI k) = nI (x + 2 ^ k) := or_all ⟨k, hk⟩ ⟨x, hx⟩ h
theorem shl_l {k : Nat} (hk : k ≤ 10) : iShl 1 (nI k) = nI (2 ^ k) := by
  have : k = 0 ∨ k = 1 ∨ k = 2 ∨ k = 3 ∨ k = 4 ∨ k = 5 ∨ k = 6 ∨ k = 7 ∨ k = 8 ∨ k = 9 ∨ k = 10 := by omega
  rcases this with rfl | rfl | rfl | rfl | rfl | rfl | rfl | rfl | rfl | rfl | rfl <;> decide
theorem bo_l {x : Nat} (hx : x < 1024) {M : Mm} : ∀ (N f k a : Nat), k + f = 10 → f < N → DX10_bitsOf_4 N (nI x) (nI a) (nI k) M = some (nI (a + cntB f (x / 2 ^ k)), M) := by
  intro N
  induction N with
  | zero => intro f k a h1 h2; omega
  | succ N ih =>
    intro f k a h1 h2
    show BX10_bitsOf_4 (DX10_bitsOf_4 N) _ _ _ M = _
    unfold BX10_bitsOf_4
    cases f with
    | zero =>
      have e : k = 10 := by omega
      subst e
      rw [if_pos (show (10 : Int32) ≤ nI 10 by decide)]; rfl
    | succ f =>
      rw [if_neg (show ¬ (10 : Int32) ≤ nI k from nI_ge (b := 10) (by omega) (by omega)), sh_l hx (by omega), nI_add, nI_1, ih f (k + 1) _ (by omega) (by omega)]
      rw [show cntB (f + 1) (x / 2 ^ k) = x / 2 ^ k % 2 + cntB f (x / 2 ^ k / 2) from rfl, Nat.div_div_eq_div_mul, ← Nat.pow_succ, Nat.add_assoc]
theorem bo_m {x : Nat} (hx : x < 1024) {M : Mm} : dX10_bitsOf (nI x) M = some (nI (cntB 10 x), M) := by
  have := bo_l hx (M := M) FU 10 0 0 (by omega) (by unfold FU; omega)
  rw [nI_0, Nat.zero_add, Nat.pow_zero, Nat.div_one] at this
  exact this
theorem isIn_m {x k : Nat} (hx : x < 1024) (hk : k < 10) {M : Mm} : dX10_isIn (nI x) (nI k) M = some (if x / 2 ^ k % 2 = 1 then 1 else 0, M) := by
  unfold dX10_isIn
  rw [sh_l hx hk]
  have h2 : x / 2 ^ k % 2 < 2 := Nat.mod_lt _ (by omega)
  by_cases h : x / 2 ^ k % 2 = 1
  · rw [h, if_pos (by decide), if_pos rfl]
  · have h0 : x / 2 ^ k % 2 = 0 := by omega
    rw [h0, if_neg (by decide), if_neg (by decide)]
theorem cntB_le : ∀ f y, cntB f y ≤ f
  | 0, _ => Nat.le_refl _
  | f + 1, y => by
    have := cntB_le f (y / 2)
    show y % 2 + cntB f (y / 2) ≤ f + 1
    omega
end BITS
