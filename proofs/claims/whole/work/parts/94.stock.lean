/-! ===== stock: alike on both sides ===== -/
section COMBI
def fct : Nat → Nat
  | 0 => 1
  | n + 1 => (n + 1) * fct n
def chs : Nat → Nat → Nat
  | _, 0 => 1
  | 0, _ + 1 => 0
  | n + 1, k + 1 => chs n k + chs n (k + 1)
theorem fct_pos : ∀ n, 0 < fct n
  | 0 => Nat.one_pos
  | n + 1 => Nat.mul_pos (Nat.succ_pos n) (fct_pos n)
theorem chs_0 (n : Nat) : chs n 0 = 1 := by cases n <;> rfl
theorem chs_A : ∀ n k : Nat, (n + 1) * chs n k = (k + 1) * chs (n + 1) (k + 1)
  | 0, 0 => rfl
  | 0, k + 1 => by
    show 1 * 0 = (k + 2) * (chs 0 (k + 1) + chs 0 (k + 2))
    show 1 * 0 = (k + 2) * (0 + 0)
    omega
  | n + 1, 0 => by
    have h := chs_A n 0
    rw [chs_0] at h
    have h : (n + 1) * 1 = (0 + 1) * chs (n + 1) 1 := h
    show (n + 1 + 1) * chs (n + 1) 0 = (0 + 1) * (chs (n + 1) 0 + chs (n + 1) 1)
    rw [chs_0]; omega
  | n + 1, k + 1 => by
    have h1 := chs_A n k
    have h2 := chs_A n (k + 1)
    have e1 : chs (n + 1) (k + 1) = chs n k + chs n (k + 1) := rfl
    have e2 : chs (n + 1 + 1) (k + 1 + 1) = chs (n + 1) (k + 1) + chs (n + 1) (k + 1 + 1) := rfl
    have h3 : (n + 1) * chs (n + 1) (k + 1) = (k + 1) * chs (n + 1) (k + 1) + (k + 1 + 1) * chs (n + 1) (k + 1 + 1) := by
      rw [← h1, ← h2, ← Nat.mul_add, ← e1]
    rw [e2, Nat.mul_add, Nat.add_mul (n + 1) 1, h3, Nat.add_mul (k + 1) 1 (chs (n + 1) (k + 1))]
    omega
theorem chs_B {n k : Nat} (h : k ≤ n) : (k + 1) * chs n (k + 1) = (n - k) * chs n k := by
  have h1 := chs_A n k
  have e1 : chs (n + 1) (k + 1) = chs n k + chs n (k + 1) := rfl
  rw [e1, Nat.mul_add] at h1
  have e2 : (n + 1) * chs n k = (n - k) * chs n k + (k + 1) * chs n k := by
    rw [← Nat.add_mul, show n - k + (k + 1) = n + 1 by omega]
  omega
theorem chs_F {n : Nat} : ∀ k, k ≤ n → chs n k * fct k * fct (n - k) = fct n
  | 0, _ => by rw [chs_0]; show 1 * 1 * fct (n - 0) = fct n; rw [Nat.mul_one, Nat.one_mul, Nat.sub_zero]
  | k + 1, h => by
    have ih := chs_F k (by omega : k ≤ n)
    have hb := chs_B (show k ≤ n by omega)
    obtain ⟨j, hj⟩ : ∃ j, n - k = j + 1 := ⟨n - k - 1, by omega⟩
    have e1 : fct (n - k) = (n - k) * fct (n - (k + 1)) := by
      rw [hj, show n - (k + 1) = j by omega]; rfl
    show chs n (k + 1) * ((k + 1) * fct k) * fct (n - (k + 1)) = fct n
    rw [← ih, e1]
    rw [show chs n (k + 1) * ((k + 1) * fct k) = (k + 1) * chs n (k + 1) * fct k by ac_rfl, hb]
    ac_rfl
theorem chs_le : ∀ n k, chs n k ≤ 2 ^ n
  | n, 0 => by rw [chs_0]; exact Nat.one_le_two_pow
  | 0, _ + 1 => by show 0 ≤ _; omega
  | n + 1, k + 1 => by
    have h1 := chs_le n k
    have h2 := chs_le n (k + 1)
    show chs n k + chs n (k + 1) ≤ 2 ^ (n + 1)
    rw [Nat.pow_succ]; omega
theorem chs_pos {n k : Nat} (h : k ≤ n) : 0 < chs n k := by
  have h1 := chs_F k h
  have h2 := fct_pos n
  rcases Nat.eq_zero_or_pos (chs n k) with e | e
  · rw [e, Nat.zero_mul, Nat.zero_mul] at h1; omega
  · exact e
theorem fct_10 {n : Nat} (h : n ≤ 10) : fct n ≤ 3628800 := by
  have : n = 0 ∨ n = 1 ∨ n = 2 ∨ n = 3 ∨ n = 4 ∨ n = 5 ∨ n = 6 ∨ n = 7 ∨ n = 8 ∨ n = 9 ∨ n = 10 := by omega
  rcases this with rfl | rfl | rfl | rfl | rfl | rfl | rfl | rfl | rfl | rfl | rfl <;> decide
/-- in how many ways, as each side works it out; of l, from g on, f of them -/
def wcS (l : Nat → Int) : Nat → Nat → Nat → Nat → Nat
  | 0, _, fr, w => if fr = 0 then w else 0
  | f + 1, g, fr, w => if 0 ≤ l g ∧ l g ≤ (fr : Int) then wcS l f (g + 1) (fr - (l g).toNat) (w * chs fr (l g).toNat) else 0
def wrS (l : Nat → Int) : Nat → Nat → Nat → Nat → Nat
  | 0, _, _, w => w
  | f + 1, g, n, w => wrS l f (g + 1) (n + (l g).toNat) (w * chs (n + (l g).toNat) (l g).toNat)
def prf (l : Nat → Int) : Nat → Nat → Nat
  | 0, _ => 1
  | f + 1, g => fct (l g).toNat * prf l f (g + 1)
def smS (l : Nat → Int) : Nat → Nat → Int
  | 0, _ => 0
  | f + 1, g => l g + smS l f (g + 1)
/-- none is below 0 -/
def nnS (l : Nat → Int) : Nat → Nat → Prop
  | 0, _ => True
  | f + 1, g => 0 ≤ l g ∧ nnS l f (g + 1)
theorem smS_nn {l : Nat → Int} : ∀ f g, nnS l f g → 0 ≤ smS l f g
  | 0, _, _ => Int.le_refl _
  | f + 1, g, h => by
    have := smS_nn f (g + 1) h.2
    have h1 := h.1
    show 0 ≤ l g + smS l f (g + 1)
    omega
theorem prf_pos {l : Nat → Int} : ∀ f g, 0 < prf l f g
  | 0, _ => Nat.one_pos
  | f + 1, g => Nat.mul_pos (fct_pos _) (prf_pos f (g + 1))
theorem wcS_1 {l : Nat → Int} : ∀ (f g fr w : Nat), nnS l f g → smS l f g = (fr : Int) → wcS l f g fr w * prf l f g = w * fct fr
  | 0, g, fr, w, _, h => by
    have h0 : (0 : Int) = fr := h
    have e : fr = 0 := by omega
    subst e
    show (if 0 = 0 then w else 0) * 1 = w * 1
    rw [if_pos rfl]
  | f + 1, g, fr, w, hn, h => by
    have hs := smS_nn f (g + 1) hn.2
    have h1 := hn.1
    have hh : l g + smS l f (g + 1) = fr := h
    have ih := wcS_1 f (g + 1) (fr - (l g).toNat) (w * chs fr (l g).toNat) hn.2 (by omega)
    have hF := chs_F (n := fr) (l g).toNat (by omega)
    unfold wcS prf
    rw [if_pos ⟨h1, by omega⟩, show wcS l f (g + 1) (fr - (l g).toNat) (w * chs fr (l g).toNat) * (fct (l g).toNat * prf l f (g + 1)) = wcS l f (g + 1) (fr - (l g).toNat) (w * chs fr (l g).toNat) * prf l f (g + 1) * fct (l g).toNat by ac_rfl, ih, ← hF]
    ac_rfl
theorem wcS_0 {l : Nat → Int} : ∀ (f g fr w : Nat), ¬ (nnS l f g ∧ smS l f g = (fr : Int)) → wcS l f g fr w = 0
  | 0, g, fr, w, h => by
    have h0 : ¬ fr = 0 := fun z => h ⟨trivial, by subst z; rfl⟩
    show (if fr = 0 then w else 0) = 0
    rw [if_neg h0]
  | f + 1, g, fr, w, h => by
    unfold wcS
    by_cases q : 0 ≤ l g ∧ l g ≤ (fr : Int)
    · rw [if_pos q]
      refine wcS_0 f (g + 1) _ _ (fun z => h ⟨⟨q.1, z.1⟩, ?_⟩)
      have := z.2
      show l g + smS l f (g + 1) = fr
      omega
    · rw [if_neg q]
theorem wrS_1 {l : Nat → Int} : ∀ (f g n w : Nat), nnS l f g → wrS l f g n w * prf l f g * fct n = w * fct (n + (smS l f g).toNat)
  | 0, g, n, w, _ => by
    show w * 1 * fct n = w * fct (n + (0 : Int).toNat)
    rw [Nat.mul_one]; rfl
  | f + 1, g, n, w, hn => by
    have hs := smS_nn f (g + 1) hn.2
    have h1 := hn.1
    have ih := wrS_1 f (g + 1) (n + (l g).toNat) (w * chs (n + (l g).toNat) (l g).toNat) hn.2
    have hF := chs_F (n := n + (l g).toNat) (l g).toNat (by omega)
    have hp := chs_pos (n := n + (l g).toNat) (k := (l g).toNat) (by omega)
    have es : n + (smS l (f + 1) g).toNat = n + (l g).toNat + (smS l f (g + 1)).toNat := by
      show n + (l g + smS l f (g + 1)).toNat = _
      omega
    rw [show n + (l g).toNat - (l g).toNat = n by omega] at hF
    unfold wrS prf
    rw [es]
    generalize wrS l f (g + 1) (n + (l g).toNat) (w * chs (n + (l g).toNat) (l g).toNat) = W at ih
    refine Nat.eq_of_mul_eq_mul_left hp ?_
    rw [show chs (n + (l g).toNat) (l g).toNat * (W * (fct (l g).toNat * prf l f (g + 1)) * fct n) = W * prf l f (g + 1) * (chs (n + (l g).toNat) (l g).toNat * fct (l g).toNat * fct n) by ac_rfl, hF, ih]
    ac_rfl
theorem ways_eq {l : Nat → Int} {N : Nat} (hn : nnS l 6 0) (hs : smS l 6 0 = (N : Int)) : wrS l 6 0 0 1 = wcS l 6 0 N 1 := by
  have h1 := wcS_1 6 0 N 1 hn hs
  have h2 := wrS_1 6 0 0 1 hn
  rw [show 0 + (smS l 6 0).toNat = N by omega] at h2
  have hp := prf_pos (l := l) 6 0
  refine Nat.eq_of_mul_eq_mul_right hp ?_
  rw [h1, ← h2]
  show _ = _ * 1
  rw [Nat.mul_one]
def decL (l : Nat → Int) (g : Nat) : Nat → Int := fun i => if i = g then l i - 1 else l i
theorem six {l : Nat → Int} : (nnS l 6 0 ↔ (0 ≤ l 0 ∧ 0 ≤ l 1 ∧ 0 ≤ l 2 ∧ 0 ≤ l 3 ∧ 0 ≤ l 4 ∧ 0 ≤ l 5)) ∧ smS l 6 0 = l 0 + (l 1 + (l 2 + (l 3 + (l 4 + (l 5 + 0))))) ∧ prf l 6 0 = fct (l 0).toNat * (fct (l 1).toNat * (fct (l 2).toNat * (fct (l 3).toNat * (fct (l 4).toNat * (fct (l 5).toNat * 1))))) := by
  refine ⟨?_, rfl, rfl⟩
  show (0 ≤ l 0 ∧ 0 ≤ l 1 ∧ 0 ≤ l 2 ∧ 0 ≤ l 3 ∧ 0 ≤ l 4 ∧ 0 ≤ l 5 ∧ True) ↔ _
  simp
theorem fct_pred {x : Int} (h : 1 ≤ x) : fct x.toNat = x.toNat * fct (x - 1).toNat := by
  obtain ⟨j, hj⟩ : ∃ j : Nat, x = (j : Int) + 1 := ⟨(x - 1).toNat, by omega⟩
  subst hj
  rw [show ((j : Int) + 1).toNat = j + 1 by omega, show ((j : Int) + 1 - 1).toNat = j by omega]; rfl
theorem prf_dec {l : Nat → Int} {g : Nat} (hg : g < 6) (h : 1 ≤ l g) : prf l 6 0 = prf (decL l g) 6 0 * (l g).toNat := by
  have e : ∀ i, ¬ i = g → decL l g i = l i := fun i hi => if_neg hi
  have e2 : decL l g g = l g - 1 := if_pos rfl
  rw [(six (l := l)).2.2, (six (l := decL l g)).2.2]
  have hf := fct_pred h
  have : g = 0 ∨ g = 1 ∨ g = 2 ∨ g = 3 ∨ g = 4 ∨ g = 5 := by omega
  rcases this with rfl | rfl | rfl | rfl | rfl | rfl
  · rw [e2, e 1 (by omega), e 2 (by omega), e 3 (by omega), e 4 (by omega), e 5 (by omega), hf]; ac_rfl
  · rw [e 0 (by omega), e2, e 2 (by omega), e 3 (by omega), e 4 (by omega), e 5 (by omega), hf]; ac_rfl
  · rw [e 0 (by omega), e 1 (by omega), e2, e 3 (by omega), e 4 (by omega), e 5 (by omega), hf]; ac_rfl
  · rw [e 0 (by omega), e 1 (by omega), e 2 (by omega), e2, e 4 (by omega), e 5 (by omega), hf]; ac_rfl
  · rw [e 0 (by omega), e 1 (by omega), e 2 (by omega), e 3 (by omega), e2, e 5 (by omega), hf]; ac_rfl
  · rw [e 0 (by omega), e 1 (by omega), e 2 (by omega), e 3 (by omega), e 4 (by omega), e2, hf]; ac_rfl
theorem nn_dec {l : Nat → Int} {g : Nat} (hg : g < 6) : (nnS (decL l g) 6 0 ↔ nnS l 6 0 ∧ 1 ≤ l g) ∧ smS (decL l g) 6 0 = smS l 6 0 - 1 := by
  have e : ∀ i, ¬ i = g → decL l g i = l i := fun i hi => if_neg hi
  have e2 : decL l g g = l g - 1 := if_pos rfl
  rw [(six (l := l)).1, (six (l := decL l g)).1, (six (l := l)).2.1, (six (l := decL l g)).2.1]
  have : g = 0 ∨ g = 1 ∨ g = 2 ∨ g = 3 ∨ g = 4 ∨ g = 5 := by omega
  rcases this with rfl | rfl | rfl | rfl | rfl | rfl
  · rw [e2, e 1 (by omega), e 2 (by omega), e 3 (by omega), e 4 (by omega), e 5 (by omega)]; omega
  · rw [e 0 (by omega), e2, e 2 (by omega), e 3 (by omega), e 4 (by omega), e 5 (by omega)]; omega
  · rw [e 0 (by omega), e 1 (by omega), e2, e 3 (by omega), e 4 (by omega), e 5 (by omega)]; omega
  · rw [e 0 (by omega), e 1 (by omega), e 2 (by omega), e2, e 4 (by omega), e 5 (by omega)]; omega
  · rw [e 0 (by omega), e 1 (by omega), e 2 (by omega), e 3 (by omega), e2, e 5 (by omega)]; omega
  · rw [e 0 (by omega), e 1 (by omega), e 2 (by omega), e 3 (by omega), e 4 (by omega), e2]; omega
/-- of these with a told sack holding a told good -/
theorem ways_with {l : Nat → Int} {g N : Nat} (hg : g < 6) (hN : 0 < N) (hn : nnS l 6 0) (hs : smS l 6 0 = (N : Int)) : wcS l 6 0 N 1 * (l g).toNat / N = wcS (decL l g) 6 0 (N - 1) 1 := by
  obtain ⟨d1, d2⟩ := nn_dec (l := l) hg
  by_cases h : 1 ≤ l g
  · have h1 := wcS_1 6 0 N 1 hn hs
    have h2 := wcS_1 (l := decL l g) 6 0 (N - 1) 1 (d1.mpr ⟨hn, h⟩) (by omega)
    have hp := prf_pos (l := decL l g) 6 0
    rw [prf_dec hg h] at h1
    obtain ⟨M, rfl⟩ : ∃ q, N = q + 1 := ⟨N - 1, by omega⟩
    have eF : fct (M + 1) = (M + 1) * fct M := rfl
    rw [show M + 1 - 1 = M by omega] at h2 ⊢
    rw [Nat.one_mul] at h1 h2
    generalize wcS l 6 0 (M + 1) 1 = X at h1
    generalize wcS (decL l g) 6 0 M 1 = Y at h2
    refine Nat.div_eq_of_eq_mul_right hN ?_
    refine Nat.eq_of_mul_eq_mul_right hp ?_
    rw [show X * (l g).toNat * prf (decL l g) 6 0 = X * (prf (decL l g) 6 0 * (l g).toNat) by ac_rfl, h1, eF, ← h2]
    ac_rfl
  · have e0 : (l g).toNat = 0 := by omega
    rw [e0, Nat.mul_zero, Nat.zero_div, wcS_0 6 0 (N - 1) 1 (fun z => h (d1.mp z.1).2)]
end COMBI
