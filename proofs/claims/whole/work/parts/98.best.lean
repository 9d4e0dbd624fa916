/-! ===== the best of the sacks to buy, as each side looks for it ===== -/
section BEST
/-- most worth, of like ones fewest, of these the least: one number that grows -/
def ky (v : Int) (x : Nat) : Int := v * 16384 + (10 - (cntB 10 x : Int)) * 1024 + (1023 - (x : Int))
def mxI (K L : Int) : Int := if K < L then L else K
def bstC (g a : Nat → Int) : Nat → Nat → Nat → Int → Int → Int → Int
  | 0, _, x, v, _, K => mxI K (ky v x)
  | f + 1, s, x, v, p, K => if 0 < g s ∧ a s ≤ p then bstC g a f (s + 1) (x + 2 ^ s) (v + g s) (p - a s) (bstC g a f (s + 1) x v p K) else bstC g a f (s + 1) x v p K
def vS (g : Nat → Int) : Nat → Nat → Nat → Int
  | 0, _, _ => 0
  | f + 1, s, y => (if y % 2 = 1 then g s else 0) + vS g f (s + 1) (y / 2)
def okC (g a : Nat → Int) : Nat → Nat → Nat → Int → Prop
  | 0, _, _, _ => True
  | f + 1, s, y, p => if y % 2 = 1 then 0 < g s ∧ a s ≤ p ∧ okC g a f (s + 1) (y / 2) (p - a s) else okC g a f (s + 1) (y / 2) p
theorem mxI_l {K L : Int} : K ≤ mxI K L ∧ L ≤ mxI K L ∧ (mxI K L = K ∨ mxI K L = L) := by
  unfold mxI
  by_cases h : K < L
  · rw [if_pos h]; exact ⟨by omega, Int.le_refl _, Or.inr rfl⟩
  · rw [if_neg h]; exact ⟨Int.le_refl _, by omega, Or.inl rfl⟩
theorem bstC_K {g a : Nat → Int} : ∀ (f s x : Nat) (v p K : Int), K ≤ bstC g a f s x v p K
  | 0, _, _, _, _, _ => mxI_l.1
  | f + 1, s, x, v, p, K => by
    unfold bstC
    have h1 := bstC_K (g := g) (a := a) f (s + 1) x v p K
    split
    · exact Int.le_trans h1 (bstC_K f (s + 1) _ _ _ _)
    · exact h1
theorem y2 {x s y : Nat} (h : y % 2 = 1) : x + 2 ^ s * y = x + 2 ^ s + 2 ^ (s + 1) * (y / 2) := by
  have e : y = 1 + 2 * (y / 2) := by omega
  rw [Nat.pow_succ, Nat.mul_assoc]
  have : 2 ^ s * y = 2 ^ s * (1 + 2 * (y / 2)) := by rw [← e]
  rw [this, Nat.mul_add, Nat.mul_one, Nat.add_assoc]
theorem y1 {x s y : Nat} (h : ¬ y % 2 = 1) : x + 2 ^ s * y = x + 2 ^ (s + 1) * (y / 2) := by
  have e : y = 2 * (y / 2) := by omega
  rw [Nat.pow_succ, Nat.mul_assoc, ← e]
theorem bstC_le {g a : Nat → Int} : ∀ (f s x y : Nat) (v p K : Int), y < 2 ^ f → okC g a f s y p → ky (v + vS g f s y) (x + 2 ^ s * y) ≤ bstC g a f s x v p K
  | 0, s, x, y, v, p, K, h, _ => by
    have e : y = 0 := by rw [Nat.pow_zero] at h; omega
    subst e
    rw [Nat.mul_zero, Nat.add_zero]
    show ky (v + 0) x ≤ mxI K (ky v x)
    rw [Int.add_zero]
    exact mxI_l.2.1
  | f + 1, s, x, y, v, p, K, h, ho => by
    rw [Nat.pow_succ] at h
    unfold okC at ho
    unfold bstC vS
    by_cases hy : y % 2 = 1
    · rw [if_pos hy] at ho
      rw [if_pos (show 0 < g s ∧ a s ≤ p from ⟨ho.1, ho.2.1⟩), if_pos hy, y2 hy, ← Int.add_assoc]
      exact bstC_le f (s + 1) _ _ _ _ _ (by omega) ho.2.2
    · rw [if_neg hy] at ho
      rw [if_neg hy, y1 hy, Int.zero_add]
      have h1 := bstC_le (g := g) (a := a) f (s + 1) x (y / 2) v p K (by omega) ho
      split
      · exact Int.le_trans h1 (bstC_K f (s + 1) _ _ _ _)
      · exact h1
theorem bstC_at {g a : Nat → Int} : ∀ (f s x : Nat) (v p K : Int), bstC g a f s x v p K = K ∨ ∃ y, y < 2 ^ f ∧ okC g a f s y p ∧ bstC g a f s x v p K = ky (v + vS g f s y) (x + 2 ^ s * y)
  | 0, s, x, v, p, K => by
    rcases (mxI_l (K := K) (L := ky v x)).2.2 with h | h
    · exact Or.inl h
    · refine Or.inr ⟨0, by rw [Nat.pow_zero]; omega, trivial, ?_⟩
      rw [Nat.mul_zero, Nat.add_zero]
      show mxI K (ky v x) = ky (v + 0) x
      rw [Int.add_zero]; exact h
  | f + 1, s, x, v, p, K => by
    have low : bstC g a f (s + 1) x v p K = K ∨ ∃ y, y < 2 ^ (f + 1) ∧ okC g a (f + 1) s y p ∧ bstC g a f (s + 1) x v p K = ky (v + vS g (f + 1) s y) (x + 2 ^ s * y) := by
      rcases bstC_at (g := g) (a := a) f (s + 1) x v p K with h | ⟨y, h1, h2, h3⟩
      · exact Or.inl h
      · have hy : ¬ (2 * y) % 2 = 1 := by omega
        refine Or.inr ⟨2 * y, by rw [Nat.pow_succ]; omega, ?_, ?_⟩
        · unfold okC; rw [if_neg hy, show 2 * y / 2 = y by omega]; exact h2
        · unfold vS
          rw [if_neg hy, y1 hy, show 2 * y / 2 = y by omega, Int.zero_add]; exact h3
    unfold bstC
    by_cases q : 0 < g s ∧ a s ≤ p
    · rw [if_pos q]
      rcases bstC_at (g := g) (a := a) f (s + 1) (x + 2 ^ s) (v + g s) (p - a s) (bstC g a f (s + 1) x v p K) with h | ⟨y, h1, h2, h3⟩
      · rw [h]; exact low
      · have hy : (2 * y + 1) % 2 = 1 := by omega
        refine Or.inr ⟨2 * y + 1, by rw [Nat.pow_succ]; omega, ?_, ?_⟩
        · unfold okC; rw [if_pos hy, show (2 * y + 1) / 2 = y by omega]; exact ⟨q.1, q.2, h2⟩
        · unfold vS
          rw [if_pos hy, y2 hy, show (2 * y + 1) / 2 = y by omega, ← Int.add_assoc]; exact h3
    · rw [if_neg q]; exact low
/-- all that are in a set are free -/
def frB (fr : Nat → Bool) : Nat → Nat → Nat → Bool
  | 0, _, _ => true
  | f + 1, s, y => (if y % 2 = 1 then fr s else true) && frB fr f (s + 1) (y / 2)
def feS (fr : Nat → Bool) (a : Nat → Int) (p : Int) (x : Nat) : Bool := frB fr 10 0 x && decide (vS a 10 0 x ≤ p)
def bstR (fr : Nat → Bool) (gr a : Nat → Int) (p : Int) : Nat → Nat → Int → Int
  | 0, _, K => K
  | f + 1, x, K => bstR fr gr a p f (x + 1) (if feS fr a p x then mxI K (ky (vS gr 10 0 x) x) else K)
section RR
variable {fr : Nat → Bool} {g gr a : Nat → Int} {p : Int}
theorem bstR_K : ∀ (f x : Nat) (K : Int), K ≤ bstR fr gr a p f x K
  | 0, _, _ => Int.le_refl _
  | f + 1, x, K => by
    unfold bstR
    refine Int.le_trans ?_ (bstR_K f (x + 1) _)
    split
    · exact mxI_l.1
    · exact Int.le_refl _
theorem bstR_le : ∀ (f x : Nat) (K : Int) (S : Nat), x ≤ S → S < x + f → feS fr a p S = true → ky (vS gr 10 0 S) S ≤ bstR fr gr a p f x K
  | 0, x, K, S, h1, h2, _ => by omega
  | f + 1, x, K, S, h1, h2, h3 => by
    unfold bstR
    by_cases e : S = x
    · subst e
      rw [if_pos h3]
      exact Int.le_trans mxI_l.2.1 (bstR_K f (S + 1) _)
    · exact bstR_le f (x + 1) _ S (by omega) (by omega) h3
theorem bstR_at : ∀ (f x : Nat) (K : Int), bstR fr gr a p f x K = K ∨ ∃ S, x ≤ S ∧ S < x + f ∧ feS fr a p S = true ∧ bstR fr gr a p f x K = ky (vS gr 10 0 S) S
  | 0, _, _ => Or.inl rfl
  | f + 1, x, K => by
    unfold bstR
    rcases bstR_at f (x + 1) (if feS fr a p x then mxI K (ky (vS gr 10 0 x) x) else K) with h | ⟨S, h1, h2, h3, h4⟩
    · rw [h]
      by_cases q : feS fr a p x = true
      · rw [if_pos q]
        rcases (mxI_l (K := K) (L := ky (vS gr 10 0 x) x)).2.2 with e | e
        · exact Or.inl e
        · exact Or.inr ⟨x, Nat.le_refl _, by omega, q, e⟩
      · rw [if_neg q]; exact Or.inl rfl
    · exact Or.inr ⟨S, by omega, by omega, h3, h4⟩
def flt (g : Nat → Int) : Nat → Nat → Nat → Nat
  | 0, _, _ => 0
  | f + 1, s, y => (if y % 2 = 1 ∧ 0 < g s then 1 else 0) + 2 * flt g f (s + 1) (y / 2)
theorem vS_0 (ha : ∀ k, 0 ≤ a k) : ∀ f s y, 0 ≤ vS a f s y
  | 0, _, _ => Int.le_refl _
  | f + 1, s, y => by
    have h1 := vS_0 ha f (s + 1) (y / 2)
    have h2 := ha s
    unfold vS
    split <;> omega
theorem flt_lt : ∀ f s y, flt g f s y < 2 ^ f
  | 0, _, _ => by show 0 < 2 ^ 0; rw [Nat.pow_zero]; omega
  | f + 1, s, y => by
    have h1 := flt_lt f (s + 1) (y / 2)
    unfold flt
    rw [Nat.pow_succ]
    split <;> omega
theorem flt_ok (ha : ∀ k, 0 ≤ a k) : ∀ (f s y : Nat) (p : Int), vS a f s y ≤ p → okC g a f s (flt g f s y) p
  | 0, _, _, _, _ => trivial
  | f + 1, s, y, p, h => by
    have h1 := vS_0 ha f (s + 1) (y / 2)
    have h2 := ha s
    unfold vS at h
    unfold okC flt
    by_cases q : y % 2 = 1 ∧ 0 < g s
    · rw [if_pos q, if_pos (by omega), show (1 + 2 * flt g f (s + 1) (y / 2)) / 2 = flt g f (s + 1) (y / 2) by omega]
      rw [if_pos q.1] at h
      exact ⟨q.2, by omega, flt_ok ha f (s + 1) (y / 2) _ (by omega)⟩
    · rw [if_neg q, if_neg (by omega), show (0 + 2 * flt g f (s + 1) (y / 2)) / 2 = flt g f (s + 1) (y / 2) by omega]
      refine flt_ok ha f (s + 1) (y / 2) p ?_
      split at h <;> omega
theorem flt_c : ∀ f s y, y < 2 ^ f → cntB f (flt g f s y) ≤ cntB f y ∧ (flt g f s y = y ∨ cntB f (flt g f s y) < cntB f y)
  | 0, s, y, h => by
    have e : y = 0 := by rw [Nat.pow_zero] at h; omega
    subst e
    exact ⟨Nat.le_refl _, Or.inl rfl⟩
  | f + 1, s, y, h => by
    rw [Nat.pow_succ] at h
    obtain ⟨h1, h2⟩ := flt_c f (s + 1) (y / 2) (by omega)
    unfold flt cntB
    by_cases q : y % 2 = 1 ∧ 0 < g s
    · rw [if_pos q, show (1 + 2 * flt g f (s + 1) (y / 2)) / 2 = flt g f (s + 1) (y / 2) by omega]
      refine ⟨by omega, ?_⟩
      rcases h2 with h2 | h2
      · exact Or.inl (by omega)
      · exact Or.inr (by omega)
    · rw [if_neg q, show (0 + 2 * flt g f (s + 1) (y / 2)) / 2 = flt g f (s + 1) (y / 2) by omega]
      refine ⟨by omega, ?_⟩
      by_cases hy : y % 2 = 1
      · exact Or.inr (by omega)
      · rcases h2 with h2 | h2
        · exact Or.inl (by omega)
        · exact Or.inr (by omega)
theorem flt_v {sN : Nat} (h1 : ∀ k, 0 < g k → g k = gr k) (h2 : ∀ k, k < sN → fr k = true → 0 < gr k → g k = gr k) : ∀ f s y, y < 2 ^ (sN - s) → frB fr f s y = true → vS gr f s y ≤ vS g f s (flt g f s y)
  | 0, _, _, _, _ => Int.le_refl _
  | f + 1, s, y, h, hf => by
    have hf' : ((if y % 2 = 1 then fr s else true) && frB fr f (s + 1) (y / 2)) = true := hf
    rw [Bool.and_eq_true] at hf'
    have hlt : y / 2 < 2 ^ (sN - (s + 1)) := by
      by_cases q : s < sN
      · rw [show sN - s = sN - (s + 1) + 1 by omega, Nat.pow_succ] at h
        omega
      · rw [show sN - s = 0 by omega, Nat.pow_zero] at h
        have : 0 < 2 ^ (sN - (s + 1)) := Nat.pow_pos (by omega)
        omega
    have ih := flt_v h1 h2 f (s + 1) (y / 2) hlt hf'.2
    unfold flt vS
    by_cases hy : y % 2 = 1
    · have hs : s < sN := by
        by_cases q : s < sN
        · exact q
        · rw [show sN - s = 0 by omega, Nat.pow_zero] at h; omega
      rw [if_pos hy] at hf'
      rw [if_pos hy]
      by_cases q : 0 < g s
      · have := h1 s q
        rw [if_pos (show y % 2 = 1 ∧ 0 < g s from ⟨hy, q⟩), if_pos (by omega), show (1 + 2 * flt g f (s + 1) (y / 2)) / 2 = flt g f (s + 1) (y / 2) by omega]
        omega
      · have hgr : ¬ 0 < gr s := fun z => by have := h2 s hs hf'.1 z; omega
        rw [if_neg (show ¬ (y % 2 = 1 ∧ 0 < g s) from fun z => q z.2), if_neg (by omega), show (0 + 2 * flt g f (s + 1) (y / 2)) / 2 = flt g f (s + 1) (y / 2) by omega]
        omega
    · rw [if_neg hy, if_neg (show ¬ (y % 2 = 1 ∧ 0 < g s) from fun z => hy z.1), if_neg (by omega), show (0 + 2 * flt g f (s + 1) (y / 2)) / 2 = flt g f (s + 1) (y / 2) by omega]
      omega
theorem okC_r {sN : Nat} (ha : ∀ k, 0 ≤ a k) (h1 : ∀ k, 0 < g k → k < sN ∧ fr k = true ∧ g k = gr k) : ∀ (f s y : Nat) (p : Int), y < 2 ^ f → 0 ≤ p → okC g a f s y p → frB fr f s y = true ∧ vS a f s y ≤ p ∧ vS g f s y = vS gr f s y ∧ y < 2 ^ (sN - s)
  | 0, s, y, p, h, hp, _ => by
    have e : y = 0 := by rw [Nat.pow_zero] at h; omega
    subst e
    exact ⟨rfl, hp, rfl, Nat.pow_pos (by omega)⟩
  | f + 1, s, y, p, h, hp, ho => by
    rw [Nat.pow_succ] at h
    unfold okC at ho
    show ((if y % 2 = 1 then fr s else true) && frB fr f (s + 1) (y / 2)) = true ∧ (if y % 2 = 1 then a s else 0) + vS a f (s + 1) (y / 2) ≤ p ∧ (if y % 2 = 1 then g s else 0) + vS g f (s + 1) (y / 2) = (if y % 2 = 1 then gr s else 0) + vS gr f (s + 1) (y / 2) ∧ y < 2 ^ (sN - s)
    by_cases hy : y % 2 = 1
    · rw [if_pos hy] at ho
      have q := h1 s ho.1
      obtain ⟨i1, i2, i3, i4⟩ := okC_r ha h1 f (s + 1) (y / 2) (p - a s) (by omega) (by omega) ho.2.2
      rw [if_pos hy, if_pos hy, if_pos hy, if_pos hy, i1, q.2.1, i3, q.2.2]
      refine ⟨rfl, by omega, rfl, ?_⟩
      rw [show sN - s = sN - (s + 1) + 1 by omega, Nat.pow_succ]; omega
    · rw [if_neg hy] at ho
      obtain ⟨i1, i2, i3, i4⟩ := okC_r ha h1 f (s + 1) (y / 2) p (by omega) hp ho
      rw [if_neg hy, if_neg hy, if_neg hy, if_neg hy, i1, i3]
      refine ⟨rfl, by omega, rfl, ?_⟩
      by_cases q : s < sN
      · rw [show sN - s = sN - (s + 1) + 1 by omega, Nat.pow_succ]; omega
      · rw [show sN - (s + 1) = 0 by omega, Nat.pow_zero] at i4
        have : 0 < 2 ^ (sN - s) := Nat.pow_pos (by omega)
        omega
theorem flt_all {sN : Nat} (ha : ∀ k, 0 ≤ a k) (h1 : ∀ k, 0 < g k → g k = gr k) (h2 : ∀ k, k < sN → fr k = true → 0 < gr k → g k = gr k) (F y : Nat) (p : Int) (hy : y < 2 ^ F) (hv : vS a F 0 y ≤ p) (hf : frB fr F 0 y = true) (hn : y < 2 ^ sN) : ∃ z, z < 2 ^ F ∧ okC g a F 0 z p ∧ cntB F z ≤ cntB F y ∧ (z = y ∨ cntB F z < cntB F y) ∧ vS gr F 0 y ≤ vS g F 0 z :=
  ⟨flt g F 0 y, flt_lt F 0 y, flt_ok ha F 0 y p hv, (flt_c F 0 y hy).1, (flt_c F 0 y hy).2, flt_v h1 h2 F 0 y (by rw [Nat.sub_zero]; exact hn) hf⟩
/-- both find the same -/
theorem best_eq {sN : Nat} (hs : sN ≤ 10) (hp : 0 ≤ p) (ha : ∀ k, 0 ≤ a k) (h1 : ∀ k, 0 < g k → k < sN ∧ fr k = true ∧ g k = gr k) (h2 : ∀ k, k < sN → fr k = true → 0 < gr k → g k = gr k) : bstC g a 10 0 0 0 p (ky 0 0) = bstR fr gr a p (2 ^ sN - 1) 1 (ky 0 0) := by
  have pw : 2 ^ sN ≤ 2 ^ 10 := Nat.pow_le_pow_right (by omega) hs
  apply Int.le_antisymm
  · rcases bstC_at (g := g) (a := a) 10 0 0 0 p (ky 0 0) with h | ⟨y, i1, i2, i3⟩
    · rw [h]; exact bstR_K _ _ _
    · obtain ⟨j1, j2, j3, j4⟩ := okC_r ha h1 10 0 y p i1 hp i2
      rw [i3, j3, Int.zero_add, Nat.pow_zero, Nat.one_mul, Nat.zero_add]
      by_cases y0 : y = 0
      · subst y0
        rw [show vS gr 10 0 0 = 0 from rfl]
        exact bstR_K _ _ _
      · rw [Nat.sub_zero] at j4
        refine bstR_le _ 1 _ y (by omega) (by omega) ?_
        unfold feS
        rw [j1, decide_eq_true j2]; rfl
  · rcases bstR_at (fr := fr) (gr := gr) (a := a) (p := p) (2 ^ sN - 1) 1 (ky 0 0) with h | ⟨S, i1, i2, i3, i4⟩
    · rw [h]; exact bstC_K _ _ _ _ _ _
    · have hS : S < 2 ^ sN := by omega
      have i3' : (frB fr 10 0 S && decide (vS a 10 0 S ≤ p)) = true := i3
      rw [Bool.and_eq_true, decide_eq_true_eq] at i3'
      obtain ⟨z, lt, ok, cc1, cc2, vv⟩ := flt_all (fr := fr) (g := g) (gr := gr) (sN := sN) ha (fun k hk => (h1 k hk).2.2) h2 10 S p (by omega) i3'.2 i3'.1 hS
      have le := bstC_le (g := g) (a := a) 10 0 0 z 0 p (ky 0 0) lt ok
      rw [Int.zero_add, Nat.pow_zero, Nat.one_mul, Nat.zero_add] at le
      rw [i4]
      refine Int.le_trans ?_ le
      have c10 := cntB_le 10 S
      have lt10 : z < 1024 := lt
      unfold ky
      rcases cc2 with e | e
      · subst e; omega
      · omega
end RR
end BEST
