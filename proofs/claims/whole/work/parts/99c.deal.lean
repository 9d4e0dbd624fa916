/-! ===== dealt: what both sides reckon, purely ===== -/
section BT
def btS (x k : Nat) : Nat := x / 2 ^ k % 2
theorem btS_lt {x k : Nat} : btS x k < 2 := Nat.mod_lt _ (by omega)
theorem btS_small {x k : Nat} (h : x < 2 ^ k) : btS x k = 0 := by unfold btS; rw [Nat.div_eq_of_lt h]
theorem btS_hi {x k : Nat} (h : btS x k = 0) : (x + 2 ^ k) / 2 ^ (k + 1) = x / 2 ^ (k + 1) := by
  unfold btS at h
  have p : 0 < 2 ^ k := Nat.pow_pos (by omega)
  rw [Nat.pow_succ, ← Nat.div_div_eq_div_mul, ← Nat.div_div_eq_div_mul, Nat.add_div_right _ p]
  omega
theorem btS_add {x k : Nat} (h : btS x k = 0) : btS (x + 2 ^ k) k = 1 ∧ ∀ i, ¬ i = k → btS (x + 2 ^ k) i = btS x i := by
  have p : 0 < 2 ^ k := Nat.pow_pos (by omega)
  refine ⟨?_, fun i hi => ?_⟩
  · unfold btS at h ⊢
    rw [Nat.add_div_right _ p]; omega
  · by_cases q : i < k
    · unfold btS
      have e : 2 ^ k = 2 ^ i * (2 * 2 ^ (k - i - 1)) := by
        rw [show (2 : Nat) * 2 ^ (k - i - 1) = 2 ^ (k - i - 1 + 1) from (by rw [Nat.pow_succ, Nat.mul_comm]), ← Nat.pow_add]
        congr 1; omega
      rw [e, Nat.add_mul_div_left _ _ (Nat.pow_pos (by omega))]
      omega
    · have e : 2 ^ i = 2 ^ (k + 1) * 2 ^ (i - (k + 1)) := by rw [← Nat.pow_add]; congr 1; omega
      have h2 := btS_hi h
      unfold btS
      rw [e, ← Nat.div_div_eq_div_mul, ← Nat.div_div_eq_div_mul, h2]
theorem btS_up {x k n : Nat} (h : btS x k = 0) (hx : x < 2 ^ n) (hk : k < n) : x + 2 ^ k < 2 ^ n := by
  have h2 := btS_hi h
  have e : 2 ^ n = 2 ^ (k + 1) * 2 ^ (n - (k + 1)) := by rw [← Nat.pow_add]; congr 1; omega
  have p : 0 < 2 ^ (k + 1) := Nat.pow_pos (by omega)
  rw [e] at hx ⊢
  have h3 : x / 2 ^ (k + 1) < 2 ^ (n - (k + 1)) := Nat.div_lt_of_lt_mul hx
  rw [← h2] at h3
  exact (Nat.div_lt_iff_lt_mul p).mp (by rw [Nat.mul_comm] at *; exact h3) |> fun z => by rw [Nat.mul_comm]; exact z
end BT
section FOLD
variable {vd : Nat → Bool} {op : Nat → Int}
/-- the most of some options, one after the other -/
def fmx (vd : Nat → Bool) (op : Nat → Int) : Nat → Nat → Int → Int
  | 0, _, K => K
  | f + 1, k, K => fmx vd op f (k + 1) (if vd k then mxI K (op k) else K)
theorem fmx_K : ∀ (f k : Nat) (K : Int), K ≤ fmx vd op f k K
  | 0, _, _ => Int.le_refl _
  | f + 1, k, K => by
    unfold fmx
    refine Int.le_trans ?_ (fmx_K f (k + 1) _)
    split
    · exact mxI_l.1
    · exact Int.le_refl _
theorem fmx_le : ∀ (f k : Nat) (K : Int) (j : Nat), k ≤ j → j < k + f → vd j = true → op j ≤ fmx vd op f k K
  | 0, k, K, j, h1, h2, _ => by omega
  | f + 1, k, K, j, h1, h2, h3 => by
    unfold fmx
    by_cases e : j = k
    · subst e
      rw [if_pos h3]
      exact Int.le_trans mxI_l.2.1 (fmx_K f (j + 1) _)
    · exact fmx_le f (k + 1) _ j (by omega) (by omega) h3
theorem fmx_at : ∀ (f k : Nat) (K : Int), fmx vd op f k K = K ∨ ∃ j, k ≤ j ∧ j < k + f ∧ vd j = true ∧ fmx vd op f k K = op j
  | 0, _, _ => Or.inl rfl
  | f + 1, k, K => by
    unfold fmx
    rcases fmx_at f (k + 1) (if vd k then mxI K (op k) else K) with h | ⟨j, h1, h2, h3, h4⟩
    · rw [h]
      by_cases q : vd k = true
      · rw [if_pos q]
        rcases (mxI_l (K := K) (L := op k)).2.2 with e | e
        · exact Or.inl e
        · exact Or.inr ⟨k, Nat.le_refl _, by omega, q, e⟩
      · rw [if_neg q]; exact Or.inl rfl
    · exact Or.inr ⟨j, by omega, by omega, h3, h4⟩
end FOLD
section DEAL
variable {nb ns : Nat} {fr : Nat → Bool} {gn : Nat → Nat → Int} {a : Nat → Nat}
def pwB (b : Nat) : Int := (11 : Int) ^ (5 - b)
def wS (gn : Nat → Nat → Int) (b k : Nat) : Int := gn b k * 1771561 + (10 - (k : Int)) * pwB b
def okW (fr : Nat → Bool) (gn : Nat → Nat → Int) (b k : Nat) : Bool := fr k && decide (0 ≤ gn b k)
/-- worth and the digits behind it: of buyers from b on, these sacks gone -/
def Mx (fr : Nat → Bool) (gn : Nat → Nat → Int) (ns : Nat) : Nat → Nat → Nat → Int
  | 0, _, _ => 0
  | f + 1, b, go => fmx (fun k => okW fr gn b k && decide (btS go k = 0)) (fun k => wS gn b k + Mx fr gn ns f (b + 1) (go + 2 ^ k)) ns 0 (Mx fr gn ns f (b + 1) go)
/-- worth alone -/
def Mo (fr : Nat → Bool) (gn : Nat → Nat → Int) (ns : Nat) : Nat → Nat → Nat → Int
  | 0, _, _ => 0
  | f + 1, b, go => fmx (fun k => okW fr gn b k && decide (btS go k = 0)) (fun k => gn b k + Mo fr gn ns f (b + 1) (go + 2 ^ k)) ns 0 (Mo fr gn ns f (b + 1) go)
/-- an assignment (10: none) of buyers from b on, without what is gone -/
def vdM (fr : Nat → Bool) (gn : Nat → Nat → Int) (ns f b go : Nat) (a : Nat → Nat) : Prop := (∀ j, b ≤ j → j < b + f → a j = 10 ∨ (a j < ns ∧ okW fr gn j (a j) = true ∧ btS go (a j) = 0)) ∧ ∀ i j, b ≤ i → i < b + f → b ≤ j → j < b + f → ¬ i = j → ¬ a i = 10 → ¬ a i = a j
def scS (gn : Nat → Nat → Int) (a : Nat → Nat) : Nat → Nat → Int
  | 0, _ => 0
  | f + 1, b => (if a b = 10 then 0 else wS gn b (a b)) + scS gn a f (b + 1)
theorem scS_cg {a' : Nat → Nat} : ∀ f b, (∀ j, b ≤ j → j < b + f → a j = a' j) → scS gn a f b = scS gn a' f b
  | 0, _, _ => rfl
  | f + 1, b, h => by
    show (if a b = 10 then 0 else wS gn b (a b)) + scS gn a f (b + 1) = (if a' b = 10 then 0 else wS gn b (a' b)) + scS gn a' f (b + 1)
    rw [h b (Nat.le_refl _) (by omega), scS_cg f (b + 1) (fun j h1 h2 => h j (by omega) (by omega))]
theorem Mx_le (hs : ns ≤ 10) : ∀ f b go, vdM fr gn ns f b go a → scS gn a f b ≤ Mx fr gn ns f b go
  | 0, _, _, _ => Int.le_refl _
  | f + 1, b, go, h => by
    have hb := h.1 b (Nat.le_refl _) (by omega)
    unfold scS Mx
    by_cases q : a b = 10
    · rw [if_pos q, Int.zero_add]
      refine Int.le_trans (Mx_le hs f (b + 1) go ⟨fun j h1 h2 => h.1 j (by omega) (by omega), fun i j h1 h2 h3 h4 => h.2 i j (by omega) (by omega) (by omega) (by omega)⟩) (fmx_K _ _ _)
    · rw [if_neg q]
      have hb2 := hb.resolve_left q
      have bt := btS_add hb2.2.2
      have ih := Mx_le hs f (b + 1) (go + 2 ^ a b) ⟨fun j h1 h2 => by
        rcases h.1 j (by omega) (by omega) with z | z
        · exact Or.inl z
        · refine Or.inr ⟨z.1, z.2.1, ?_⟩
          rw [bt.2 (a j) (fun w => h.2 b j (Nat.le_refl _) (by omega) (by omega) (by omega) (by omega) q w.symm)]
          exact z.2.2, fun i j h1 h2 h3 h4 => h.2 i j (by omega) (by omega) (by omega) (by omega)⟩
      refine Int.le_trans (Int.add_le_add_left ih _) ?_
      exact fmx_le (vd := fun k => okW fr gn b k && decide (btS go k = 0)) (op := fun k => wS gn b k + Mx fr gn ns f (b + 1) (go + 2 ^ k)) ns 0 _ (a b) (Nat.zero_le _) (by omega) (by
        show (okW fr gn b (a b) && decide (btS go (a b) = 0)) = true
        rw [hb2.2.1, decide_eq_true hb2.2.2]; rfl)
theorem Mx_at (hs : ns ≤ 10) : ∀ f b go, ∃ a, vdM fr gn ns f b go a ∧ scS gn a f b = Mx fr gn ns f b go
  | 0, b, go => ⟨fun _ => 10, ⟨fun j h1 h2 => absurd h2 (by omega), fun i j h1 h2 => absurd h2 (by omega)⟩, rfl⟩
  | f + 1, b, go => by
    have key : ∀ (x go' : Nat), (x = 10 ∧ go' = go) ∨ (x < ns ∧ okW fr gn b x = true ∧ btS go x = 0 ∧ go' = go + 2 ^ x) → ∃ a, vdM fr gn ns (f + 1) b go a ∧ scS gn a (f + 1) b = (if x = 10 then 0 else wS gn b x) + Mx fr gn ns f (b + 1) go' := by
      intro x go' hx
      obtain ⟨a, h1, h2⟩ := Mx_at hs f (b + 1) go'
      have eo : ∀ j, b + 1 ≤ j → (if j = b then x else a j) = a j := fun j hj => if_neg (by omega)
      refine ⟨fun j => if j = b then x else a j, ⟨fun j j1 j2 => ?_, fun i j i1 i2 j1 j2 hij hi => ?_⟩, ?_⟩
      · by_cases e : j = b
        · subst e
          simp only [if_true]
          rcases hx with z | z
          · exact Or.inl z.1
          · exact Or.inr ⟨z.1, z.2.1, z.2.2.1⟩
        · simp only [if_neg e]
          rcases h1.1 j (by omega) (by omega) with z | z
          · exact Or.inl z
          · refine Or.inr ⟨z.1, z.2.1, ?_⟩
            rcases hx with w | w
            · rw [w.2] at z; exact z.2.2
            · have bt := btS_add w.2.2.1
              by_cases e2 : a j = x
              · exfalso
                have := z.2.2
                rw [w.2.2.2, e2, bt.1] at this
                omega
              · have := z.2.2
                rw [w.2.2.2, bt.2 _ e2] at this
                exact this
      · by_cases ei : i = b
        · subst ei
          have ej : ¬ j = i := fun z => hij z.symm
          simp only [if_true, if_neg ej] at hi ⊢
          intro w
          rcases hx with z | z
          · exact hi z.1
          · rcases h1.1 j (by omega) (by omega) with u | u
            · exact hi (by rw [w]; exact u)
            · have := u.2.2
              rw [← w, z.2.2.2, (btS_add z.2.2.1).1] at this
              omega
        · simp only [if_neg ei] at hi ⊢
          by_cases ej : j = b
          · subst ej
            simp only [if_true]
            intro w
            rcases hx with z | z
            · exact hi (by rw [w]; exact z.1)
            · rcases h1.1 i (by omega) (by omega) with u | u
              · exact hi u
              · have := u.2.2
                rw [w, z.2.2.2, (btS_add z.2.2.1).1] at this
                omega
          · simp only [if_neg ej]
            exact h1.2 i j (by omega) (by omega) (by omega) (by omega) hij hi
      · show (if (if b = b then x else a b) = 10 then 0 else wS gn b (if b = b then x else a b)) + scS gn (fun j => if j = b then x else a j) f (b + 1) = _
        rw [if_pos (rfl : b = b), ← h2]
        congr 1
        exact scS_cg f (b + 1) (fun j j1 _ => eo j j1)
    rcases fmx_at (vd := fun k => okW fr gn b k && decide (btS go k = 0)) (op := fun k => wS gn b k + Mx fr gn ns f (b + 1) (go + 2 ^ k)) ns 0 (Mx fr gn ns f (b + 1) go) with h | ⟨k, h1, h2, h3, h4⟩
    · obtain ⟨a, k1, k2⟩ := key 10 go (Or.inl ⟨rfl, rfl⟩)
      refine ⟨a, k1, ?_⟩
      rw [k2, if_pos rfl, Int.zero_add]
      exact h.symm
    · have h3' : (okW fr gn b k && decide (btS go k = 0)) = true := h3
      rw [Bool.and_eq_true, decide_eq_true_eq] at h3'
      obtain ⟨a, k1, k2⟩ := key k (go + 2 ^ k) (Or.inr ⟨by omega, h3'.1, h3'.2, rfl⟩)
      refine ⟨a, k1, ?_⟩
      rw [k2, if_neg (by omega)]
      exact h4.symm
end DEAL
