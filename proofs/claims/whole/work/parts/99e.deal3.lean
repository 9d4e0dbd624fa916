/-! ===== dealt: worth and digits ===== -/
section DEALE
variable {ns : Nat} {fr : Nat → Bool} {gn : Nat → Nat → Int}
def opD (fr : Nat → Bool) (gn : Nat → Nat → Int) (ns b go x go' : Nat) : Prop := (x = 10 ∧ go' = go) ∨ (x < ns ∧ okW fr gn b x = true ∧ btS go x = 0 ∧ go' = go + 2 ^ x)
def stO (gn : Nat → Nat → Int) (b x : Nat) : Int := if x = 10 then 0 else gn b x
theorem fold_at {w : Nat → Int} {T : Nat → Int} {b go : Nat} (hs : ns ≤ 10) : ∃ x go', opD fr gn ns b go x go' ∧ fmx (fun k => okW fr gn b k && decide (btS go k = 0)) (fun k => w k + T (go + 2 ^ k)) ns 0 (T go) = (if x = 10 then 0 else w x) + T go' := by
  rcases fmx_at (vd := fun k => okW fr gn b k && decide (btS go k = 0)) (op := fun k => w k + T (go + 2 ^ k)) ns 0 (T go) with h | ⟨k, h1, h2, h3, h4⟩
  · exact ⟨10, go, Or.inl ⟨rfl, rfl⟩, by rw [h, if_pos rfl, Int.zero_add]⟩
  · have h3' : (okW fr gn b k && decide (btS go k = 0)) = true := h3
    rw [Bool.and_eq_true, decide_eq_true_eq] at h3'
    exact ⟨k, go + 2 ^ k, Or.inr ⟨by omega, h3'.1, h3'.2, rfl⟩, by rw [if_neg (by omega)]; exact h4⟩
theorem fold_le {w : Nat → Int} {T : Nat → Int} {b go x go' : Nat} (hs : ns ≤ 10) (h : opD fr gn ns b go x go') : (if x = 10 then 0 else w x) + T go' ≤ fmx (fun k => okW fr gn b k && decide (btS go k = 0)) (fun k => w k + T (go + 2 ^ k)) ns 0 (T go) := by
  rcases h with ⟨h1, h2⟩ | ⟨h1, h2, h3, h4⟩
  · rw [if_pos h1, h2, Int.zero_add]; exact fmx_K _ _ _
  · rw [if_neg (by omega), h4]
    exact fmx_le (vd := fun k => okW fr gn b k && decide (btS go k = 0)) (op := fun k => w k + T (go + 2 ^ k)) ns 0 _ x (Nat.zero_le _) (by omega) (by
      show (okW fr gn b x && decide (btS go x = 0)) = true
      rw [h2, decide_eq_true h3]; rfl)
theorem pw_step {b : Nat} (h : b < 6) : (11 : Int) ^ (6 - b) = 11 * pwB b ∧ (11 : Int) ^ (6 - (b + 1)) = pwB b ∧ (1771561 : Int) = 11 * pwB b * (11 : Int) ^ b := by
  refine ⟨?_, ?_, ?_⟩
  · unfold pwB; rw [show 6 - b = 5 - b + 1 by omega, Int.pow_succ, Int.mul_comm]
  · unfold pwB; rw [show 6 - (b + 1) = 5 - b by omega]
  · rcases (by omega : b = 0 ∨ b = 1 ∨ b = 2 ∨ b = 3 ∨ b = 4 ∨ b = 5) with e | e | e | e | e | e <;> subst e <;> decide
theorem wst {b x : Nat} : (if x = 10 then 0 else wS gn b x) = stO gn b x * 1771561 + (10 - (x : Int)) * pwB b := by
  unfold stO wS
  by_cases e : x = 10
  · subst e; rw [if_pos rfl, if_pos rfl]; simp
  · rw [if_neg e, if_neg e]
theorem link (hs : ns ≤ 10) : ∀ f b go, b + f ≤ 6 → ∃ dg, Mx fr gn ns f b go = Mo fr gn ns f b go * 1771561 + dg ∧ 0 ≤ dg ∧ dg < (11 : Int) ^ (6 - b)
  | 0, b, go, _ => ⟨0, by show (0 : Int) = 0 * 1771561 + 0; rfl, Int.le_refl _, Int.pow_pos (by omega)⟩
  | f + 1, b, go, hb => by
    obtain ⟨p1, p2, p3⟩ := pw_step (b := b) (by omega)
    have pb := pwB_pos b
    have p6 : (11 : Int) ^ (6 - b) ≤ 1771561 := by
      rcases (by omega : b = 0 ∨ b = 1 ∨ b = 2 ∨ b = 3 ∨ b = 4 ∨ b = 5) with e | e | e | e | e | e <;> subst e <;> decide
    -- an option is worth so much
    have val : ∀ x go', opD fr gn ns b go x go' → ∃ d, (if x = 10 then 0 else wS gn b x) + Mx fr gn ns f (b + 1) go' = (stO gn b x + Mo fr gn ns f (b + 1) go') * 1771561 + d ∧ 0 ≤ d ∧ d < (11 : Int) ^ (6 - b) := by
      intro x go' hx
      obtain ⟨d', i1, i2, i3⟩ := link hs f (b + 1) go' (by omega)
      rw [p2] at i3
      have x10 : x ≤ 10 := by rcases hx with q | q <;> omega
      have t1 : 0 ≤ (10 - (x : Int)) * pwB b := Int.mul_nonneg (by omega) (by omega)
      have t2 : (10 - (x : Int)) * pwB b ≤ 10 * pwB b := Int.mul_le_mul_of_nonneg_right (by omega) (by omega)
      refine ⟨(10 - (x : Int)) * pwB b + d', ?_, by omega, by rw [p1]; omega⟩
      rw [wst, i1]; omega
    obtain ⟨x, go', o1, o2⟩ := fold_at (w := fun k => wS gn b k) (T := fun g => Mx fr gn ns f (b + 1) g) (fr := fr) (gn := gn) (b := b) (go := go) hs
    obtain ⟨y, gy, y1, y2⟩ := fold_at (w := fun k => gn b k) (T := fun g => Mo fr gn ns f (b + 1) g) (fr := fr) (gn := gn) (b := b) (go := go) hs
    have l1 := fold_le (w := fun k => wS gn b k) (T := fun g => Mx fr gn ns f (b + 1) g) hs y1
    have l2 := fold_le (w := fun k => gn b k) (T := fun g => Mo fr gn ns f (b + 1) g) hs o1
    obtain ⟨d1, v1, v2, v3⟩ := val x go' o1
    obtain ⟨d2, u1, u2, u3⟩ := val y gy y1
    have eX : Mx fr gn ns (f + 1) b go = (if x = 10 then 0 else wS gn b x) + Mx fr gn ns f (b + 1) go' := o2
    have eO : Mo fr gn ns (f + 1) b go = stO gn b y + Mo fr gn ns f (b + 1) gy := y2
    have l1' : (if y = 10 then 0 else wS gn b y) + Mx fr gn ns f (b + 1) gy ≤ Mx fr gn ns (f + 1) b go := l1
    have l2' : stO gn b x + Mo fr gn ns f (b + 1) go' ≤ Mo fr gn ns (f + 1) b go := l2
    refine ⟨d1, ?_, v2, v3⟩
    rw [u1] at l1'
    rw [eX] at l1' ⊢
    rw [v1] at l1' ⊢
    rw [eO] at l2' ⊢
    generalize stO gn b x + Mo fr gn ns f (b + 1) go' = A at *
    generalize stO gn b y + Mo fr gn ns f (b + 1) gy = B at *
    have : A = B := by omega
    rw [this]
/-- the first that does -/
def fsS (p : Nat → Bool) : Nat → Nat → Nat
  | 0, _ => 10
  | f + 1, k => if p k then k else fsS p f (k + 1)
theorem fsS_10 {p : Nat → Bool} : ∀ f k, (∀ y, k ≤ y → y < k + f → p y = false) → fsS p f k = 10
  | 0, _, _ => rfl
  | f + 1, k, h => by
    unfold fsS
    rw [if_neg (by rw [h k (Nat.le_refl _) (by omega)]; decide)]
    exact fsS_10 f (k + 1) (fun y h1 h2 => h y (by omega) (by omega))
theorem fsS_at {p : Nat → Bool} {x : Nat} : ∀ f k, k ≤ x → x < k + f → p x = true → (∀ y, k ≤ y → y < x → p y = false) → fsS p f k = x
  | 0, _, h1, h2, _, _ => by omega
  | f + 1, k, h1, h2, hp, h => by
    unfold fsS
    by_cases e : x = k
    · subst e; rw [if_pos hp]
    · rw [if_neg (by rw [h k (Nat.le_refl _) (by omega)]; decide)]
      exact fsS_at f (k + 1) (by omega) (by omega) hp (fun y h1 h2 => h y (by omega) h2)
def grP (fr : Nat → Bool) (gn : Nat → Nat → Int) (ns f b go k : Nat) : Bool := okW fr gn b k && decide (btS go k = 0) && decide (gn b k + Mo fr gn ns f (b + 1) (go + 2 ^ k) = Mo fr gn ns (f + 1) b go)
def grD (fr : Nat → Bool) (gn : Nat → Nat → Int) (ns f b go : Nat) : Nat := fsS (grP fr gn ns f b go) ns 0
def nxD (go x : Nat) : Nat := if x = 10 then go else go + 2 ^ x
theorem greedy (hs : ns ≤ 10) {f b go : Nat} (hb : b + (f + 1) ≤ 6) : opD fr gn ns b go (grD fr gn ns f b go) (nxD go (grD fr gn ns f b go)) ∧ Mx fr gn ns (f + 1) b go = (if grD fr gn ns f b go = 10 then 0 else wS gn b (grD fr gn ns f b go)) + Mx fr gn ns f (b + 1) (nxD go (grD fr gn ns f b go)) := by
  obtain ⟨p1, p2, p3⟩ := pw_step (b := b) (by omega)
  have pb := pwB_pos b
  have p6 : (11 : Int) ^ (6 - b) ≤ 1771561 := by
    rcases (by omega : b = 0 ∨ b = 1 ∨ b = 2 ∨ b = 3 ∨ b = 4 ∨ b = 5) with e | e | e | e | e | e <;> subst e <;> decide
  obtain ⟨x, go', o1, o2⟩ := fold_at (w := fun k => wS gn b k) (T := fun g => Mx fr gn ns f (b + 1) g) (fr := fr) (gn := gn) (b := b) (go := go) hs
  have eX : Mx fr gn ns (f + 1) b go = (if x = 10 then 0 else wS gn b x) + Mx fr gn ns f (b + 1) go' := o2
  obtain ⟨dg, k1, k2, k3⟩ := link (fr := fr) (gn := gn) hs (f + 1) b go hb
  obtain ⟨d', i1, i2, i3⟩ := link (fr := fr) (gn := gn) hs f (b + 1) go' (by omega)
  rw [p2] at i3
  rw [p1] at k3
  have x10 : x ≤ 10 := by rcases o1 with q | q <;> omega
  have t1 : 0 ≤ (10 - (x : Int)) * pwB b := Int.mul_nonneg (by omega) (by omega)
  have t2 : (10 - (x : Int)) * pwB b ≤ 10 * pwB b := Int.mul_le_mul_of_nonneg_right (by omega) (by omega)
  have eX2 := eX
  rw [wst, i1, k1] at eX2
  rw [p1] at p6
  have eO : stO gn b x + Mo fr gn ns f (b + 1) go' = Mo fr gn ns (f + 1) b go := by omega
  have eD : dg = (10 - (x : Int)) * pwB b + d' := by omega
  -- whatever else is worth as much comes later
  have later : ∀ y gy, opD fr gn ns b go y gy → stO gn b y + Mo fr gn ns f (b + 1) gy = Mo fr gn ns (f + 1) b go → x ≤ y := by
    intro y gy hy he
    have l1 : (if y = 10 then 0 else wS gn b y) + Mx fr gn ns f (b + 1) gy ≤ Mx fr gn ns (f + 1) b go := fold_le (w := fun k => wS gn b k) (T := fun g => Mx fr gn ns f (b + 1) g) hs hy
    obtain ⟨dy, j1, j2, j3⟩ := link (fr := fr) (gn := gn) hs f (b + 1) gy (by omega)
    rw [p2] at j3
    rw [wst, j1, k1] at l1
    have y10 : y ≤ 10 := by rcases hy with q | q <;> omega
    by_cases q : x ≤ y
    · exact q
    · exfalso
      have t3 : (11 - (x : Int)) * pwB b ≤ (10 - (y : Int)) * pwB b := Int.mul_le_mul_of_nonneg_right (by omega) (by omega)
      have t4 : (11 - (x : Int)) * pwB b = (10 - (x : Int)) * pwB b + pwB b := by rw [show (11 - (x : Int)) = (10 - (x : Int)) + 1 by omega, Int.add_mul, Int.one_mul]
      omega
  have no : ∀ y, y < ns → y < x → grP fr gn ns f b go y = false := by
    intro y hy hyx
    cases h : grP fr gn ns f b go y
    · rfl
    · exfalso
      unfold grP at h
      rw [Bool.and_eq_true, Bool.and_eq_true, decide_eq_true_eq, decide_eq_true_eq] at h
      have := later y (go + 2 ^ y) (Or.inr ⟨hy, h.1.1, h.1.2, rfl⟩) (by unfold stO; rw [if_neg (by omega)]; exact h.2)
      omega
  have ex : grD fr gn ns f b go = x ∧ go' = nxD go x := by
    rcases o1 with ⟨q1, q2⟩ | ⟨q1, q2, q3, q4⟩
    · refine ⟨?_, by unfold nxD; rw [if_pos q1]; exact q2⟩
      rw [q1]
      exact fsS_10 ns 0 (fun y _ h2 => no y (by omega) (by omega))
    · refine ⟨?_, by unfold nxD; rw [if_neg (by omega)]; exact q4⟩
      refine fsS_at ns 0 (Nat.zero_le _) (by omega) ?_ (fun y _ h2 => no y (by omega) h2)
      unfold grP
      rw [q2, decide_eq_true q3]
      rw [q4] at eO
      unfold stO at eO
      rw [if_neg (by omega)] at eO
      rw [decide_eq_true eO]; rfl
  rw [ex.1, ← ex.2]
  exact ⟨o1, eX⟩
/-- the buyer n places on has this one (10: none) -/
def rdD (fr : Nat → Bool) (gn : Nat → Nat → Int) (ns : Nat) : Nat → Nat → Nat → Nat → Nat
  | 0, f, b, go => grD fr gn ns (f - 1) b go
  | n + 1, f, b, go => rdD fr gn ns n (f - 1) (b + 1) (nxD go (grD fr gn ns (f - 1) b go))
theorem dig_1 {P Q o x M d R : Int} (hP : 0 < P) (h0 : 0 ≤ d) (h1 : d < P) (hx : 0 ≤ x) (hx2 : x ≤ 10) : (11 * P * Q + (o * (11 * P * R) + x * P) + (M * (11 * P * R) + d)) / P % 11 = x := by
  have e : 11 * P * Q + (o * (11 * P * R) + x * P) + (M * (11 * P * R) + d) = d + P * (11 * (Q + o * R + M * R) + x) := by
    rw [Int.mul_add, Int.mul_add, Int.mul_add]
    have e1 : 11 * P * Q = P * (11 * Q) := by rw [Int.mul_comm 11 P, Int.mul_assoc]
    have e2 : ∀ z : Int, z * (11 * P * R) = P * (11 * (z * R)) := fun z => by
      rw [Int.mul_left_comm, Int.mul_comm 11 P, Int.mul_assoc P 11 (z * R)]
    rw [e1, e2 o, e2 M, Int.mul_comm x P, Int.mul_add, Int.mul_add]
    omega
  rw [e, Int.add_mul_ediv_left _ _ (by omega), Int.ediv_eq_zero_of_lt h0 h1]
  generalize Q + o * R + M * R = z
  omega
theorem digit (hs : ns ≤ 10) : ∀ n f b go (Q X : Int), X = (11 : Int) ^ (6 - b) * Q + Mx fr gn ns f b go → b + f ≤ 6 → n < f → (X / (11 : Int) ^ (5 - (b + n))) % 11 = 10 - (rdD fr gn ns n f b go : Int) ∧ rdD fr gn ns n f b go ≤ 10
  | 0, f, b, go, Q, X, hX, hb, hn => by
    obtain ⟨f, rfl⟩ : ∃ q, f = q + 1 := ⟨f - 1, by omega⟩
    obtain ⟨o1, o2⟩ := greedy (fr := fr) (gn := gn) (go := go) hs hb
    obtain ⟨p1, p2, p3⟩ := pw_step (b := b) (by omega)
    have pb := pwB_pos b
    show (X / (11 : Int) ^ (5 - (b + 0))) % 11 = 10 - (grD fr gn ns (f + 1 - 1) b go : Int) ∧ grD fr gn ns (f + 1 - 1) b go ≤ 10
    rw [show f + 1 - 1 = f by omega, show b + 0 = b by omega]
    have x10 : grD fr gn ns f b go ≤ 10 := by rcases o1 with q | q <;> omega
    refine ⟨?_, x10⟩
    obtain ⟨d', i1, i2, i3⟩ := link (fr := fr) (gn := gn) hs f (b + 1) (nxD go (grD fr gn ns f b go)) (by omega)
    rw [p2] at i3
    rw [hX, p1, o2, wst, i1]
    generalize hM : (1771561 : Int) = MM at p3 ⊢
    rw [p3, ← Int.add_assoc]
    exact dig_1 pb i2 i3 (by omega) (by omega)
  | n + 1, f, b, go, Q, X, hX, hb, hn => by
    obtain ⟨f, rfl⟩ : ∃ q, f = q + 1 := ⟨f - 1, by omega⟩
    obtain ⟨o1, o2⟩ := greedy (fr := fr) (gn := gn) (go := go) hs hb
    obtain ⟨p1, p2, p3⟩ := pw_step (b := b) (by omega)
    show (X / (11 : Int) ^ (5 - (b + (n + 1)))) % 11 = 10 - (rdD fr gn ns n (f + 1 - 1) (b + 1) (nxD go (grD fr gn ns (f + 1 - 1) b go)) : Int) ∧ rdD fr gn ns n (f + 1 - 1) (b + 1) (nxD go (grD fr gn ns (f + 1 - 1) b go)) ≤ 10
    rw [show f + 1 - 1 = f by omega, show b + (n + 1) = b + 1 + n by omega]
    refine digit hs n f (b + 1) _ (11 * Q + (stO gn b (grD fr gn ns f b go) * (11 * (11 : Int) ^ b) + (10 - (grD fr gn ns f b go : Int)))) X ?_ (by omega) (by omega)
    rw [hX, p2, p1, o2, wst]
    generalize hM : (1771561 : Int) = MM at p3 ⊢
    rw [p3]
    have e1 : 11 * pwB b * Q = pwB b * (11 * Q) := by rw [Int.mul_comm 11, Int.mul_assoc]
    have e2 : ∀ z : Int, z * (11 * pwB b * (11 : Int) ^ b) = pwB b * (z * (11 * (11 : Int) ^ b)) := fun z => by
      rw [Int.mul_comm 11 (pwB b), Int.mul_assoc, Int.mul_left_comm]
    rw [e1, e2, Int.mul_add, Int.mul_add, Int.mul_comm _ (pwB b)]
    omega
theorem Mo_r (hg : ∀ b k, k < ns → gn b k ≤ 999) (hs : ns ≤ 10) : ∀ f b go, 0 ≤ Mo fr gn ns f b go ∧ Mo fr gn ns f b go ≤ 999 * f
  | 0, _, _ => ⟨Int.le_refl _, Int.le_refl _⟩
  | f + 1, b, go => by
    have e2 : (999 : Int) * ((f + 1 : Nat) : Int) = 999 * f + 999 := by omega
    rw [e2]
    have l := fmx_K (vd := fun k => okW fr gn b k && decide (btS go k = 0)) (op := fun k => gn b k + Mo fr gn ns f (b + 1) (go + 2 ^ k)) ns 0 (Mo fr gn ns f (b + 1) go)
    have i := Mo_r hg hs f (b + 1) go
    refine ⟨Int.le_trans i.1 l, ?_⟩
    obtain ⟨x, go', o1, o2⟩ := fold_at (w := fun k => gn b k) (T := fun g => Mo fr gn ns f (b + 1) g) (fr := fr) (gn := gn) (b := b) (go := go) hs
    have eO : Mo fr gn ns (f + 1) b go = (if x = 10 then 0 else gn b x) + Mo fr gn ns f (b + 1) go' := o2
    have j := Mo_r hg hs f (b + 1) go'
    rw [eO]
    rcases o1 with q | q
    · rw [if_pos q.1]; omega
    · rw [if_neg (by omega)]
      have := hg b x q.1
      omega
end DEALE
