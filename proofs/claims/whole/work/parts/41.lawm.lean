/-! ===== THE LAW: the reference works out what the parser's steps come to ===== -/
def ahR (c : Nat) : Int32 := if c = 256 then 0 else nI c
theorem ahR_toInt {c : Nat} (h : c ≤ 256) : (ahR c).toInt = if c = 256 then 0 else (c : Int) := by
  unfold ahR
  split
  · decide
  · exact nI_toInt (by omega)
theorem ahR_eq {c k : Nat} (hc : c ≤ 256) (h0 : 0 < k) (hk : k < 256) : (ahR c = nI k) = (c = k) := propext (by
  rw [toI_eq, ahR_toInt hc, nI_toInt (by omega)]
  split <;> omega)
def RT (t : Nat → Nat) (n : Nat) (m : Mm) : Prop := gI m 58 16 = nI n ∧ ((gI m 58 14 = -1 ∧ ∀ p, p < n → gI m 65 p = nI (t p)) ∨ (gI m 58 14 = 0 ∧ ∀ p, p < n → gI m 66 p = nI (t p)))
def RS (t : Nat → Nat) (n : Nat) (m : Mm) (p ob : Nat) : Prop := RT t n m ∧ gI m 58 15 = nI p ∧ gI m 58 17 = -1 ∧ gI m 58 18 = nI (6 - ob)
def RF (t : Nat → Nat) (n : Nat) (m : Mm) (f : Nat) : Prop := RT t n m ∧ gI m 58 17 = nI f ∧ ∃ p', p' ≤ n ∧ gI m 58 15 = nI p'
def resR (t : Nat → Nat) (n : Nat) (m : Mm) (x : Option (Int32 × Mm)) (ob : Nat) (r : LPR) : Prop := match r with
  | .inl f => ∃ v m2, x = some (v, m2) ∧ RF t n m2 f ∧ ch PVr m m2
  | .inr q => ∃ m2, x = some (vaS (gI m 67) q.2, m2) ∧ RS t n m2 q.1 ob ∧ ch PVr m m2
def SpR (t : Nat → Nat) (n : Nat) (F : Mm → Option (Int32 × Mm)) (ob : Nat) (P : Nat → LPR) : Prop := ∀ (m : Mm) (p : Nat), RS t n m p ob → p ≤ n → resR t n m (F m) ob (P p)
theorem ch.n67 {m m2 : Mm} (c : ch PVr m m2) : gI m2 67 = gI m 67 := funext fun k => c.I rfl
/-- another number at one of the five places -/
theorem ch15 {m : Mm} {k : Nat} {v : Int32} (hk : k = 15 ∨ k = 17 ∨ k = 18) : ch PVr m (sI m 58 k v) := ch.sI (by rcases hk with rfl | rfl | rfl <;> rfl)
section LAWM
variable {t : Nat → Nat} {n : Nat}
theorem RT.go {m : Mm} {k : Nat} {v : Int32} (h : RT t n m) (hk : k = 15 ∨ k = 17 ∨ k = 18) : RT t n (sI m 58 k v) := by
  have e16 : gI (sI m 58 k v) 58 16 = gI m 58 16 := by rw [gI_sI, if_neg (by omega)]
  have e14 : gI (sI m 58 k v) 58 14 = gI m 58 14 := by rw [gI_sI, if_neg (by omega)]
  have e65 : ∀ p, gI (sI m 58 k v) 65 p = gI m 65 p := fun p => by rw [gI_sI, if_neg (by omega)]
  have e66 : ∀ p, gI (sI m 58 k v) 66 p = gI m 66 p := fun p => by rw [gI_sI, if_neg (by omega)]
  unfold RT
  rw [e16, e14]
  refine ⟨h.1, ?_⟩
  rcases h.2 with ⟨a, b⟩ | ⟨a, b⟩
  · exact Or.inl ⟨a, fun p hp => by rw [e65]; exact b p hp⟩
  · exact Or.inr ⟨a, fun p hp => by rw [e66]; exact b p hp⟩
theorem RS.at {m : Mm} {p ob : Nat} (h : RS t n m p ob) (p' : Nat) : RS t n (sI m 58 15 (nI p')) p' ob :=
  ⟨h.1.go (Or.inl rfl), by rw [gI_sI, if_pos ⟨rfl, rfl⟩], by rw [gI_sI, if_neg (by omega)]; exact h.2.2.1, by rw [gI_sI, if_neg (by omega)]; exact h.2.2.2⟩
theorem RS.ob {m : Mm} {p ob : Nat} (h : RS t n m p ob) (ob' : Nat) : RS t n (sI m 58 18 (nI (6 - ob'))) p ob' :=
  ⟨h.1.go (Or.inr (Or.inr rfl)), by rw [gI_sI, if_neg (by omega)]; exact h.2.1, by rw [gI_sI, if_neg (by omega)]; exact h.2.2.1, by rw [gI_sI, if_pos ⟨rfl, rfl⟩]⟩
theorem RS.fl {m : Mm} {p ob : Nat} (h : RS t n m p ob) (hp : p ≤ n) : RF t n (sI m 58 17 (nI p)) p :=
  ⟨h.1.go (Or.inr (Or.inl rfl)), by rw [gI_sI, if_pos ⟨rfl, rfl⟩], p, hp, by rw [gI_sI, if_neg (by omega)]; exact h.2.1⟩
theorem RF.go {m : Mm} {f : Nat} (h : RF t n m f) : RF t n (sI m 58 17 (nI f)) f := by
  obtain ⟨h1, h2, p, h3, h4⟩ := h
  exact ⟨h1.go (Or.inr (Or.inl rfl)), by rw [gI_sI, if_pos ⟨rfl, rfl⟩], p, h3, by rw [gI_sI, if_neg (by omega)]; exact h4⟩
theorem RF.go18 {m : Mm} {f : Nat} {v : Int32} (h : RF t n m f) : RF t n (sI m 58 18 v) f := by
  obtain ⟨h1, h2, p, h3, h4⟩ := h
  exact ⟨h1.go (Or.inr (Or.inr rfl)), by rw [gI_sI, if_neg (by omega)]; exact h2, p, h3, by rw [gI_sI, if_neg (by omega)]; exact h4⟩
theorem byteAt_m (hn : n ≤ 120) (ht : ∀ p, p < n → t p < 256) {m : Mm} {p : Nat} (h : RT t n m) (hp : gI m 58 15 = nI p) (hpn : p ≤ n) : dX10_byteAt m = some (ahR (cA t n p), m) := by
  have e1 : (nI n).toInt = n := nI_toInt (by omega)
  have e2 : (nI p).toInt = p := nI_toInt (by omega)
  unfold dX10_byteAt cA ahR
  rw [h.1, hp]
  by_cases hlt : p < n
  · have := ht p hlt
    rw [if_neg (by rw [toI_le, e1, e2]; omega), if_pos hlt, if_neg (show ¬ t p = 256 by omega)]
    rcases h.2 with ⟨a, b⟩ | ⟨a, b⟩
    · rw [a, if_neg (by decide), if_pos (inB_nI (by omega) (by omega)), nI_clamp (by omega), b p hlt]
    · rw [a, if_pos (by decide), Int32.zero_add, if_pos (inB_nI (by omega) (by omega)), nI_clamp (by omega), b p hlt]
  · rw [if_pos (by rw [toI_le, e1, e2]; omega), if_neg hlt, if_pos rfl]
theorem nn {f : Nat} (hf : f ≤ 120) : (0 : Int32) ≤ nI f := by
  rw [toI_le, nI_toInt (by omega)]; simp
theorem takes_m (hn : n ≤ 120) (ht : ∀ p, p < n → t p < 256) {m : Mm} {p ob c0 : Nat} (h : RS t n m p ob) (hp : p ≤ n) (h0 : 0 < c0) (h1 : c0 < 256) : dX10_takes (nI c0) m = (if cA t n p = c0 then some (1, sI m 58 15 (nI (p + 1))) else some (0, m)) := by
  unfold dX10_takes DX10_takes_15
  rw [h.2.2.1, if_neg (by decide), byteAt_m hn ht h.1 h.2.1 hp, Option.bind_some]
  simp only [ahR_eq (cA_le (p := p) ht) h0 h1, h.2.1, nI_1]
theorem takes_f {m : Mm} {f : Nat} {c0 : Int32} (h : RF t n m f) (hf : f ≤ 120) : dX10_takes c0 m = some (0, m) := by
  unfold dX10_takes DX10_takes_15
  rw [h.2.1, if_pos (nn hf)]
theorem wrong_m {m : Mm} {p ob : Nat} (h : RS t n m p ob) : dX10_wrong m = some (0, sI m 58 17 (nI p)) := by
  unfold dX10_wrong DX10_wrong_19
  rw [h.2.2.1, if_neg (by decide), h.2.1]
theorem wrong_f {m : Mm} {f : Nat} (h : RF t n m f) (hf : f ≤ 120) : dX10_wrong m = some (0, sI m 58 17 (nI f)) := by
  unfold dX10_wrong DX10_wrong_19
  rw [h.2.1, if_pos (nn hf)]
/-- behind all that a text can have, nothing joins -/
theorem noJ {l p : Nat} (hp : n ≤ p) : ¬ isJ l (cA t n p) = true := fun h => by have := cA_lt (isJ_lt h).1; omega
theorem either_l (hn : n ≤ 120) (ht : ∀ p, p < n → t p < 256) {d ob : Nat} {sub : Nat → LPR} (hs : SpR t n (dX10_both d) ob sub) (hF : PF n sub) : ∀ (k N : Nat) (m : Mm) (p : Nat) (s : List LSt), k < N → 120 ≤ k + p → RS t n m p ob → p ≤ n → Gd s → resR t n m (DX10_either_5 (dX10_either d) (dX10_both d) (dX10_compared d) (dX10_sums d) (dX10_product d) (dX10_one d) N (vaS (gI m 67) s) m) ob (loopP t n sub 0 k p s) := by
  intro k
  induction k with
  | zero =>
    intro N m p s h1 h2 h3 h4 h5
    obtain ⟨M, rfl⟩ : ∃ M, N = M + 1 := ⟨N - 1, by omega⟩
    have hj : ¬ isJ 0 (cA t n p) = true := noJ (by omega)
    have hc : ¬ cA t n p = 124 := fun q => hj (by rw [q]; rfl)
    show resR t n m (BX10_either_5 (dX10_either d) (dX10_both d) (dX10_compared d) (dX10_sums d) (dX10_product d) (dX10_one d) (DX10_either_5 (dX10_either d) (dX10_both d) (dX10_compared d) (dX10_sums d) (dX10_product d) (dX10_one d) M) (vaS (gI m 67) s) m) ob (.inr (p, s))
    unfold BX10_either_5
    rw [show (124 : Int32) = nI 124 from rfl, takes_m hn ht h3 h4 (by omega) (by omega), if_neg hc, Option.bind_some]
    dsimp only
    rw [if_pos rfl]
    exact ⟨m, rfl, h3, ch.rf⟩
  | succ k ih =>
    intro N m p s h1 h2 h3 h4 h5
    obtain ⟨M, rfl⟩ : ∃ M, N = M + 1 := ⟨N - 1, by omega⟩
    show resR t n m (BX10_either_5 (dX10_either d) (dX10_both d) (dX10_compared d) (dX10_sums d) (dX10_product d) (dX10_one d) (DX10_either_5 (dX10_either d) (dX10_both d) (dX10_compared d) (dX10_sums d) (dX10_product d) (dX10_one d) M) (vaS (gI m 67) s) m) ob _
    unfold BX10_either_5 DX10_either_27 DX10_either_32 loopP
    rw [show (124 : Int32) = nI 124 from rfl, takes_m hn ht h3 h4 (by omega) (by omega)]
    by_cases hc : cA t n p = 124
    · have hj : isJ 0 (cA t n p) = true := by rw [hc]; rfl
      have hpn := cA_lt (isJ_lt hj).1
      rw [if_pos hc, if_pos hj, Option.bind_some]
      dsimp only
      rw [if_neg (by decide)]
      have c1 : ch PVr m (sI m 58 15 (nI (p + 1))) := ch15 (Or.inl rfl)
      have hh := hs (sI m 58 15 (nI (p + 1))) (p + 1) (h3.at (p + 1)) (by omega)
      unfold resR at hh
      cases e : sub (p + 1) with
      | inl f =>
        have hf := (hF (p + 1) (by omega)).1 f e
        rw [e] at hh
        obtain ⟨v, m2, x1, x2, x3⟩ := hh
        rw [x1, Option.bind_some]
        dsimp only
        obtain ⟨M2, rfl⟩ : ∃ M2, M = M2 + 1 := ⟨M - 1, by omega⟩
        have hstop : ∀ x, DX10_either_5 (dX10_either d) (dX10_both d) (dX10_compared d) (dX10_sums d) (dX10_product d) (dX10_one d) (M2 + 1) x m2 = some (x, m2) := by
          intro x
          show BX10_either_5 _ _ _ _ _ _ (DX10_either_5 _ _ _ _ _ _ M2) x m2 = _
          unfold BX10_either_5
          rw [takes_f x2 (by omega), Option.bind_some]
          dsimp only
          rw [if_pos rfl]
        simp only [hstop]
        repeat' split
        all_goals exact ⟨_, m2, rfl, x2, c1.tr x3⟩
      | inr q =>
        obtain ⟨a1, a2, a3, a4⟩ := (hF (p + 1) (by omega)).2 q e
        rw [e] at hh
        obtain ⟨m2, x1, x2, x3⟩ := hh
        have gb := Gd_bin (c := cA t n p) h5 a4 (isJ_lt hj).2
        have en : gI m2 67 = gI m 67 := (c1.tr x3).n67
        have en1 : gI (sI m 58 15 (nI (p + 1))) 67 = gI m 67 := c1.n67
        rw [x1, Option.bind_some, en1]
        dsimp only
        have := ih M m2 q.1 (s ++ q.2 ++ [(cA t n p, 0)]) (by omega) (by omega) x2 a2 gb.1
        rw [en, gb.2, hc] at this
        have hv : (if vaS (gI m 67) s = 0 then (if vaS (gI m 67) q.2 = 0 then DX10_either_5 (dX10_either d) (dX10_both d) (dX10_compared d) (dX10_sums d) (dX10_product d) (dX10_one d) M 0 m2 else DX10_either_5 (dX10_either d) (dX10_both d) (dX10_compared d) (dX10_sums d) (dX10_product d) (dX10_one d) M 1 m2) else DX10_either_5 (dX10_either d) (dX10_both d) (dX10_compared d) (dX10_sums d) (dX10_product d) (dX10_one d) M 1 m2) = DX10_either_5 (dX10_either d) (dX10_both d) (dX10_compared d) (dX10_sums d) (dX10_product d) (dX10_one d) M (jnS 124 (vaS (gI m 67) s) (vaS (gI m 67) q.2)) m2 := by
          show _ = DX10_either_5 (dX10_either d) (dX10_both d) (dX10_compared d) (dX10_sums d) (dX10_product d) (dX10_one d) M (if vaS (gI m 67) s = 0 then (if vaS (gI m 67) q.2 = 0 then 0 else 1) else 1) m2
          split
          · split <;> rfl
          · rfl
        rw [hv]
        unfold resR at this ⊢
        rw [hc]
        cases e2 : loopP t n sub 0 k q.1 (s ++ q.2 ++ [(124, 0)]) with
        | inl f => rw [e2] at this; obtain ⟨v, m4, z1, z2, z3⟩ := this; exact ⟨v, m4, z1, z2, (c1.tr x3).tr z3⟩
        | inr r => rw [e2] at this; obtain ⟨m4, z1, z2, z3⟩ := this; rw [en] at z1; exact ⟨m4, z1, z2, (c1.tr x3).tr z3⟩
    · have hj : ¬ isJ 0 (cA t n p) = true := fun q => hc (by unfold isJ at q; simpa using q)
      rw [if_neg hc, if_neg hj, Option.bind_some]
      dsimp only
      rw [if_pos rfl]
      exact ⟨m, rfl, h3, ch.rf⟩
theorem either_m (hn : n ≤ 120) (ht : ∀ p, p < n → t p < 256) {d ob : Nat} {sub : Nat → LPR} (hs : SpR t n (dX10_both d) ob sub) (hF : PF n sub) : SpR t n (dX10_either (d + 1)) ob (lvP t n sub 0 120) := by
  intro m p h1 h2
  have hh := hs m p h1 h2
  show resR t n m (bX10_either (dX10_either d) (dX10_both d) (dX10_compared d) (dX10_sums d) (dX10_product d) (dX10_one d) m) ob _
  unfold bX10_either lvP
  unfold resR at hh
  cases e : sub p with
  | inl f =>
    have hf := (hF p h2).1 f e
    rw [e] at hh
    obtain ⟨v, m2, x1, x2, x3⟩ := hh
    rw [x1, Option.bind_some]
    refine ⟨v, m2, ?_, x2, x3⟩
    show BX10_either_5 _ _ _ _ _ _ (DX10_either_5 _ _ _ _ _ _ 39999) v m2 = _
    unfold BX10_either_5
    rw [takes_f x2 (by omega), Option.bind_some]
    dsimp only
    rw [if_pos rfl]
  | inr q =>
    obtain ⟨a1, a2, a3, a4⟩ := (hF p h2).2 q e
    rw [e] at hh
    obtain ⟨m2, x1, x2, x3⟩ := hh
    rw [x1, Option.bind_some]
    have := either_l hn ht hs hF 120 FU m2 q.1 q.2 (by unfold FU; omega) (by omega) x2 a2 a4
    rw [x3.n67] at this
    dsimp only
    unfold resR at this ⊢
    cases e2 : loopP t n sub 0 120 q.1 q.2 with
    | inl f => rw [e2] at this; obtain ⟨v, m4, z1, z2, z3⟩ := this; exact ⟨v, m4, z1, z2, x3.tr z3⟩
    | inr r => rw [e2] at this; obtain ⟨m4, z1, z2, z3⟩ := this; rw [x3.n67] at z1; exact ⟨m4, z1, z2, x3.tr z3⟩
theorem both_l (hn : n ≤ 120) (ht : ∀ p, p < n → t p < 256) {d ob : Nat} {sub : Nat → LPR} (hs : SpR t n (dX10_compared d) ob sub) (hF : PF n sub) : ∀ (k N : Nat) (m : Mm) (p : Nat) (s : List LSt), k < N → 120 ≤ k + p → RS t n m p ob → p ≤ n → Gd s → resR t n m (DX10_both_5 (dX10_either d) (dX10_both d) (dX10_compared d) (dX10_sums d) (dX10_product d) (dX10_one d) N (vaS (gI m 67) s) m) ob (loopP t n sub 1 k p s) := by
  intro k
  induction k with
  | zero =>
    intro N m p s h1 h2 h3 h4 h5
    obtain ⟨M, rfl⟩ : ∃ M, N = M + 1 := ⟨N - 1, by omega⟩
    have hj : ¬ isJ 1 (cA t n p) = true := noJ (by omega)
    have hc : ¬ cA t n p = 38 := fun q => hj (by rw [q]; rfl)
    show resR t n m (BX10_both_5 (dX10_either d) (dX10_both d) (dX10_compared d) (dX10_sums d) (dX10_product d) (dX10_one d) (DX10_both_5 (dX10_either d) (dX10_both d) (dX10_compared d) (dX10_sums d) (dX10_product d) (dX10_one d) M) (vaS (gI m 67) s) m) ob (.inr (p, s))
    unfold BX10_both_5
    rw [show (38 : Int32) = nI 38 from rfl, takes_m hn ht h3 h4 (by omega) (by omega), if_neg hc, Option.bind_some]
    dsimp only
    rw [if_pos rfl]
    exact ⟨m, rfl, h3, ch.rf⟩
  | succ k ih =>
    intro N m p s h1 h2 h3 h4 h5
    obtain ⟨M, rfl⟩ : ∃ M, N = M + 1 := ⟨N - 1, by omega⟩
    show resR t n m (BX10_both_5 (dX10_either d) (dX10_both d) (dX10_compared d) (dX10_sums d) (dX10_product d) (dX10_one d) (DX10_both_5 (dX10_either d) (dX10_both d) (dX10_compared d) (dX10_sums d) (dX10_product d) (dX10_one d) M) (vaS (gI m 67) s) m) ob _
    unfold BX10_both_5 DX10_both_31 DX10_both_32 loopP
    rw [show (38 : Int32) = nI 38 from rfl, takes_m hn ht h3 h4 (by omega) (by omega)]
    by_cases hc : cA t n p = 38
    · have hj : isJ 1 (cA t n p) = true := by rw [hc]; rfl
      have hpn := cA_lt (isJ_lt hj).1
      rw [if_pos hc, if_pos hj, Option.bind_some]
      dsimp only
      rw [if_neg (by decide)]
      have c1 : ch PVr m (sI m 58 15 (nI (p + 1))) := ch15 (Or.inl rfl)
      have hh := hs (sI m 58 15 (nI (p + 1))) (p + 1) (h3.at (p + 1)) (by omega)
      unfold resR at hh
      cases e : sub (p + 1) with
      | inl f =>
        have hf := (hF (p + 1) (by omega)).1 f e
        rw [e] at hh
        obtain ⟨v, m2, x1, x2, x3⟩ := hh
        rw [x1, Option.bind_some]
        dsimp only
        obtain ⟨M2, rfl⟩ : ∃ M2, M = M2 + 1 := ⟨M - 1, by omega⟩
        have hstop : ∀ x, DX10_both_5 (dX10_either d) (dX10_both d) (dX10_compared d) (dX10_sums d) (dX10_product d) (dX10_one d) (M2 + 1) x m2 = some (x, m2) := by
          intro x
          show BX10_both_5 _ _ _ _ _ _ (DX10_both_5 _ _ _ _ _ _ M2) x m2 = _
          unfold BX10_both_5
          rw [takes_f x2 (by omega), Option.bind_some]
          dsimp only
          rw [if_pos rfl]
        simp only [hstop]
        repeat' split
        all_goals exact ⟨_, m2, rfl, x2, c1.tr x3⟩
      | inr q =>
        obtain ⟨a1, a2, a3, a4⟩ := (hF (p + 1) (by omega)).2 q e
        rw [e] at hh
        obtain ⟨m2, x1, x2, x3⟩ := hh
        have gb := Gd_bin (c := cA t n p) h5 a4 (isJ_lt hj).2
        have en : gI m2 67 = gI m 67 := (c1.tr x3).n67
        have en1 : gI (sI m 58 15 (nI (p + 1))) 67 = gI m 67 := c1.n67
        rw [x1, Option.bind_some, en1]
        dsimp only
        have := ih M m2 q.1 (s ++ q.2 ++ [(cA t n p, 0)]) (by omega) (by omega) x2 a2 gb.1
        rw [en, gb.2, hc] at this
        have hv : (if vaS (gI m 67) s = 0 then DX10_both_5 (dX10_either d) (dX10_both d) (dX10_compared d) (dX10_sums d) (dX10_product d) (dX10_one d) M 0 m2 else (if vaS (gI m 67) q.2 = 0 then DX10_both_5 (dX10_either d) (dX10_both d) (dX10_compared d) (dX10_sums d) (dX10_product d) (dX10_one d) M 0 m2 else DX10_both_5 (dX10_either d) (dX10_both d) (dX10_compared d) (dX10_sums d) (dX10_product d) (dX10_one d) M 1 m2)) = DX10_both_5 (dX10_either d) (dX10_both d) (dX10_compared d) (dX10_sums d) (dX10_product d) (dX10_one d) M (jnS 38 (vaS (gI m 67) s) (vaS (gI m 67) q.2)) m2 := by
          show _ = DX10_both_5 (dX10_either d) (dX10_both d) (dX10_compared d) (dX10_sums d) (dX10_product d) (dX10_one d) M (if vaS (gI m 67) s = 0 then 0 else if vaS (gI m 67) q.2 = 0 then 0 else 1) m2
          split
          · rfl
          · split <;> rfl
        rw [hv]
        unfold resR at this ⊢
        rw [hc]
        cases e2 : loopP t n sub 1 k q.1 (s ++ q.2 ++ [(38, 0)]) with
        | inl f => rw [e2] at this; obtain ⟨v, m4, z1, z2, z3⟩ := this; exact ⟨v, m4, z1, z2, (c1.tr x3).tr z3⟩
        | inr r => rw [e2] at this; obtain ⟨m4, z1, z2, z3⟩ := this; rw [en] at z1; exact ⟨m4, z1, z2, (c1.tr x3).tr z3⟩
    · have hj : ¬ isJ 1 (cA t n p) = true := fun q => hc (by unfold isJ at q; simpa using q)
      rw [if_neg hc, if_neg hj, Option.bind_some]
      dsimp only
      rw [if_pos rfl]
      exact ⟨m, rfl, h3, ch.rf⟩
theorem both_m (hn : n ≤ 120) (ht : ∀ p, p < n → t p < 256) {d ob : Nat} {sub : Nat → LPR} (hs : SpR t n (dX10_compared d) ob sub) (hF : PF n sub) : SpR t n (dX10_both (d + 1)) ob (lvP t n sub 1 120) := by
  intro m p h1 h2
  have hh := hs m p h1 h2
  show resR t n m (bX10_both (dX10_either d) (dX10_both d) (dX10_compared d) (dX10_sums d) (dX10_product d) (dX10_one d) m) ob _
  unfold bX10_both lvP
  unfold resR at hh
  cases e : sub p with
  | inl f =>
    have hf := (hF p h2).1 f e
    rw [e] at hh
    obtain ⟨v, m2, x1, x2, x3⟩ := hh
    rw [x1, Option.bind_some]
    refine ⟨v, m2, ?_, x2, x3⟩
    show BX10_both_5 _ _ _ _ _ _ (DX10_both_5 _ _ _ _ _ _ 39999) v m2 = _
    unfold BX10_both_5
    rw [takes_f x2 (by omega), Option.bind_some]
    dsimp only
    rw [if_pos rfl]
  | inr q =>
    obtain ⟨a1, a2, a3, a4⟩ := (hF p h2).2 q e
    rw [e] at hh
    obtain ⟨m2, x1, x2, x3⟩ := hh
    rw [x1, Option.bind_some]
    have := both_l hn ht hs hF 120 FU m2 q.1 q.2 (by unfold FU; omega) (by omega) x2 a2 a4
    rw [x3.n67] at this
    dsimp only
    unfold resR at this ⊢
    cases e2 : loopP t n sub 1 120 q.1 q.2 with
    | inl f => rw [e2] at this; obtain ⟨v, m4, z1, z2, z3⟩ := this; exact ⟨v, m4, z1, z2, x3.tr z3⟩
    | inr r => rw [e2] at this; obtain ⟨m4, z1, z2, z3⟩ := this; rw [x3.n67] at z1; exact ⟨m4, z1, z2, x3.tr z3⟩
theorem sums_l (hn : n ≤ 120) (ht : ∀ p, p < n → t p < 256) {d ob : Nat} {sub : Nat → LPR} (hs : SpR t n (dX10_product d) ob sub) (hF : PF n sub) : ∀ (k N : Nat) (m : Mm) (p : Nat) (s : List LSt), k < N → 120 ≤ k + p → RS t n m p ob → p ≤ n → Gd s → resR t n m (DX10_sums_5 (dX10_either d) (dX10_both d) (dX10_compared d) (dX10_sums d) (dX10_product d) (dX10_one d) N (vaS (gI m 67) s) m) ob (loopP t n sub 3 k p s) := by
  -- one turn of the loop where nothing joins
  have stop : ∀ (M : Nat) (m : Mm) (p : Nat) (x : Int32), RS t n m p ob → p ≤ n → ¬ isJ 3 (cA t n p) = true → DX10_sums_5 (dX10_either d) (dX10_both d) (dX10_compared d) (dX10_sums d) (dX10_product d) (dX10_one d) (M + 1) x m = some (x, m) := by
    intro M m p x h3 h4 hj
    have h43 : ¬ cA t n p = 43 := fun q => hj (by rw [q]; rfl)
    have h45 : ¬ cA t n p = 45 := fun q => hj (by rw [q]; rfl)
    have hc := cA_le (p := p) ht
    show BX10_sums_5 _ _ _ _ _ _ (DX10_sums_5 _ _ _ _ _ _ M) x m = _
    unfold BX10_sums_5 DX10_sums_77
    rw [h3.2.2.1, if_neg (by decide), byteAt_m hn ht h3.1 h3.2.1 h4, Option.bind_some]
    dsimp only
    rw [if_neg (by rw [show (43 : Int32) = nI 43 from rfl, ahR_eq hc (by omega) (by omega)]; exact h43), byteAt_m hn ht h3.1 h3.2.1 h4, Option.bind_some]
    dsimp only
    rw [if_neg (by rw [show (45 : Int32) = nI 45 from rfl, ahR_eq hc (by omega) (by omega)]; exact h45)]
  intro k
  induction k with
  | zero =>
    intro N m p s h1 h2 h3 h4 h5
    obtain ⟨M, rfl⟩ : ∃ M, N = M + 1 := ⟨N - 1, by omega⟩
    rw [stop M m p _ h3 h4 (noJ (by omega))]
    exact ⟨m, rfl, h3, ch.rf⟩
  | succ k ih =>
    intro N m p s h1 h2 h3 h4 h5
    obtain ⟨M, rfl⟩ : ∃ M, N = M + 1 := ⟨N - 1, by omega⟩
    by_cases hj : isJ 3 (cA t n p) = true
    · have hpn := cA_lt (isJ_lt hj).1
      have hc := cA_le (p := p) ht
      have hor : cA t n p = 43 ∨ cA t n p = 45 := by
        have : (cA t n p == 43 || cA t n p == 45) = true := hj
        simpa using this
      have c1 : ch PVr m (sI m 58 15 (nI (p + 1))) := ch15 (Or.inl rfl)
      have key : DX10_sums_5 (dX10_either d) (dX10_both d) (dX10_compared d) (dX10_sums d) (dX10_product d) (dX10_one d) (M + 1) (vaS (gI m 67) s) m = ((dX10_product d (sI m 58 15 (nI (p + 1)))).bind fun q56 => DX10_sums_5 (dX10_either d) (dX10_both d) (dX10_compared d) (dX10_sums d) (dX10_product d) (dX10_one d) M (if cA t n p = 43 then vaS (gI m 67) s + q56.1 else vaS (gI m 67) s - q56.1) q56.2) := by
        show BX10_sums_5 (dX10_either d) (dX10_both d) (dX10_compared d) (dX10_sums d) (dX10_product d) (dX10_one d) (DX10_sums_5 (dX10_either d) (dX10_both d) (dX10_compared d) (dX10_sums d) (dX10_product d) (dX10_one d) M) _ m = _
        unfold BX10_sums_5 DX10_sums_30 DX10_sums_44 DX10_sums_73
        have b1 := byteAt_m hn ht h3.1 h3.2.1 h4
        have e43 := ahR_eq hc (k := 43) (by omega) (by omega)
        have e45 := ahR_eq hc (k := 45) (by omega) (by omega)
        rw [h3.2.2.1, if_neg (by decide), b1, Option.bind_some]
        simp only [show (43 : Int32) = nI 43 from rfl, show (45 : Int32) = nI 45 from rfl, e43, e45, b1, Option.bind_some, h3.2.1, nI_1]
        rcases hor with h | h
        · rw [if_pos h, if_pos h]
          simp only [if_pos h]
          rfl
        · have h' : ¬ cA t n p = 43 := by omega
          rw [if_neg h', if_pos h, if_neg h']
          simp only [if_neg h']
          rfl
      rw [key]
      unfold loopP
      rw [if_pos hj]
      have hh := hs (sI m 58 15 (nI (p + 1))) (p + 1) (h3.at (p + 1)) (by omega)
      unfold resR at hh
      cases e : sub (p + 1) with
      | inl f =>
        have hf := (hF (p + 1) (by omega)).1 f e
        rw [e] at hh
        obtain ⟨v, m2, x1, x2, x3⟩ := hh
        rw [x1, Option.bind_some]
        dsimp only
        obtain ⟨M2, rfl⟩ : ∃ M2, M = M2 + 1 := ⟨M - 1, by omega⟩
        refine ⟨(if cA t n p = 43 then vaS (gI m 67) s + v else vaS (gI m 67) s - v), m2, ?_, x2, c1.tr x3⟩
        show BX10_sums_5 _ _ _ _ _ _ (DX10_sums_5 _ _ _ _ _ _ M2) _ m2 = _
        unfold BX10_sums_5 DX10_sums_77
        rw [x2.2.1, if_pos (nn (by omega))]
      | inr q =>
        obtain ⟨a1, a2, a3, a4⟩ := (hF (p + 1) (by omega)).2 q e
        rw [e] at hh
        obtain ⟨m2, x1, x2, x3⟩ := hh
        have gb := Gd_bin (c := cA t n p) h5 a4 (isJ_lt hj).2
        have en : gI m2 67 = gI m 67 := (c1.tr x3).n67
        have en1 : gI (sI m 58 15 (nI (p + 1))) 67 = gI m 67 := c1.n67
        rw [x1, Option.bind_some, en1]
        dsimp only
        have := ih M m2 q.1 (s ++ q.2 ++ [(cA t n p, 0)]) (by omega) (by omega) x2 a2 gb.1
        rw [en, gb.2] at this
        have hv : (if cA t n p = 43 then vaS (gI m 67) s + vaS (gI m 67) q.2 else vaS (gI m 67) s - vaS (gI m 67) q.2) = jnS (cA t n p) (vaS (gI m 67) s) (vaS (gI m 67) q.2) := by
          rcases hor with h | h <;> rw [h] <;> rfl
        rw [hv]
        unfold resR at this ⊢
        cases e2 : loopP t n sub 3 k q.1 (s ++ q.2 ++ [(cA t n p, 0)]) with
        | inl f => rw [e2] at this; obtain ⟨v, m4, z1, z2, z3⟩ := this; exact ⟨v, m4, z1, z2, (c1.tr x3).tr z3⟩
        | inr r => rw [e2] at this; obtain ⟨m4, z1, z2, z3⟩ := this; rw [en] at z1; exact ⟨m4, z1, z2, (c1.tr x3).tr z3⟩
    · unfold loopP
      rw [if_neg hj, stop M m p _ h3 h4 hj]
      exact ⟨m, rfl, h3, ch.rf⟩
theorem sums_m (hn : n ≤ 120) (ht : ∀ p, p < n → t p < 256) {d ob : Nat} {sub : Nat → LPR} (hs : SpR t n (dX10_product d) ob sub) (hF : PF n sub) : SpR t n (dX10_sums (d + 1)) ob (lvP t n sub 3 120) := by
  intro m p h1 h2
  have hh := hs m p h1 h2
  show resR t n m (bX10_sums (dX10_either d) (dX10_both d) (dX10_compared d) (dX10_sums d) (dX10_product d) (dX10_one d) m) ob _
  unfold bX10_sums lvP
  unfold resR at hh
  cases e : sub p with
  | inl f =>
    have hf := (hF p h2).1 f e
    rw [e] at hh
    obtain ⟨v, m2, x1, x2, x3⟩ := hh
    rw [x1, Option.bind_some]
    refine ⟨v, m2, ?_, x2, x3⟩
    show BX10_sums_5 _ _ _ _ _ _ (DX10_sums_5 _ _ _ _ _ _ 39999) v m2 = _
    unfold BX10_sums_5 DX10_sums_77
    rw [x2.2.1, if_pos (nn (by omega))]
  | inr q =>
    obtain ⟨a1, a2, a3, a4⟩ := (hF p h2).2 q e
    rw [e] at hh
    obtain ⟨m2, x1, x2, x3⟩ := hh
    rw [x1, Option.bind_some]
    have := sums_l hn ht hs hF 120 FU m2 q.1 q.2 (by unfold FU; omega) (by omega) x2 a2 a4
    rw [x3.n67] at this
    dsimp only
    unfold resR at this ⊢
    cases e2 : loopP t n sub 3 120 q.1 q.2 with
    | inl f => rw [e2] at this; obtain ⟨v, m4, z1, z2, z3⟩ := this; exact ⟨v, m4, z1, z2, x3.tr z3⟩
    | inr r => rw [e2] at this; obtain ⟨m4, z1, z2, z3⟩ := this; rw [x3.n67] at z1; exact ⟨m4, z1, z2, x3.tr z3⟩
theorem product_l (hn : n ≤ 120) (ht : ∀ p, p < n → t p < 256) {d ob : Nat} {sub : Nat → LPR} (hs : SpR t n (dX10_one d) ob sub) (hF : PF n sub) : ∀ (k N : Nat) (m : Mm) (p : Nat) (s : List LSt), k < N → 120 ≤ k + p → RS t n m p ob → p ≤ n → Gd s → resR t n m (DX10_product_10 (dX10_either d) (dX10_both d) (dX10_compared d) (dX10_sums d) (dX10_product d) (dX10_one d) N (vaS (gI m 67) s) (ahR (cA t n p)) m) ob (loopP t n sub 4 k p s) := by
  have stop : ∀ (M : Nat) (m : Mm) (p : Nat) (x : Int32), RS t n m p ob → p ≤ n → ¬ isJ 4 (cA t n p) = true → DX10_product_10 (dX10_either d) (dX10_both d) (dX10_compared d) (dX10_sums d) (dX10_product d) (dX10_one d) (M + 1) x (ahR (cA t n p)) m = some (x, m) := by
    intro M m p x h3 h4 hj
    have h42 : ¬ cA t n p = 42 := fun q => hj (by rw [q]; rfl)
    have h47 : ¬ cA t n p = 47 := fun q => hj (by rw [q]; rfl)
    have h37 : ¬ cA t n p = 37 := fun q => hj (by rw [q]; rfl)
    have hc := cA_le (p := p) ht
    show BX10_product_10 _ _ _ _ _ _ (DX10_product_10 _ _ _ _ _ _ M) x _ m = _
    unfold BX10_product_10 DX10_product_94
    rw [h3.2.2.1, if_neg (by decide), if_neg (by rw [show (42 : Int32) = nI 42 from rfl, ahR_eq hc (by omega) (by omega)]; exact h42), if_neg (by rw [show (47 : Int32) = nI 47 from rfl, ahR_eq hc (by omega) (by omega)]; exact h47), if_neg (by rw [show (37 : Int32) = nI 37 from rfl, ahR_eq hc (by omega) (by omega)]; exact h37)]
  intro k
  induction k with
  | zero =>
    intro N m p s h1 h2 h3 h4 h5
    obtain ⟨M, rfl⟩ : ∃ M, N = M + 1 := ⟨N - 1, by omega⟩
    rw [stop M m p _ h3 h4 (noJ (by omega))]
    exact ⟨m, rfl, h3, ch.rf⟩
  | succ k ih =>
    intro N m p s h1 h2 h3 h4 h5
    obtain ⟨M, rfl⟩ : ∃ M, N = M + 1 := ⟨N - 1, by omega⟩
    by_cases hj : isJ 4 (cA t n p) = true
    · have hpn := cA_lt (isJ_lt hj).1
      have hc := cA_le (p := p) ht
      have hor : cA t n p = 42 ∨ cA t n p = 47 ∨ cA t n p = 37 := by
        have : (cA t n p == 42 || cA t n p == 47 || cA t n p == 37) = true := hj
        simp only [Bool.or_eq_true, beq_iff_eq] at this
        omega
      have c1 : ch PVr m (sI m 58 15 (nI (p + 1))) := ch15 (Or.inl rfl)
      have key : DX10_product_10 (dX10_either d) (dX10_both d) (dX10_compared d) (dX10_sums d) (dX10_product d) (dX10_one d) (M + 1) (vaS (gI m 67) s) (ahR (cA t n p)) m = ((dX10_one d (sI m 58 15 (nI (p + 1)))).bind fun q46 => (dX10_byteAt q46.2).bind fun q87 => DX10_product_10 (dX10_either d) (dX10_both d) (dX10_compared d) (dX10_sums d) (dX10_product d) (dX10_one d) M (jnS (cA t n p) (vaS (gI m 67) s) q46.1) q87.1 q87.2) := by
        show BX10_product_10 (dX10_either d) (dX10_both d) (dX10_compared d) (dX10_sums d) (dX10_product d) (dX10_one d) (DX10_product_10 (dX10_either d) (dX10_both d) (dX10_compared d) (dX10_sums d) (dX10_product d) (dX10_one d) M) _ _ m = _
        unfold BX10_product_10 DX10_product_35 DX10_product_85
        have e42 := ahR_eq hc (k := 42) (by omega) (by omega)
        have e47 := ahR_eq hc (k := 47) (by omega) (by omega)
        have e37 := ahR_eq hc (k := 37) (by omega) (by omega)
        rw [h3.2.2.1, if_neg (by decide)]
        simp only [show (42 : Int32) = nI 42 from rfl, show (47 : Int32) = nI 47 from rfl, show (37 : Int32) = nI 37 from rfl, e42, e47, e37, h3.2.1, nI_1]
        rcases hor with h | h | h
        · simp only [if_pos h]
          rw [h]; rfl
        · have h' : ¬ cA t n p = 42 := by omega
          simp only [if_neg h', if_pos h]
          rw [h]
          congr 1
          funext q46
          show _ = (dX10_byteAt q46.2).bind fun q87 => DX10_product_10 (dX10_either d) (dX10_both d) (dX10_compared d) (dX10_sums d) (dX10_product d) (dX10_one d) M (if q46.1 = 0 then 0 else vaS (gI m 67) s / q46.1) q87.1 q87.2
          by_cases hz : q46.1 = 0
          · rw [if_pos hz, if_pos hz]
          · rw [if_neg hz, if_neg hz, if_neg hz]
        · have h' : ¬ cA t n p = 42 := by omega
          have h'' : ¬ cA t n p = 47 := by omega
          simp only [if_neg h', if_neg h'', if_pos h]
          rw [h]
          congr 1
          funext q46
          show _ = (dX10_byteAt q46.2).bind fun q87 => DX10_product_10 (dX10_either d) (dX10_both d) (dX10_compared d) (dX10_sums d) (dX10_product d) (dX10_one d) M (if q46.1 = 0 then 0 else iRem (vaS (gI m 67) s) q46.1) q87.1 q87.2
          by_cases hz : q46.1 = 0
          · rw [if_pos hz, if_pos hz]
          · rw [if_neg hz, if_neg hz, if_neg hz]
      rw [key]
      unfold loopP
      rw [if_pos hj]
      have hh := hs (sI m 58 15 (nI (p + 1))) (p + 1) (h3.at (p + 1)) (by omega)
      unfold resR at hh
      cases e : sub (p + 1) with
      | inl f =>
        have hf := (hF (p + 1) (by omega)).1 f e
        rw [e] at hh
        obtain ⟨v, m2, x1, x2, x3⟩ := hh
        obtain ⟨p', g1, g2⟩ := x2.2.2
        rw [x1, Option.bind_some]
        dsimp only
        rw [byteAt_m hn ht x2.1 g2 g1, Option.bind_some]
        dsimp only
        obtain ⟨M2, rfl⟩ : ∃ M2, M = M2 + 1 := ⟨M - 1, by omega⟩
        refine ⟨jnS (cA t n p) (vaS (gI m 67) s) v, m2, ?_, x2, c1.tr x3⟩
        show BX10_product_10 _ _ _ _ _ _ (DX10_product_10 _ _ _ _ _ _ M2) _ _ m2 = _
        unfold BX10_product_10 DX10_product_94
        rw [x2.2.1, if_pos (nn (by omega))]
      | inr q =>
        obtain ⟨a1, a2, a3, a4⟩ := (hF (p + 1) (by omega)).2 q e
        rw [e] at hh
        obtain ⟨m2, x1, x2, x3⟩ := hh
        have gb := Gd_bin (c := cA t n p) h5 a4 (isJ_lt hj).2
        have en : gI m2 67 = gI m 67 := (c1.tr x3).n67
        have en1 : gI (sI m 58 15 (nI (p + 1))) 67 = gI m 67 := c1.n67
        rw [x1, Option.bind_some, en1]
        dsimp only
        rw [byteAt_m hn ht x2.1 x2.2.1 a2, Option.bind_some]
        dsimp only
        have := ih M m2 q.1 (s ++ q.2 ++ [(cA t n p, 0)]) (by omega) (by omega) x2 a2 gb.1
        rw [en, gb.2] at this
        unfold resR at this ⊢
        cases e2 : loopP t n sub 4 k q.1 (s ++ q.2 ++ [(cA t n p, 0)]) with
        | inl f => rw [e2] at this; obtain ⟨v, m4, z1, z2, z3⟩ := this; exact ⟨v, m4, z1, z2, (c1.tr x3).tr z3⟩
        | inr r => rw [e2] at this; obtain ⟨m4, z1, z2, z3⟩ := this; rw [en] at z1; exact ⟨m4, z1, z2, (c1.tr x3).tr z3⟩
    · unfold loopP
      rw [if_neg hj, stop M m p _ h3 h4 hj]
      exact ⟨m, rfl, h3, ch.rf⟩
theorem product_m (hn : n ≤ 120) (ht : ∀ p, p < n → t p < 256) {d ob : Nat} {sub : Nat → LPR} (hs : SpR t n (dX10_one d) ob sub) (hF : PF n sub) : SpR t n (dX10_product (d + 1)) ob (lvP t n sub 4 120) := by
  intro m p h1 h2
  have hh := hs m p h1 h2
  show resR t n m (bX10_product (dX10_either d) (dX10_both d) (dX10_compared d) (dX10_sums d) (dX10_product d) (dX10_one d) m) ob _
  unfold bX10_product lvP
  unfold resR at hh
  cases e : sub p with
  | inl f =>
    have hf := (hF p h2).1 f e
    rw [e] at hh
    obtain ⟨v, m2, x1, x2, x3⟩ := hh
    obtain ⟨p', g1, g2⟩ := x2.2.2
    rw [x1, Option.bind_some]
    dsimp only
    rw [byteAt_m hn ht x2.1 g2 g1, Option.bind_some]
    refine ⟨v, m2, ?_, x2, x3⟩
    show BX10_product_10 _ _ _ _ _ _ (DX10_product_10 _ _ _ _ _ _ 39999) v _ m2 = _
    unfold BX10_product_10 DX10_product_94
    rw [x2.2.1, if_pos (nn (by omega))]
  | inr q =>
    obtain ⟨a1, a2, a3, a4⟩ := (hF p h2).2 q e
    rw [e] at hh
    obtain ⟨m2, x1, x2, x3⟩ := hh
    rw [x1, Option.bind_some]
    dsimp only
    rw [byteAt_m hn ht x2.1 x2.2.1 a2, Option.bind_some]
    have := product_l hn ht hs hF 120 FU m2 q.1 q.2 (by unfold FU; omega) (by omega) x2 a2 a4
    rw [x3.n67] at this
    dsimp only
    unfold resR at this ⊢
    cases e2 : loopP t n sub 4 120 q.1 q.2 with
    | inl f => rw [e2] at this; obtain ⟨v, m4, z1, z2, z3⟩ := this; exact ⟨v, m4, z1, z2, x3.tr z3⟩
    | inr r => rw [e2] at this; obtain ⟨m4, z1, z2, z3⟩ := this; rw [x3.n67] at z1; exact ⟨m4, z1, z2, x3.tr z3⟩
theorem compared_m (hn : n ≤ 120) (ht : ∀ p, p < n → t p < 256) {d ob : Nat} {sub : Nat → LPR} (hs : SpR t n (dX10_sums d) ob sub) (hF : PF n sub) : SpR t n (dX10_compared (d + 1)) ob (lvP t n sub 2 1) := by
  intro m p h1 h2
  have hh := hs m p h1 h2
  show resR t n m (bX10_compared (dX10_either d) (dX10_both d) (dX10_compared d) (dX10_sums d) (dX10_product d) (dX10_one d) m) ob _
  unfold bX10_compared DX10_compared_35 DX10_compared_37 DX10_compared_85 DX10_compared_89 lvP
  unfold resR at hh
  cases e : sub p with
  | inl f =>
    have hf := (hF p h2).1 f e
    rw [e] at hh
    obtain ⟨v, m2, x1, x2, x3⟩ := hh
    obtain ⟨p', g1, g2⟩ := x2.2.2
    rw [x1, Option.bind_some]
    dsimp only
    rw [byteAt_m hn ht x2.1 g2 g1, Option.bind_some]
    dsimp only
    rw [x2.2.1, if_pos (nn (by omega))]
    exact ⟨v, m2, rfl, x2, x3⟩
  | inr q =>
    obtain ⟨a1, a2, a3, a4⟩ := (hF p h2).2 q e
    rw [e] at hh
    obtain ⟨m2, x1, x2, x3⟩ := hh
    have hc := cA_le (p := q.1) ht
    have e60 := ahR_eq hc (k := 60) (by omega) (by omega)
    have e61 := ahR_eq hc (k := 61) (by omega) (by omega)
    have e62 := ahR_eq hc (k := 62) (by omega) (by omega)
    rw [x1, Option.bind_some]
    dsimp only
    rw [byteAt_m hn ht x2.1 x2.2.1 a2, Option.bind_some]
    dsimp only
    rw [x2.2.2.1, if_neg (by decide)]
    simp only [show (60 : Int32) = nI 60 from rfl, show (61 : Int32) = nI 61 from rfl, show (62 : Int32) = nI 62 from rfl, e60, e61, e62, x2.2.1, nI_1]
    by_cases hj : isJ 2 (cA t n q.1) = true
    · have hpn := cA_lt (isJ_lt hj).1
      have hor : cA t n q.1 = 60 ∨ cA t n q.1 = 61 ∨ cA t n q.1 = 62 := by
        have : (cA t n q.1 == 60 || cA t n q.1 == 61 || cA t n q.1 == 62) = true := hj
        simp only [Bool.or_eq_true, beq_iff_eq] at this
        omega
      have c1 : ch PVr m2 (sI m2 58 15 (nI (q.1 + 1))) := ch15 (Or.inl rfl)
      have hh2 := hs (sI m2 58 15 (nI (q.1 + 1))) (q.1 + 1) (x2.at (q.1 + 1)) (by omega)
      unfold resR at hh2
      have hred : ∀ X Y : Option (Int32 × Mm), (if cA t n q.1 = 60 then X else if cA t n q.1 = 61 then X else if cA t n q.1 = 62 then X else Y) = X := by
        intro X Y
        rcases hor with h | h | h
        · rw [if_pos h]
        · rw [if_neg (by omega), if_pos h]
        · rw [if_neg (by omega), if_neg (by omega), if_pos h]
      rw [hred]
      show resR t n m _ ob (loopP t n sub 2 (0 + 1) q.1 q.2)
      unfold loopP
      rw [if_pos hj]
      cases e2 : sub (q.1 + 1) with
      | inl f =>
        rw [e2] at hh2
        obtain ⟨v, m3, y1, y2, y3⟩ := hh2
        rw [y1, Option.bind_some]
        dsimp only
        show ∃ v m2, _ = some (v, m2) ∧ RF t n m2 f ∧ ch PVr m m2
        repeat' split
        all_goals exact ⟨_, m3, rfl, y2, (x3.tr c1).tr y3⟩
      | inr r =>
        obtain ⟨b1, b2, b3, b4⟩ := (hF (q.1 + 1) (by omega)).2 r e2
        rw [e2] at hh2
        obtain ⟨m3, y1, y2, y3⟩ := hh2
        have en1 : gI (sI m2 58 15 (nI (q.1 + 1))) 67 = gI m 67 := (x3.tr c1).n67
        have gb := Gd_bin (c := cA t n q.1) a4 b4 (isJ_lt hj).2
        rw [y1, Option.bind_some, en1]
        dsimp only
        refine ⟨m3, ?_, y2, (x3.tr c1).tr y3⟩
        show _ = some (vaS (gI m 67) (q.2 ++ r.2 ++ [(cA t n q.1, 0)]), m3)
        rw [gb.2]
        rcases hor with h | h | h
        · rw [h, if_pos rfl]
          show _ = some ((if vaS (gI m 67) r.2 ≤ vaS (gI m 67) q.2 then 0 else 1), m3)
          split <;> rfl
        · rw [h, if_neg (by omega), if_pos rfl]
          show _ = some ((if vaS (gI m 67) q.2 = vaS (gI m 67) r.2 then 1 else 0), m3)
          split <;> rfl
        · rw [h, if_neg (by omega), if_neg (by omega)]
          show _ = some ((if vaS (gI m 67) q.2 ≤ vaS (gI m 67) r.2 then 0 else 1), m3)
          split <;> rfl
    · have hn60 : ¬ cA t n q.1 = 60 := fun z => hj (by rw [z]; rfl)
      have hn61 : ¬ cA t n q.1 = 61 := fun z => hj (by rw [z]; rfl)
      have hn62 : ¬ cA t n q.1 = 62 := fun z => hj (by rw [z]; rfl)
      rw [if_neg hn60, if_neg hn61, if_neg hn62]
      show resR t n m _ ob (loopP t n sub 2 (0 + 1) q.1 q.2)
      unfold loopP
      rw [if_neg hj]
      exact ⟨m2, rfl, x2, x3⟩
theorem number_lm (hn : n ≤ 120) (ht : ∀ p, p < n → t p < 256) {d ob : Nat} : ∀ (k N : Nat) (m : Mm) (p : Nat) (v : Int32), k < 4 → k < N → RS t n m p ob → p ≤ n → ∃ m2, DX10_one_176 (dX10_either d) (dX10_both d) (dX10_compared d) (dX10_sums d) (dX10_product d) (dX10_one d) N v (nI (4 - k)) m = some ((numP t n k p v).2, m2) ∧ RS t n m2 (numP t n k p v).1 ob ∧ ch PVr m m2 := by
  intro k
  induction k with
  | zero =>
    intro N m p v h1 h2 h3 h4
    obtain ⟨M, rfl⟩ : ∃ M, N = M + 1 := ⟨N - 1, by omega⟩
    show ∃ m2, BX10_one_176 (dX10_either d) (dX10_both d) (dX10_compared d) (dX10_sums d) (dX10_product d) (dX10_one d) (DX10_one_176 (dX10_either d) (dX10_both d) (dX10_compared d) (dX10_sums d) (dX10_product d) (dX10_one d) M) v (nI 4) m = _ ∧ _
    unfold BX10_one_176 DX10_one_229
    rw [if_pos (by decide), if_neg (by decide)]
    exact ⟨m, rfl, h3, ch.rf⟩
  | succ k ih =>
    intro N m p v h1 h2 h3 h4
    obtain ⟨M, rfl⟩ : ∃ M, N = M + 1 := ⟨N - 1, by omega⟩
    have e4 : (nI (4 - (k + 1))).toInt = (4 - (k + 1) : Nat) := nI_toInt (by omega)
    show ∃ m2, BX10_one_176 (dX10_either d) (dX10_both d) (dX10_compared d) (dX10_sums d) (dX10_product d) (dX10_one d) (DX10_one_176 (dX10_either d) (dX10_both d) (dX10_compared d) (dX10_sums d) (dX10_product d) (dX10_one d) M) v (nI (4 - (k + 1))) m = _ ∧ _
    have hc := cA_le (p := p) ht
    have hci := ahR_toInt hc
    have b1 := byteAt_m hn ht h3.1 h3.2.1 h4
    unfold BX10_one_176 DX10_one_229 numP
    rw [if_neg (by rw [toI_le, e4]; simp; omega)]
    simp only [b1, Option.bind_some, toI_lt, Int32.reduceToInt, hci]
    by_cases hd : isDg (cA t n p) = true
    · have hd2 : 48 ≤ cA t n p ∧ cA t n p ≤ 57 := by unfold isDg at hd; simpa using hd
      rw [if_pos hd, if_neg (show ¬ cA t n p = 256 by omega), if_neg (by omega), if_neg (by omega)]
      have hpn := cA_lt (t := t) (n := n) (p := p) (by omega)
      have eah : ahR (cA t n p) = nI (cA t n p) := by unfold ahR; rw [if_neg (by omega)]
      rw [eah, h3.2.1, nI_1, nI_1, show 4 - (k + 1) + 1 = 4 - k by omega]
      obtain ⟨m3, y1, y2, y3⟩ := ih M (sI m 58 15 (nI (p + 1))) (p + 1) (10 * v + nI (cA t n p) - 48) (by omega) (by omega) (h3.at (p + 1)) (by omega)
      exact ⟨m3, y1, y2, (ch15 (Or.inl rfl)).tr y3⟩
    · rw [if_neg hd]
      have hnd : ¬ (48 ≤ cA t n p ∧ cA t n p ≤ 57) := by unfold isDg at hd; simpa using hd
      refine ⟨m, ?_, h3, ch.rf⟩
      have hz : ¬ (nI (4 - (k + 1)) = 0) := fun q => by rw [toI_eq, e4] at q; simp at q; omega
      rw [if_neg hz]
      repeat' split
      all_goals first | rfl | (exfalso; omega)
/-- no sign, no name: a number, or nothing -/
theorem number_m (hn : n ≤ 120) (ht : ∀ p, p < n → t p < 256) {d ob : Nat} {m : Mm} {p : Nat} (h3 : RS t n m p ob) (h4 : p ≤ n) : resR t n m (DX10_one_176 (dX10_either d) (dX10_both d) (dX10_compared d) (dX10_sums d) (dX10_product d) (dX10_one d) FU 0 0 m) ob (if isDg (cA t n p) then .inr ((numP t n 4 p 0).1, [(35, (numP t n 4 p 0).2)]) else .inl p) := by
  have hc := cA_le (p := p) ht
  have hci := ahR_toInt hc
  have b1 := byteAt_m hn ht h3.1 h3.2.1 h4
  obtain ⟨M, hM, hM3⟩ : ∃ M, FU = M + 1 ∧ 3 < M := ⟨39999, rfl, by omega⟩
  rw [hM]
  show resR t n m (BX10_one_176 (dX10_either d) (dX10_both d) (dX10_compared d) (dX10_sums d) (dX10_product d) (dX10_one d) (DX10_one_176 (dX10_either d) (dX10_both d) (dX10_compared d) (dX10_sums d) (dX10_product d) (dX10_one d) M) 0 0 m) ob _
  unfold BX10_one_176 DX10_one_229
  rw [if_neg (by decide)]
  simp only [b1, Option.bind_some, toI_lt, Int32.reduceToInt, hci]
  by_cases hd : isDg (cA t n p) = true
  · have hd2 : 48 ≤ cA t n p ∧ cA t n p ≤ 57 := by unfold isDg at hd; simpa using hd
    rw [if_pos hd, if_neg (show ¬ cA t n p = 256 by omega), if_neg (by omega), if_neg (by omega)]
    have hpn := cA_lt (t := t) (n := n) (p := p) (by omega)
    have eah : ahR (cA t n p) = nI (cA t n p) := by unfold ahR; rw [if_neg (by omega)]
    have key : numP t n 4 p 0 = numP t n 3 (p + 1) (10 * 0 + nI (cA t n p) - 48) := by
      show (if isDg (cA t n p) then numP t n 3 (p + 1) (10 * 0 + nI (cA t n p) - 48) else (p, 0)) = _
      rw [if_pos hd]
    rw [eah, h3.2.1, nI_1, show (0 : Int32) + 1 = nI (4 - 3) by decide, key]
    obtain ⟨m3, y1, y2, y3⟩ := number_lm hn ht (d := d) 3 M (sI m 58 15 (nI (p + 1))) (p + 1) (10 * 0 + nI (cA t n p) - 48) (by omega) hM3 (h3.at (p + 1)) (by omega)
    refine ⟨m3, ?_, y2, (ch15 (Or.inl rfl)).tr y3⟩
    rw [y1]; rfl
  · have hnd : ¬ (48 ≤ cA t n p ∧ cA t n p ≤ 57) := by unfold isDg at hd; simpa using hd
    rw [if_neg hd]
    refine ⟨0, sI m 58 17 (nI p), ?_, h3.fl h4, ch15 (Or.inr (Or.inl rfl))⟩
    rw [wrong_m h3, Option.bind_some, if_pos trivial]
    repeat' split
    all_goals first | rfl | (exfalso; omega)
theorem nameOf_m {m : Mm} : ∀ c, c < 256 → dX10_nameOf (nI c) m = some ((if nmX c < 6 then nI (nmX c) else -1), m) := by
  intro c hc
  have e : ∀ j, j < 256 → (nI c = nI j) = (c = j) := fun j hj => propext (nI_eq (by omega) (by omega))
  unfold dX10_nameOf
  simp only [show (97 : Int32) = nI 97 from rfl, show (98 : Int32) = nI 98 from rfl, show (103 : Int32) = nI 103 from rfl, show (112 : Int32) = nI 112 from rfl, show (115 : Int32) = nI 115 from rfl, show (119 : Int32) = nI 119 from rfl, e 97 (by omega), e 98 (by omega), e 103 (by omega), e 112 (by omega), e 115 (by omega), e 119 (by omega)]
  by_cases h1 : c = 97
  · subst h1; rfl
  by_cases h2 : c = 98
  · subst h2; rfl
  by_cases h3 : c = 103
  · subst h3; rfl
  by_cases h4 : c = 112
  · subst h4; rfl
  by_cases h5 : c = 115
  · subst h5; rfl
  by_cases h6 : c = 119
  · subst h6; rfl
  have : nmX c = 6 := by unfold nmX; simp [h1, h2, h3, h4, h5, h6]
  rw [this]
  simp [h1, h2, h3, h4, h5, h6]
theorem opened_m (hn : n ≤ 120) (ht : ∀ p, p < n → t p < 256) : ∀ ob : Nat, ob ≤ 6 → ∀ d, 6 * ob + 1 ≤ d → SpR t n (dX10_one d) ob (opP t n ob) := by
  -- digits, names, nothing: whatever ob
  have base : ∀ (ob e : Nat) (m : Mm) (p : Nat), RS t n m p ob → p ≤ n → ¬ cA t n p = 33 → ¬ cA t n p = 45 → ¬ cA t n p = 40 → resR t n m (dX10_one (e + 1) m) ob (if isDg (cA t n p) then .inr ((numP t n 4 p 0).1, [(35, (numP t n 4 p 0).2)]) else if nmX (cA t n p) < 6 then .inr (p + 1, [(110, nI (nmX (cA t n p)))]) else .inl p) := by
    intro ob d m p h1 h2 n33 n45 n40
    have hc := cA_le (p := p) ht
    show resR t n m (bX10_one (dX10_either d) (dX10_both d) (dX10_compared d) (dX10_sums d) (dX10_product d) (dX10_one d) m) ob _
    unfold bX10_one
    rw [h1.2.2.1, if_pos (by decide), byteAt_m hn ht h1.1 h1.2.1 h2, Option.bind_some]
    dsimp only
    rw [if_neg (by rw [show (33 : Int32) = nI 33 from rfl, ahR_eq hc (by omega) (by omega)]; exact n33), if_neg (by rw [show (45 : Int32) = nI 45 from rfl, ahR_eq hc (by omega) (by omega)]; exact n45), if_neg (by rw [show (40 : Int32) = nI 40 from rfl, ahR_eq hc (by omega) (by omega)]; exact n40)]
    have hname : dX10_nameOf (ahR (cA t n p)) m = some ((if nmX (cA t n p) < 6 then nI (nmX (cA t n p)) else -1), m) := by
      by_cases h256 : cA t n p = 256
      · rw [h256]
        show dX10_nameOf (nI 0) m = _
        rw [nameOf_m 0 (by omega)]; rfl
      · have : ahR (cA t n p) = nI (cA t n p) := by unfold ahR; rw [if_neg h256]
        rw [this, nameOf_m _ (by omega)]
    rw [hname, Option.bind_some]
    dsimp only
    by_cases hm : nmX (cA t n p) < 6
    · have hnd : ¬ isDg (cA t n p) = true := by
        intro hd
        have hd2 : 48 ≤ cA t n p ∧ cA t n p ≤ 57 := by unfold isDg at hd; simpa using hd
        unfold nmX at hm
        repeat' split at hm
        all_goals omega
      have e6 : (nI (nmX (cA t n p))).toInt = nmX (cA t n p) := nI_toInt (by omega)
      rw [if_pos hm, if_neg hnd, if_pos hm, if_neg (by rw [toI_lt, e6]; simp), if_pos (inB_nI hm (by omega)), nI_clamp (by omega), h1.2.1, nI_1]
      refine ⟨_, ?_, h1.at (p + 1), ch15 (Or.inl rfl)⟩
      rw [(Gd_nm hm).2]
      rfl
    · rw [if_neg hm, if_neg hm, if_pos (by decide)]
      have := number_m hn ht (d := d) h1 h2
      exact this
  intro ob
  induction ob with
  | zero =>
    intro h0 d hd m p h1 h2
    obtain ⟨d, rfl⟩ : ∃ e, d = e + 1 := ⟨d - 1, by omega⟩
    by_cases hs : cA t n p = 33 ∨ cA t n p = 45 ∨ cA t n p = 40
    · have hc := cA_le (p := p) ht
      have hp : opP t n 0 p = .inl p := by unfold opP; rcases hs with h | h | h <;> rw [h] <;> rfl
      rw [hp]
      show resR t n m (bX10_one (dX10_either d) (dX10_both d) (dX10_compared d) (dX10_sums d) (dX10_product d) (dX10_one d) m) 0 _
      unfold bX10_one DX10_one_32
      have e6 : gI m 58 18 = 6 := h1.2.2.2
      rw [h1.2.2.1, if_pos (by decide), byteAt_m hn ht h1.1 h1.2.1 h2, Option.bind_some, e6]
      dsimp only
      rw [wrong_m h1, Option.bind_some]
      refine ⟨0, sI m 58 17 (nI p), ?_, h1.fl h2, ch15 (Or.inr (Or.inl rfl))⟩
      rcases hs with h | h | h <;> rw [h] <;> rfl
    · have := base 0 d m p h1 h2 (fun q => hs (Or.inl q)) (fun q => hs (Or.inr (Or.inl q))) (fun q => hs (Or.inr (Or.inr q)))
      unfold opP
      exact this
  | succ ob ih =>
    intro h0 d hd m p h1 h2
    obtain ⟨d, rfl⟩ : ∃ e, d = e + 1 := ⟨d - 1, by omega⟩
    by_cases hs : cA t n p = 33 ∨ cA t n p = 45 ∨ cA t n p = 40
    · have hc := cA_le (p := p) ht
      have hpn : p < n := cA_lt (t := t) (by omega)
      have h256 : cA t n p < 256 := by omega
      have eah : ahR (cA t n p) = nI (cA t n p) := by unfold ahR; rw [if_neg (by omega)]
      have hnd : ¬ isDg (cA t n p) = true := by rcases hs with h | h | h <;> rw [h] <;> decide
      have hnm : ¬ nmX (cA t n p) < 6 := by rcases hs with h | h | h <;> rw [h] <;> decide
      have e18 : (nI (6 - (ob + 1))).toInt = (6 - (ob + 1) : Nat) := nI_toInt (by omega)
      have c1 : ch PVr m (sI (sI m 58 18 (nI (6 - ob))) 58 15 (nI (p + 1))) := (ch15 (Or.inr (Or.inr rfl))).tr (ch15 (Or.inl rfl))
      have r1 : RS t n (sI (sI m 58 18 (nI (6 - ob))) 58 15 (nI (p + 1))) (p + 1) ob := (h1.ob ob).at (p + 1)
      have key : dX10_one (d + 1) m = (if nI (cA t n p) = 40 then ((dX10_either d (sI (sI m 58 18 (nI (6 - ob))) 58 15 (nI (p + 1)))).bind fun q73 => DX10_one_83 (dX10_either d) (dX10_both d) (dX10_compared d) (dX10_sums d) (dX10_product d) (dX10_one d) (nI (cA t n p)) q73.1 q73.2) else ((dX10_one d (sI (sI m 58 18 (nI (6 - ob))) 58 15 (nI (p + 1)))).bind fun q80 => DX10_one_83 (dX10_either d) (dX10_both d) (dX10_compared d) (dX10_sums d) (dX10_product d) (dX10_one d) (nI (cA t n p)) q80.1 q80.2)) := by
        show bX10_one (dX10_either d) (dX10_both d) (dX10_compared d) (dX10_sums d) (dX10_product d) (dX10_one d) m = _
        unfold bX10_one DX10_one_32
        have e15 : gI (sI m 58 18 (nI (6 - ob))) 58 15 = nI p := by rw [gI_sI, if_neg (by omega)]; exact h1.2.1
        rw [h1.2.2.1, if_pos (by decide), byteAt_m hn ht h1.1 h1.2.1 h2, Option.bind_some, h1.2.2.2]
        dsimp only
        rw [if_neg (show ¬ nI (6 - (ob + 1)) = 6 from fun q => by rw [toI_eq, e18] at q; simp at q; omega), nI6 h0, e15, nI_1, eah]
        rcases hs with h | h | h <;> rw [h] <;> rfl
      rw [key]
      unfold opP
      rw [if_neg hnd, if_neg hnm]
      by_cases h40 : cA t n p = 40
      · rw [if_pos h40, if_pos (by rw [h40]; rfl)]
        have i1 := ih (by omega) (d - 5) (by omega)
        have p1 := product_m hn ht i1 (opP_F ob)
        have s1 := sums_m hn ht p1 (lvP_F (opP_F ob))
        have k1 := compared_m hn ht s1 (lvP_F (lvP_F (opP_F ob)))
        have b1 := both_m hn ht k1 (lvP_F (lvP_F (lvP_F (opP_F ob))))
        have hE := either_m hn ht b1 (lvP_F (lvP_F (lvP_F (lvP_F (opP_F ob))))) _ (p + 1) r1 (by omega)
        rw [show d - 5 + 1 + 1 + 1 + 1 + 1 = d by omega] at hE
        unfold DX10_one_83 DX10_one_104
        simp only [if_pos (show nI (cA t n p) = 40 by rw [h40]; rfl)]
        change resR t n _ _ ob (EP t n (opP t n ob) (p + 1)) at hE
        unfold resR at hE
        cases he : EP t n (opP t n ob) (p + 1) with
        | inl f =>
          have hf := (EP_F (t := t) (opP_F ob) (p + 1) (by omega)).1 f he
          rw [he] at hE
          obtain ⟨v, m2, x1, x2, x3⟩ := hE
          rw [x1, Option.bind_some]
          dsimp only
          rw [takes_f x2 (by omega), Option.bind_some]
          dsimp only
          rw [if_pos rfl, wrong_f x2 (by omega), Option.bind_some]
          exact ⟨0, _, rfl, x2.go, (c1.tr x3).tr (ch15 (Or.inr (Or.inl rfl)))⟩
        | inr q =>
          obtain ⟨a1, a2, a3, a4⟩ := (EP_F (t := t) (opP_F ob) (p + 1) (by omega)).2 q he
          rw [he] at hE
          obtain ⟨m2, x1, x2, x3⟩ := hE
          rw [x1, Option.bind_some]
          dsimp only
          rw [show (41 : Int32) = nI 41 from rfl, takes_m hn ht x2 a2 (by omega) (by omega)]
          by_cases h41 : cA t n q.1 = 41
          · rw [if_pos h41, if_pos h41, Option.bind_some]
            dsimp only
            rw [if_neg (by decide)]
            have x4 := x2.at (q.1 + 1)
            have e5 : gI (sI m2 58 15 (nI (q.1 + 1))) 58 18 - 1 = nI (6 - (ob + 1)) := by
              rw [x4.2.2.2, show 6 - ob = 6 - (ob + 1) + 1 by omega, nI_pred]
            rw [e5, c1.n67]
            exact ⟨_, rfl, x4.ob (ob + 1), ((c1.tr x3).tr (ch15 (Or.inl rfl))).tr (ch15 (Or.inr (Or.inr rfl)))⟩
          · rw [if_neg h41, if_neg h41, Option.bind_some]
            dsimp only
            rw [if_pos rfl, wrong_m x2, Option.bind_some]
            exact ⟨0, _, rfl, x2.fl a2, (c1.tr x3).tr (ch15 (Or.inr (Or.inl rfl)))⟩
      · have hu : cA t n p = 33 ∨ cA t n p = 45 := by omega
        have e40 : ¬ (nI (cA t n p) = 40) := by rw [show (40 : Int32) = nI 40 from rfl, nI_eq (by omega) (by omega)]; exact h40
        rw [if_neg h40, if_neg e40, if_pos hu]
        have hI := ih (by omega) d (by omega) _ (p + 1) r1 (by omega)
        unfold DX10_one_83 DX10_one_104
        have e45 : (nI (cA t n p) = 45) = (cA t n p = 45) := propext (by rw [show (45 : Int32) = nI 45 from rfl]; exact nI_eq (by omega) (by omega))
        simp only [if_neg e40, e45]
        unfold resR at hI
        cases he : opP t n ob (p + 1) with
        | inl f =>
          rw [he] at hI
          obtain ⟨v, m2, x1, x2, x3⟩ := hI
          rw [x1, Option.bind_some]
          dsimp only
          show ∃ v m2, _ = some (v, m2) ∧ RF t n m2 f ∧ ch PVr m m2
          repeat' split
          all_goals exact ⟨_, _, rfl, x2.go18, (c1.tr x3).tr (ch15 (Or.inr (Or.inr rfl)))⟩
        | inr q =>
          obtain ⟨a1, a2, a3, a4⟩ := (opP_F (t := t) ob (p + 1) (by omega)).2 q he
          rw [he] at hI
          obtain ⟨m2, x1, x2, x3⟩ := hI
          rw [x1, Option.bind_some, c1.n67]
          dsimp only
          have e5 : gI m2 58 18 - 1 = nI (6 - (ob + 1)) := by
            rw [x2.2.2.2, show 6 - ob = 6 - (ob + 1) + 1 by omega, nI_pred]
          rw [e5]
          refine ⟨sI m2 58 18 (nI (6 - (ob + 1))), ?_, x2.ob (ob + 1), (c1.tr x3).tr (ch15 (Or.inr (Or.inr rfl)))⟩
          have gu := Gd_un (c := if cA t n p = 45 then 126 else 33) a4 (by split <;> simp)
          dsimp only
          rw [gu.2]
          by_cases h45 : cA t n p = 45
          · rw [if_pos h45, if_pos h45, if_pos rfl]
          · rw [if_neg h45, if_neg h45, if_neg (show ¬ (33 : Nat) = 126 by omega)]
            split <;> rfl
    · have := base (ob + 1) d m p h1 h2 (fun q => hs (Or.inl q)) (fun q => hs (Or.inr (Or.inl q))) (fun q => hs (Or.inr (Or.inr q)))
      unfold opP
      rw [if_neg (show ¬ cA t n p = 40 from fun q => hs (Or.inr (Or.inr q))), if_neg (show ¬ (cA t n p = 33 ∨ cA t n p = 45) from fun q => hs (by omega))]
      exact this
theorem E6_m (hn : n ≤ 120) (ht : ∀ p, p < n → t p < 256) : SpR t n (dX10_either 100) 6 (EP t n (opP t n 6)) := by
  have i1 := opened_m hn ht 6 (by omega) 95 (by omega)
  have p1 := product_m hn ht i1 (opP_F 6)
  have s1 := sums_m hn ht p1 (lvP_F (opP_F 6))
  have k1 := compared_m hn ht s1 (lvP_F (lvP_F (opP_F 6)))
  have b1 := both_m hn ht k1 (lvP_F (lvP_F (lvP_F (opP_F 6))))
  exact either_m hn ht b1 (lvP_F (lvP_F (lvP_F (lvP_F (opP_F 6)))))
end LAWM
