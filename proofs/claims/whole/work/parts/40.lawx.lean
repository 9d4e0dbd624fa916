/-! ===== THE LAW: the class's reader does what the parser does ===== -/
def ahC (c : Nat) : Int32 := if c = 256 then -1 else nI c
theorem ahC_toInt {c : Nat} (h : c ≤ 256) : (ahC c).toInt = if c = 256 then -1 else (c : Int) := by
  unfold ahC
  split
  · decide
  · exact nI_toInt (by omega)
theorem ahC_eq {c k : Nat} (hc : c ≤ 256) (hk : k < 256) : (ahC c = nI k) = (c = k) := propext (by
  rw [toI_eq, ahC_toInt hc, nI_toInt (by omega)]
  split <;> omega)
theorem cA_le {t : Nat → Nat} {n p : Nat} (ht : ∀ p, p < n → t p < 256) : cA t n p ≤ 256 := by
  unfold cA
  split
  · rename_i h; have := ht p h; omega
  · omega
theorem nm_all : ∀ c, c < 256 → dIx (iC (nI c)) = (if nmX c < 6 then nI (nmX c) else -1) ∧ iC (nI c) = nI c ∧ vp_nar .char (nI c) = nI c := by decide +kernel
def PL (o a k : Nat) : Bool := (a == 15 && (k == 2 || k == 3)) || (a == o && k == 3) || a == o + 1 || a == o + 2
def stepsAt (o : Nat) (m : Mm) (acc : List LSt) : Prop := acc.length ≤ 128 ∧ gI m o 3 = nI acc.length ∧ ∀ i, i < acc.length → gI m (o + 1) i = nI (acc.getD i (0, 0)).1 ∧ gI m (o + 2) i = (acc.getD i (0, 0)).2
section LAWX
variable {t : Nat → Nat} {n o : Nat}
theorem add_1 (ho : isLa o) {m : Mm} {sz : Nat} (hs : gI m o 3 = nI sz) (h : sz < 128) {v1 v2 : Int32} : dX5_add o v1 v2 m = some ((), sI (sI (sI m (o + 1) sz (vp_nar .char v1)) (o + 2) sz v2) o 3 (nI (sz + 1))) := by
  have e : (nI sz).toInt = sz := nI_toInt (by omega)
  have e1 : gI (sI m (o + 1) sz (vp_nar .char v1)) o 3 = nI sz := by rw [gI_sI, if_neg (by omega)]; exact hs
  have e2 : gI (sI (sI m (o + 1) sz (vp_nar .char v1)) (o + 2) sz v2) o 3 = nI sz := by rw [gI_sI, if_neg (by omega)]; exact e1
  have hi : inB (nI sz) 128 := inB_nI h (by omega)
  unfold dX5_add
  rw [if_pos (pLa ho), hs, if_neg (by rw [toI_le, e]; simp; omega), if_pos hi]
  simp only [nI_clamp (show sz < 2 ^ 31 by omega), e1, e2, if_pos hi, nI_1]
theorem add_2 (ho : isLa o) {m : Mm} (hs : gI m o 3 = nI 128) {v1 v2 : Int32} : dX5_add o v1 v2 m = some ((), m) := by
  unfold dX5_add
  rw [if_pos (pLa ho), hs, if_pos (by decide)]
theorem stepsAt_add {m : Mm} {acc : List LSt} (hs : stepsAt o m acc) (h : acc.length < 128) {c : Nat} (hc : c < 256) {v : Int32} : stepsAt o (sI (sI (sI m (o + 1) acc.length (vp_nar .char (nI c))) (o + 2) acc.length v) o 3 (nI (acc.length + 1))) (acc ++ [(c, v)]) := by
  obtain ⟨h1, h2, h3⟩ := hs
  refine ⟨by simp; omega, ?_, fun i hi => ?_⟩
  · rw [gI_sI, if_pos ⟨rfl, rfl⟩]; simp
  · rw [gI_sI, if_neg (by omega), gI_sI, if_neg (by omega), gI_sI, gI_sI, if_neg (show ¬ (o + 2 = o ∧ i = 3) by omega), gI_sI]
    simp only [List.length_append, List.length_singleton] at hi
    by_cases hil : i = acc.length
    · subst hil
      rw [if_pos ⟨rfl, rfl⟩, if_pos ⟨rfl, rfl⟩, (nm_all c hc).2.2]
      simp [List.getD]
    · have hlt : i < acc.length := by omega
      rw [if_neg (fun q => hil q.2), if_neg (fun q => hil q.2), gI_sI, if_neg (by omega)]
      have := h3 i hlt
      simp only [List.getD, List.getElem?_append_left hlt] at this ⊢
      exact this
def CT (t : Nat → Nat) (n o : Nat) (m : Mm) : Prop := gI m 15 4 = nI n ∧ (∀ p, p < n → gI m 16 p = nI (t p)) ∧ gR m 15 1 = o
def CSt (t : Nat → Nat) (n o : Nat) (m : Mm) (p : Nat) (acc : List LSt) : Prop := CT t n o m ∧ gI m 15 2 = nI p ∧ gI m 15 3 = -1 ∧ stepsAt o m acc
def CFt (t : Nat → Nat) (n o : Nat) (m : Mm) (f : Nat) : Prop := CT t n o m ∧ gI m 15 3 = nI f ∧ ∃ sz, sz ≤ 128 ∧ gI m o 3 = nI sz
def resC (t : Nat → Nat) (n o : Nat) (m : Mm) (x : Option (Unit × Mm)) (acc : List LSt) (r : LPR) : Prop := match r with
  | .inl f => ∃ m2, x = some ((), m2) ∧ CFt t n o m2 f ∧ ch (PL o) m m2
  | .inr q => ∃ m2, x = some ((), m2) ∧ CSt t n o m2 q.1 (acc ++ q.2) ∧ ch (PL o) m m2
def SpC (t : Nat → Nat) (n o : Nat) (F : Mm → Option (Unit × Mm)) (P : Nat → LPR) : Prop := ∀ (m : Mm) (p : Nat) (acc : List LSt), CSt t n o m p acc → p ≤ n → acc.length ≤ p → resC t n o m (F m) acc (P p)
theorem CT.go {m m2 : Mm} (ho : isLa o) (h : CT t n o m) (c : ch (PL o) m m2) : CT t n o m2 := by
  have a1 : PL o 15 4 = false := by rcases ho with rfl | rfl <;> rfl
  have a2 : ∀ k, PL o 16 k = false := fun k => by rcases ho with rfl | rfl <;> rfl
  have a3 : PL o 15 1 = false := by rcases ho with rfl | rfl <;> rfl
  exact ⟨by rw [c.I a1]; exact h.1, fun p hp => by rw [c.I (a2 _)]; exact h.2.1 p hp, by rw [c.R a3]; exact h.2.2⟩
theorem ahead_x (ht : ∀ p, p < n → t p < 256) {m : Mm} {p : Nat} (h : CT t n o m) (hp : gI m 15 2 = nI p) (hpn : p ≤ n) (hn : n ≤ 120) : dX6_ahead m = some (ahC (cA t n p), m) := by
  have e1 : (nI n).toInt = n := nI_toInt (by omega)
  have e2 : (nI p).toInt = p := nI_toInt (by omega)
  unfold dX6_ahead cA ahC
  rw [h.1, hp]
  by_cases hlt : p < n
  · have := ht p hlt
    rw [if_neg (by rw [toI_le, e1, e2]; omega), if_pos (inB_nI (by omega) (by omega)), if_pos hlt, nI_clamp (by omega), h.2.1 p hlt, if_neg (by omega)]
  · rw [if_pos (by rw [toI_le, e1, e2]; omega), if_neg hlt, if_pos rfl]
theorem joins_x {m : Mm} {l c : Nat} (hl : l < 5) (hc : c ≤ 256) : dX6_joins (nI l) (ahC c) m = some ((if isJ l c then 1 else 0), m) := by
  have k : ∀ j, j < 256 → (ahC c = nI j) = (c = j) := fun j hj => ahC_eq hc hj
  have l2 : l = 0 ∨ l = 1 ∨ l = 2 ∨ l = 3 ∨ l = 4 := by omega
  unfold dX6_joins DX6_joins_78 DX6_joins_96 DX6_joins_120
  have e124 := k 124 (by omega); have e38 := k 38 (by omega); have e60 := k 60 (by omega); have e61 := k 61 (by omega); have e62 := k 62 (by omega); have e43 := k 43 (by omega); have e45 := k 45 (by omega); have e42 := k 42 (by omega); have e47 := k 47 (by omega); have e37 := k 37 (by omega)
  simp only [show (124 : Int32) = nI 124 from rfl, show (38 : Int32) = nI 38 from rfl, show (60 : Int32) = nI 60 from rfl, show (61 : Int32) = nI 61 from rfl, show (62 : Int32) = nI 62 from rfl, show (43 : Int32) = nI 43 from rfl, show (45 : Int32) = nI 45 from rfl, show (42 : Int32) = nI 42 from rfl, show (47 : Int32) = nI 47 from rfl, show (37 : Int32) = nI 37 from rfl, e124, e38, e60, e61, e62, e43, e45, e42, e47, e37]
  rcases l2 with rfl | rfl | rfl | rfl | rfl
  · rw [if_pos (show nI 0 = 0 from rfl)]
    show _ = some ((if (c == 124) = true then (1 : Int32) else 0), m)
    simp only [Bool.or_eq_true, beq_iff_eq]
    repeat' split
    all_goals first | rfl | (exfalso; omega)
  · rw [if_neg (show ¬ nI 1 = 0 by decide), if_pos (show nI 1 = 1 from rfl)]
    show _ = some ((if (c == 38) = true then (1 : Int32) else 0), m)
    simp only [Bool.or_eq_true, beq_iff_eq]
    repeat' split
    all_goals first | rfl | (exfalso; omega)
  · rw [if_neg (show ¬ nI 2 = 0 by decide), if_neg (show ¬ nI 2 = 1 by decide), if_pos (show nI 2 = 2 from rfl)]
    show _ = some ((if (c == 60 || c == 61 || c == 62) = true then (1 : Int32) else 0), m)
    simp only [Bool.or_eq_true, beq_iff_eq]
    repeat' split
    all_goals first | rfl | (exfalso; omega)
  · rw [if_neg (show ¬ nI 3 = 0 by decide), if_neg (show ¬ nI 3 = 1 by decide), if_neg (show ¬ nI 3 = 2 by decide), if_pos (show nI 3 = 3 from rfl)]
    show _ = some ((if (c == 43 || c == 45) = true then (1 : Int32) else 0), m)
    simp only [Bool.or_eq_true, beq_iff_eq]
    repeat' split
    all_goals first | rfl | (exfalso; omega)
  · rw [if_neg (show ¬ nI 4 = 0 by decide), if_neg (show ¬ nI 4 = 1 by decide), if_neg (show ¬ nI 4 = 2 by decide), if_neg (show ¬ nI 4 = 3 by decide), if_pos (show nI 4 = 4 from rfl)]
    show _ = some ((if (c == 42 || c == 47 || c == 37) = true then (1 : Int32) else 0), m)
    simp only [Bool.or_eq_true, beq_iff_eq]
    repeat' split
    all_goals first | rfl | (exfalso; omega)
theorem PL_add (ho : isLa o) {m : Mm} {k : Nat} {a b c : Int32} : ch (PL o) m (sI (sI (sI m (o + 1) k a) (o + 2) k b) o 3 c) := by
  have p1 : PL o (o + 1) k = true := by unfold PL; simp
  have p2 : PL o (o + 2) k = true := by unfold PL; simp
  have p3 : PL o o 3 = true := by unfold PL; simp
  exact ((ch.sI p1).tr (ch.sI p2)).tr (ch.sI p3)
theorem PL_15 {m : Mm} {v : Int32} {k : Nat} (hk : k = 2 ∨ k = 3) : ch (PL o) m (sI m 15 k v) := ch.sI (by unfold PL; rcases hk with rfl | rfl <;> simp)
/-- add, whatever the state: something comes, and the state of a fault stays one -/
theorem add_f (ho : isLa o) {m : Mm} {f : Nat} (h : CFt t n o m f) {v1 v2 : Int32} : ∃ m2, dX5_add o v1 v2 m = some ((), m2) ∧ CFt t n o m2 f ∧ ch (PL o) m m2 := by
  obtain ⟨h1, h2, sz, h3, h4⟩ := h
  by_cases hs : sz < 128
  · refine ⟨_, add_1 ho h4 hs, ⟨h1.go ho (PL_add ho), ?_, sz + 1, by omega, by rw [gI_sI, if_pos ⟨rfl, rfl⟩]⟩, PL_add ho⟩
    have no : ¬ (15 : Nat) = o := by rcases ho with rfl | rfl <;> omega
    have no1 : ¬ (15 : Nat) = o + 1 := by rcases ho with rfl | rfl <;> omega
    have no2 : ¬ (15 : Nat) = o + 2 := by rcases ho with rfl | rfl <;> omega
    rw [gI_sI, if_neg (fun q => no q.1), gI_sI, if_neg (fun q => no2 q.1), gI_sI, if_neg (fun q => no1 q.1)]
    exact h2
  · have : sz = 128 := by omega
    subst this
    exact ⟨m, add_2 ho h4, ⟨h1, h2, 128, by omega, h4⟩, ch.rf⟩
theorem add_s (ho : isLa o) {m : Mm} {p : Nat} {acc : List LSt} (h : CSt t n o m p acc) (hl : acc.length < 128) {c : Nat} (hc : c < 256) {v : Int32} : ∃ m2, dX5_add o (nI c) v m = some ((), m2) ∧ CSt t n o m2 p (acc ++ [(c, v)]) ∧ ch (PL o) m m2 := by
  obtain ⟨h1, h2, h3, h4⟩ := h
  have no : ¬ (15 : Nat) = o := by rcases ho with rfl | rfl <;> omega
  have no1 : ¬ (15 : Nat) = o + 1 := by rcases ho with rfl | rfl <;> omega
  have no2 : ¬ (15 : Nat) = o + 2 := by rcases ho with rfl | rfl <;> omega
  refine ⟨_, add_1 ho h4.2.1 hl, ⟨h1.go ho (PL_add ho), ?_, ?_, stepsAt_add h4 hl hc⟩, PL_add ho⟩
  · rw [gI_sI, if_neg (fun q => no q.1), gI_sI, if_neg (fun q => no2 q.1), gI_sI, if_neg (fun q => no1 q.1)]
    exact h2
  · rw [gI_sI, if_neg (fun q => no q.1), gI_sI, if_neg (fun q => no2 q.1), gI_sI, if_neg (fun q => no1 q.1)]
    exact h3
/-- the place goes on -/
theorem CSt.at (ho : isLa o) {m : Mm} {p : Nat} {acc : List LSt} (h : CSt t n o m p acc) (p' : Nat) : CSt t n o (sI m 15 2 (nI p')) p' acc := by
  obtain ⟨h1, h2, h3, h4, h5, h6⟩ := h
  have no : ¬ o = 15 := by rcases ho with rfl | rfl <;> omega
  have no1 : ¬ o + 1 = 15 := by rcases ho with rfl | rfl <;> omega
  have no2 : ¬ o + 2 = 15 := by rcases ho with rfl | rfl <;> omega
  refine ⟨h1.go ho (PL_15 (Or.inl rfl)), by rw [gI_sI, if_pos ⟨rfl, rfl⟩], by rw [gI_sI, if_neg (by omega)]; exact h3, h4, by rw [gI_sI, if_neg (fun q => no q.1)]; exact h5, fun i hi => ?_⟩
  rw [gI_sI, if_neg (fun q => no1 q.1), gI_sI, if_neg (fun q => no2 q.1)]
  exact h6 i hi
/-- a fault is told -/
theorem CSt.fl (ho : isLa o) {m : Mm} {p : Nat} {acc : List LSt} (h : CSt t n o m p acc) : CFt t n o (sI m 15 3 (nI p)) p := by
  obtain ⟨h1, h2, h3, h4, h5, h6⟩ := h
  have no : ¬ o = 15 := by rcases ho with rfl | rfl <;> omega
  exact ⟨h1.go ho (PL_15 (Or.inr rfl)), by rw [gI_sI, if_pos ⟨rfl, rfl⟩], acc.length, h4, by rw [gI_sI, if_neg (fun q => no q.1)]; exact h5⟩
theorem nf {f : Nat} (hf : f ≤ 120) : ¬ nI f = -1 := fun q => by
  have e : (nI f).toInt = f := nI_toInt (by omega)
  rw [q] at e; simp at e
theorem loop_x (ho : isLa o) (hn : n ≤ 120) (ht : ∀ p, p < n → t p < 256) {d : Nat} {sub : Nat → LPR} {l most : Nat} {v2 : Int32} (hl : l < 5) (hm : most ≤ 120) (hs : SpC t n o (dX6_level d (nI (l + 1)) v2) sub) (hF : PF n sub) : ∀ (k N : Nat) (m : Mm) (p : Nat) (a0 s : List LSt), k ≤ most → k < N → CSt t n o m p (a0 ++ s) → p ≤ n → (a0 ++ s).length ≤ p → (match loopP t n sub l k p s with
    | .inl f => ∃ m2, DX6_level_34 (dX6_level d) (dX6_operand d) (dX6_opened d) N (nI l) v2 (nI most) (nI (most - k)) m = some ((), m2) ∧ CFt t n o m2 f ∧ ch (PL o) m m2
    | .inr q => ∃ m2, DX6_level_34 (dX6_level d) (dX6_operand d) (dX6_opened d) N (nI l) v2 (nI most) (nI (most - k)) m = some ((), m2) ∧ CSt t n o m2 q.1 (a0 ++ q.2) ∧ ch (PL o) m m2) := by
  intro k
  induction k with
  | zero =>
    intro N m p a0 s h1 h2 h3 h4 h5
    obtain ⟨M, rfl⟩ : ∃ M, N = M + 1 := ⟨N - 1, by omega⟩
    show ∃ m2, BX6_level_34 (dX6_level d) (dX6_operand d) (dX6_opened d) (DX6_level_34 (dX6_level d) (dX6_operand d) (dX6_opened d) M) _ _ _ _ m = _ ∧ _
    unfold BX6_level_34
    rw [Nat.sub_zero, if_pos (Int32.le_refl _)]
    exact ⟨m, rfl, h3, ch.rf⟩
  | succ k ih =>
    intro N m p a0 s h1 h2 h3 h4 h5
    obtain ⟨M, rfl⟩ : ∃ M, N = M + 1 := ⟨N - 1, by omega⟩
    have em : (nI most).toInt = most := nI_toInt (by omega)
    have emk : (nI (most - (k + 1))).toInt = (most - (k + 1) : Nat) := nI_toInt (by omega)
    have step : DX6_level_34 (dX6_level d) (dX6_operand d) (dX6_opened d) (M + 1) (nI l) v2 (nI most) (nI (most - (k + 1))) m = BX6_level_34 (dX6_level d) (dX6_operand d) (dX6_opened d) (DX6_level_34 (dX6_level d) (dX6_operand d) (dX6_opened d) M) (nI l) v2 (nI most) (nI (most - (k + 1))) m := rfl
    rw [step]
    unfold BX6_level_34
    rw [if_neg (by rw [toI_le, em, emk]; omega), if_pos h3.2.2.1, ahead_x ht h3.1 h3.2.1 h4 hn, Option.bind_some]
    dsimp only
    rw [joins_x hl (cA_le ht), Option.bind_some]
    unfold loopP
    by_cases hj : isJ l (cA t n p) = true
    · have hpn := cA_lt (isJ_lt hj).1
      have ec : gI m 16 p = nI (cA t n p) := by rw [h3.1.2.1 p hpn]; unfold cA; rw [if_pos hpn]
      simp only [if_pos hj]
      rw [if_neg (show ¬ (1 : Int32) = 0 by decide), h3.2.1, if_pos (inB_nI (by omega) (by omega)), nI_1, nI_1, nI_clamp (by omega), ec]
      have c1 := PL_15 (o := o) (m := m) (v := nI (p + 1)) (Or.inl rfl : (2 : Nat) = 2 ∨ (2 : Nat) = 3)
      have hh := hs (sI m 15 2 (nI (p + 1))) (p + 1) (a0 ++ s) (h3.at ho (p + 1)) (by omega) (by omega)
      unfold resC at hh
      have hm1 : most - (k + 1) + 1 = most - k := by omega
      cases e : sub (p + 1) with
      | inl f =>
        have hf := (hF (p + 1) (by omega)).1 f e
        rw [e] at hh
        obtain ⟨m2, x1, x2, x3⟩ := hh
        rw [x1, Option.bind_some]
        dsimp only
        rw [x2.1.2.2, if_pos (pLa ho)]
        obtain ⟨m3, y1, y2, y3⟩ := add_f ho x2 (v1 := nI (cA t n p)) (v2 := 0)
        rw [y1, Option.bind_some, nI_1, hm1]
        obtain ⟨M2, rfl⟩ : ∃ M2, M = M2 + 1 := ⟨M - 1, by omega⟩
        show ∃ m2, BX6_level_34 (dX6_level d) (dX6_operand d) (dX6_opened d) (DX6_level_34 (dX6_level d) (dX6_operand d) (dX6_opened d) M2) (nI l) v2 (nI most) (nI (most - k)) m3 = _ ∧ _
        unfold BX6_level_34
        rw [y2.2.1, if_neg (nf (by omega))]
        refine ⟨m3, ?_, y2, (c1.tr x3).tr y3⟩
        split <;> rfl
      | inr q =>
        obtain ⟨a1, a2, a3, a4⟩ := (hF (p + 1) (by omega)).2 q e
        rw [e] at hh
        obtain ⟨m2, x1, x2, x3⟩ := hh
        rw [x1, Option.bind_some]
        dsimp only
        rw [x2.1.2.2, if_pos (pLa ho)]
        obtain ⟨m3, y1, y2, y3⟩ := add_s ho x2 (by simp only [List.length_append] at h5 ⊢; omega) (isJ_lt hj).1 (v := 0)
        rw [y1, Option.bind_some, nI_1, hm1]
        rw [List.append_assoc, List.append_assoc, ← List.append_assoc s] at y2
        have := ih M m3 q.1 a0 (s ++ q.2 ++ [(cA t n p, 0)]) (by omega) (by omega) y2 a2 (by simp only [List.length_append, List.length_singleton] at h5 ⊢; omega)
        dsimp only
        cases e2 : loopP t n sub l k q.1 (s ++ q.2 ++ [(cA t n p, 0)]) with
        | inl f =>
          rw [e2] at this
          obtain ⟨m4, z1, z2, z3⟩ := this
          exact ⟨m4, z1, z2, ((c1.tr x3).tr y3).tr z3⟩
        | inr r =>
          rw [e2] at this
          obtain ⟨m4, z1, z2, z3⟩ := this
          exact ⟨m4, z1, z2, ((c1.tr x3).tr y3).tr z3⟩
    · simp only [if_neg hj]
      rw [if_pos trivial]
      exact ⟨m, rfl, h3, ch.rf⟩
theorem lv_x (ho : isLa o) (hn : n ≤ 120) (ht : ∀ p, p < n → t p < 256) {d : Nat} {sub : Nat → LPR} {l most : Nat} {v2 : Int32} (hl : l < 5) (hm : most = if l = 2 then 1 else 120) (hs : SpC t n o (dX6_level d (nI (l + 1)) v2) sub) (hF : PF n sub) : SpC t n o (dX6_level (d + 1) (nI l) v2) (lvP t n sub l most) := by
  intro m p acc h1 h2 h3
  have el : (nI l).toInt = l := nI_toInt (by omega)
  show resC t n o m (bX6_level (dX6_level d) (dX6_operand d) (dX6_opened d) (nI l) v2 m) acc (lvP t n sub l most p)
  unfold bX6_level DX6_level_30 lvP
  rw [if_pos (by rw [toI_lt, el]; simp; omega), nI_1]
  have hh := hs m p acc h1 h2 h3
  have e2 : (nI l = 2) = (l = 2) := propext (by rw [show (2 : Int32) = nI 2 from rfl, nI_eq (by omega) (by omega)])
  simp only [e2]
  have emost : (if l = 2 then DX6_level_34 (dX6_level d) (dX6_operand d) (dX6_opened d) FU (nI l) v2 1 0 else DX6_level_34 (dX6_level d) (dX6_operand d) (dX6_opened d) FU (nI l) v2 120 0) = DX6_level_34 (dX6_level d) (dX6_operand d) (dX6_opened d) FU (nI l) v2 (nI most) (nI 0) := by
    rw [hm]; split <;> rfl
  have em2 : ∀ m2, (if l = 2 then DX6_level_34 (dX6_level d) (dX6_operand d) (dX6_opened d) FU (nI l) v2 1 0 m2 else DX6_level_34 (dX6_level d) (dX6_operand d) (dX6_opened d) FU (nI l) v2 120 0 m2) = DX6_level_34 (dX6_level d) (dX6_operand d) (dX6_opened d) FU (nI l) v2 (nI most) (nI 0) m2 := fun m2 => by
    rw [← emost]; split <;> rfl
  simp only [em2]
  have hm120 : most ≤ 120 := by rw [hm]; split <;> omega
  have hm1 : 1 ≤ most := by rw [hm]; split <;> omega
  cases e : sub p with
  | inl f =>
    have hf := (hF p h2).1 f e
    rw [e] at hh
    obtain ⟨m2, x1, x2, x3⟩ := hh
    rw [x1, Option.bind_some]
    refine ⟨m2, ?_, x2, x3⟩
    show BX6_level_34 (dX6_level d) (dX6_operand d) (dX6_opened d) (DX6_level_34 (dX6_level d) (dX6_operand d) (dX6_opened d) 39999) (nI l) v2 (nI most) (nI 0) m2 = _
    unfold BX6_level_34
    rw [x2.2.1, if_neg (nf (by omega))]
    split <;> rfl
  | inr q =>
    obtain ⟨a1, a2, a3, a4⟩ := (hF p h2).2 q e
    rw [e] at hh
    obtain ⟨m2, x1, x2, x3⟩ := hh
    rw [x1, Option.bind_some]
    have := loop_x ho hn ht hl hm120 hs hF most FU m2 q.1 acc q.2 (Nat.le_refl _) (by unfold FU; omega) x2 a2 (by simp only [List.length_append]; omega)
    rw [Nat.sub_self] at this
    dsimp only
    unfold resC
    cases e2 : loopP t n sub l most q.1 q.2 with
    | inl f =>
      rw [e2] at this
      obtain ⟨m4, z1, z2, z3⟩ := this
      exact ⟨m4, z1, z2, x3.tr z3⟩
    | inr r =>
      rw [e2] at this
      obtain ⟨m4, z1, z2, z3⟩ := this
      exact ⟨m4, z1, z2, x3.tr z3⟩
theorem E_x (ho : isLa o) (hn : n ≤ 120) (ht : ∀ p, p < n → t p < 256) {d : Nat} {sub : Nat → LPR} {v2 : Int32} (hs : SpC t n o (dX6_operand d v2) sub) (hF : PF n sub) : SpC t n o (dX6_level (d + 6) 0 v2) (EP t n sub) := by
  have h5 : SpC t n o (dX6_level (d + 1) (nI 5) v2) sub := by
    intro m p acc h1 h2 h3
    have hh := hs m p acc h1 h2 h3
    show resC t n o m (bX6_level (dX6_level d) (dX6_operand d) (dX6_opened d) (nI 5) v2 m) acc (sub p)
    unfold bX6_level
    rw [if_neg (by decide)]
    unfold resC at hh ⊢
    cases e : sub p with
    | inl f => rw [e] at hh; obtain ⟨m2, x1, x2, x3⟩ := hh; exact ⟨m2, by rw [x1]; rfl, x2, x3⟩
    | inr q => rw [e] at hh; obtain ⟨m2, x1, x2, x3⟩ := hh; exact ⟨m2, by rw [x1]; rfl, x2, x3⟩
  have h4 := lv_x ho hn ht (l := 4) (most := 120) (by omega) rfl h5 hF
  have h3 := lv_x ho hn ht (l := 3) (most := 120) (by omega) rfl h4 (lvP_F hF)
  have h2 := lv_x ho hn ht (l := 2) (most := 1) (by omega) rfl h3 (lvP_F (lvP_F hF))
  have h1 := lv_x ho hn ht (l := 1) (most := 120) (by omega) rfl h2 (lvP_F (lvP_F (lvP_F hF)))
  exact lv_x ho hn ht (l := 0) (most := 120) (by omega) rfl h1 (lvP_F (lvP_F (lvP_F (lvP_F hF))))
theorem number_l (ho : isLa o) (hn : n ≤ 120) (ht : ∀ p, p < n → t p < 256) : ∀ (k N : Nat) (m : Mm) (p : Nat) (v : Int32) (acc : List LSt), k ≤ 4 → k < N → CSt t n o m p acc → p ≤ n → acc.length < 128 → ∃ m2, DX6_number_4 N v (nI (4 - k)) m = some ((), m2) ∧ CSt t n o m2 (numP t n k p v).1 (acc ++ [(35, (numP t n k p v).2)]) ∧ ch (PL o) m m2 := by
  intro k
  induction k with
  | zero =>
    intro N m p v acc h1 h2 h3 h4 h5
    obtain ⟨M, rfl⟩ : ∃ M, N = M + 1 := ⟨N - 1, by omega⟩
    show ∃ m2, BX6_number_4 (DX6_number_4 M) v (nI 4) m = _ ∧ _
    unfold BX6_number_4 DX6_number_56
    rw [if_pos (by decide), h3.1.2.2, if_pos (pLa ho)]
    obtain ⟨m2, x1, x2, x3⟩ := add_s ho h3 h5 (c := 35) (by omega) (v := v)
    rw [show (35 : Int32) = nI 35 from rfl, x1]
    exact ⟨m2, rfl, x2, x3⟩
  | succ k ih =>
    intro N m p v acc h1 h2 h3 h4 h5
    obtain ⟨M, rfl⟩ : ∃ M, N = M + 1 := ⟨N - 1, by omega⟩
    have e4 : (nI (4 - (k + 1))).toInt = (4 - (k + 1) : Nat) := nI_toInt (by omega)
    show ∃ m2, BX6_number_4 (DX6_number_4 M) v (nI (4 - (k + 1))) m = _ ∧ _
    have ha := ahead_x ht h3.1 h3.2.1 h4 hn
    have hc := cA_le (p := p) ht
    have hci := ahC_toInt hc
    unfold BX6_number_4 DX6_number_56 numP
    rw [if_neg (by rw [toI_le, e4]; simp; omega)]
    simp only [ha, Option.bind_some, toI_lt, Int32.reduceToInt, hci]
    obtain ⟨m2, x1, x2, x3⟩ := add_s ho h3 h5 (c := 35) (by omega) (v := v)
    by_cases hd : isDg (cA t n p) = true
    · have hd2 : 48 ≤ cA t n p ∧ cA t n p ≤ 57 := by unfold isDg at hd; simpa using hd
      rw [if_pos hd, if_neg (show ¬ cA t n p = 256 by omega), if_neg (by omega), if_neg (by omega)]
      have hpn := cA_lt (t := t) (n := n) (p := p) (by omega)
      have eah : ahC (cA t n p) = nI (cA t n p) := by unfold ahC; rw [if_neg (by omega)]
      rw [eah, h3.2.1, nI_1, nI_1, show 4 - (k + 1) + 1 = 4 - k by omega]
      obtain ⟨m3, y1, y2, y3⟩ := ih M (sI m 15 2 (nI (p + 1))) (p + 1) (10 * v + nI (cA t n p) - 48) acc (by omega) (by omega) (h3.at ho (p + 1)) (by omega) h5
      exact ⟨m3, y1, y2, (PL_15 (Or.inl rfl)).tr y3⟩
    · rw [if_neg hd]
      have hnd : ¬ (48 ≤ cA t n p ∧ cA t n p ≤ 57) := by unfold isDg at hd; simpa using hd
      refine ⟨m2, ?_, x2, x3⟩
      rw [h3.1.2.2, if_pos (pLa ho), show (35 : Int32) = nI 35 from rfl, x1, Option.bind_some]
      repeat' split
      all_goals first | rfl | (exfalso; omega)
theorem operand_1 (hn : n ≤ 120) (ht : ∀ p, p < n → t p < 256) {L : Int32 → Int32 → Mm → Option (Unit × Mm)} {Op : Int32 → Mm → Option (Unit × Mm)} {Od : Int32 → Int32 → Mm → Option (Unit × Mm)} {v : Int32} {m : Mm} {p : Nat} {acc : List LSt} (ho : isLa o) (h1 : CSt t n o m p acc) (h2 : p ≤ n) : bX6_operand L Op Od v m = (if isDg (cA t n p) then (dX6_number m).bind fun q => some ((), q.2) else if nmX (cA t n p) < 6 then (dX5_add o 110 (nI (nmX (cA t n p))) m).bind fun q => some ((), sI q.2 15 2 (gI q.2 15 2 + 1)) else DX6_operand_76 L Op Od v (ahC (cA t n p)) m) := by
  have ha := ahead_x ht h1.1 h1.2.1 h2 hn
  have hc := cA_le (p := p) ht
  have hci := ahC_toInt hc
  unfold bX6_operand DX6_operand_33
  rw [ha, Option.bind_some, if_pos h1.2.2.1]
  dsimp only
  simp only [toI_lt, toI_le, Int32.reduceToInt, hci]
  by_cases hdg : isDg (cA t n p) = true
  · have hd2 : 48 ≤ cA t n p ∧ cA t n p ≤ 57 := by unfold isDg at hdg; simpa using hdg
    rw [if_pos hdg, if_neg (show ¬ cA t n p = 256 by omega), if_neg (by omega), if_neg (by omega)]
  · have hnd : ¬ (48 ≤ cA t n p ∧ cA t n p ≤ 57) := by unfold isDg at hdg; simpa using hdg
    rw [if_neg hdg]
    have h33 : (if (if cA t n p = 256 then (-1 : Int) else (cA t n p : Int)) ≤ 0 then DX6_operand_76 L Op Od v (ahC (cA t n p)) m else if (dIx (iC (ahC (cA t n p)))).toInt < 0 then DX6_operand_76 L Op Od v (ahC (cA t n p)) m else if gR m 15 1 = 50 ∨ gR m 15 1 = 54 then (dX5_add (gR m 15 1) 110 (dIx (iC (ahC (cA t n p)))) m).bind fun q60 => some ((), sI q60.2 15 2 (gI q60.2 15 2 + 1)) else none) = (if nmX (cA t n p) < 6 then (dX5_add o 110 (nI (nmX (cA t n p))) m).bind fun q => some ((), sI q.2 15 2 (gI q.2 15 2 + 1)) else DX6_operand_76 L Op Od v (ahC (cA t n p)) m) := by
      by_cases hc0 : cA t n p = 0 ∨ cA t n p = 256
      · have hx : ¬ nmX (cA t n p) < 6 := by rcases hc0 with e | e <;> rw [e] <;> decide
        rw [if_neg hx, if_pos (by split <;> omega)]
      · have hlt : cA t n p < 256 := by omega
        obtain ⟨n1, n2, -⟩ := nm_all _ hlt
        have eah : ahC (cA t n p) = nI (cA t n p) := by unfold ahC; rw [if_neg (by omega)]
        rw [if_neg (by split <;> omega), eah, n1]
        by_cases hx : nmX (cA t n p) < 6
        · rw [if_pos hx, if_pos hx, if_neg (by rw [nI_toInt (by omega)]; omega), h1.1.2.2, if_pos (pLa ho)]
        · rw [if_neg hx, if_neg hx, if_pos (by decide)]
    rw [h33]
    repeat' split
    all_goals first | rfl | (exfalso; omega)
theorem passes_x (hn : n ≤ 120) (ht : ∀ p, p < n → t p < 256) {m : Mm} {p c0 : Nat} {acc : List LSt} (h1 : CSt t n o m p acc) (h2 : p ≤ n) (h0 : c0 < 256) : dX6_passes (nI c0) m = (if cA t n p = c0 then some (1, sI m 15 2 (nI (p + 1))) else some (0, sI m 15 2 (nI p))) := by
  have e := ahC_eq (cA_le (p := p) ht) h0
  unfold dX6_passes DX6_passes_20 DX6_passes_21 DX6_passes_36
  rw [if_pos h1.2.2.1, ahead_x ht h1.1 h1.2.1 h2 hn, Option.bind_some, h1.2.1]
  simp only [e]
  by_cases h : cA t n p = c0
  · rw [if_pos h, if_pos h, if_neg (by decide), if_pos (Or.inr trivial), nI_1]
  · rw [if_neg h, if_neg h, if_pos trivial, if_pos (Or.inl trivial), Int32.add_zero]
theorem passes_f {m : Mm} {f : Nat} {c0 : Int32} (h1 : CFt t n o m f) (hf : f ≤ 120) : dX6_passes c0 m = some (0, sI m 15 2 (gI m 15 2)) := by
  unfold dX6_passes DX6_passes_20 DX6_passes_21 DX6_passes_36
  rw [h1.2.1, if_neg (nf hf), if_pos rfl, if_pos (Or.inl rfl), Int32.add_zero]
theorem CFt.at (ho : isLa o) {m : Mm} {f : Nat} (h : CFt t n o m f) (v : Int32) : CFt t n o (sI m 15 2 v) f := by
  obtain ⟨h1, h2, sz, h3, h4⟩ := h
  have no : ¬ o = 15 := by rcases ho with rfl | rfl <;> omega
  exact ⟨h1.go ho (PL_15 (Or.inl rfl)), by rw [gI_sI, if_neg (by omega)]; exact h2, sz, h3, by rw [gI_sI, if_neg (fun q => no q.1)]; exact h4⟩
theorem nI6 {ob : Nat} (h : ob + 1 ≤ 6) : nI (6 - (ob + 1)) + 1 = nI (6 - ob) := by rw [nI_1]; congr 1; omega
theorem operand_x (ho : isLa o) (hn : n ≤ 120) (ht : ∀ p, p < n → t p < 256) : ∀ ob : Nat, ob ≤ 6 → ∀ d, 8 * ob + 1 ≤ d → SpC t n o (dX6_operand d (nI (6 - ob))) (opP t n ob) := by
  -- digits and names, whatever ob
  have base : ∀ (ob e : Nat) (m : Mm) (p : Nat) (acc : List LSt), CSt t n o m p acc → p ≤ n → acc.length ≤ p → ∀ (R : LPR), (isDg (cA t n p) = true ∨ nmX (cA t n p) < 6) → (R = if isDg (cA t n p) then .inr ((numP t n 4 p 0).1, [(35, (numP t n 4 p 0).2)]) else .inr (p + 1, [(110, nI (nmX (cA t n p)))])) → resC t n o m (dX6_operand (e + 1) (nI (6 - ob)) m) acc R := by
    intro ob e m p acc h1 h2 h3 R hor hR
    show resC t n o m (bX6_operand (dX6_level e) (dX6_operand e) (dX6_opened e) (nI (6 - ob)) m) acc R
    rw [operand_1 hn ht ho h1 h2, hR]
    by_cases hdg : isDg (cA t n p) = true
    · rw [if_pos hdg, if_pos hdg]
      obtain ⟨m2, x1, x2, x3⟩ := number_l ho hn ht 4 FU m p 0 acc (by omega) (by unfold FU; omega) h1 h2 (by omega)
      refine ⟨m2, ?_, x2, x3⟩
      unfold dX6_number
      rw [show (DX6_number_4 FU 0 0 m) = some ((), m2) from x1, Option.bind_some]
    · have hm : nmX (cA t n p) < 6 := by rcases hor with h | h; exact absurd h hdg; exact h
      rw [if_neg hdg, if_neg hdg, if_pos hm]
      obtain ⟨m2, x1, x2, x3⟩ := add_s ho h1 (by omega) (c := 110) (by omega) (v := nI (nmX (cA t n p)))
      rw [show (110 : Int32) = nI 110 from rfl, x1, Option.bind_some]
      dsimp only
      rw [x2.2.1, nI_1]
      exact ⟨_, rfl, x2.at ho (p + 1), x3.tr (PL_15 (Or.inl rfl))⟩
  intro ob
  induction ob with
  | zero =>
    intro h0 d hd m p acc h1 h2 h3
    obtain ⟨e, rfl⟩ : ∃ e, d = e + 1 := ⟨d - 1, by omega⟩
    unfold opP
    by_cases hdg : isDg (cA t n p) = true
    · rw [if_pos hdg]; exact base 0 e m p acc h1 h2 h3 _ (Or.inl hdg) (by rw [if_pos hdg])
    · rw [if_neg hdg]
      by_cases hm : nmX (cA t n p) < 6
      · rw [if_pos hm]; exact base 0 e m p acc h1 h2 h3 _ (Or.inr hm) (by rw [if_neg hdg])
      · rw [if_neg hm]
        show resC t n o m (bX6_operand (dX6_level e) (dX6_operand e) (dX6_opened e) (nI 6) m) acc (.inl p)
        rw [operand_1 hn ht ho h1 h2, if_neg hdg, if_neg hm]
        unfold DX6_operand_76 DX6_operand_122
        rw [if_pos (by decide), h1.2.1]
        exact ⟨_, rfl, h1.fl ho, PL_15 (Or.inr rfl)⟩
  | succ ob ih =>
    intro h0 d hd m p acc h1 h2 h3
    obtain ⟨e, rfl⟩ : ∃ e, d = e + 2 := ⟨d - 2, by omega⟩
    unfold opP
    by_cases hdg : isDg (cA t n p) = true
    · rw [if_pos hdg]; exact base (ob + 1) (e + 1) m p acc h1 h2 h3 _ (Or.inl hdg) (by rw [if_pos hdg])
    · rw [if_neg hdg]
      by_cases hm : nmX (cA t n p) < 6
      · rw [if_pos hm]; exact base (ob + 1) (e + 1) m p acc h1 h2 h3 _ (Or.inr hm) (by rw [if_neg hdg])
      · rw [if_neg hm]
        show resC t n o m (bX6_operand (dX6_level (e + 1)) (dX6_operand (e + 1)) (dX6_opened (e + 1)) (nI (6 - (ob + 1))) m) acc _
        rw [operand_1 hn ht ho h1 h2, if_neg hdg, if_neg hm]
        have e6 : (nI (6 - (ob + 1))).toInt = (6 - (ob + 1) : Nat) := nI_toInt (by omega)
        have k : ∀ j, j < 256 → (ahC (cA t n p) = nI j) = (cA t n p = j) := fun j hj => ahC_eq (cA_le ht) hj
        have k40 := k 40 (by omega); have k33 := k 33 (by omega); have k45 := k 45 (by omega)
        unfold DX6_operand_76 DX6_operand_122 DX6_operand_100
        rw [if_neg (by rw [toI_le, e6]; simp; omega)]
        simp only [show (40 : Int32) = nI 40 from rfl, show (33 : Int32) = nI 33 from rfl, show (45 : Int32) = nI 45 from rfl, k40, k33, k45]
        rw [nI6 h0, h1.2.1, nI_1]
        have hop : ∀ v1 v2 m', dX6_opened (e + 1) v1 v2 m' = bX6_opened (dX6_level e) (dX6_operand e) (dX6_opened e) v1 v2 m' := fun _ _ _ => rfl
        have c1 := PL_15 (o := o) (m := m) (v := nI (p + 1)) (Or.inl rfl : (2 : Nat) = 2 ∨ (2 : Nat) = 3)
        by_cases h40 : cA t n p = 40
        · have hpn : p < n := cA_lt (t := t) (by omega)
          have eah : iC (ahC (cA t n p)) = 40 := by rw [h40]; decide
          rw [if_pos h40, if_pos h40, eah, hop]
          unfold bX6_opened
          rw [if_pos rfl]
          have hE := E_x ho hn ht (ih (by omega) (e - 6) (by omega)) (opP_F ob) (sI m 15 2 (nI (p + 1))) (p + 1) acc (h1.at ho (p + 1)) (by omega) (by omega)
          rw [show e - 6 + 6 = e by omega] at hE
          unfold resC at hE
          cases he : EP t n (opP t n ob) (p + 1) with
          | inl f =>
            have hf := (EP_F (t := t) (opP_F ob) (p + 1) (by omega)).1 f he
            rw [he] at hE
            obtain ⟨m2, x1, x2, x3⟩ := hE
            rw [x1, Option.bind_some]
            dsimp only
            rw [passes_f x2 (by omega), Option.bind_some]
            dsimp only
            have x4 := x2.at ho (gI m2 15 2)
            rw [if_pos rfl, x4.2.1, if_neg (nf (by omega))]
            exact ⟨_, rfl, x4, (c1.tr x3).tr (PL_15 (Or.inl rfl))⟩
          | inr q =>
            obtain ⟨a1, a2, a3, a4⟩ := (EP_F (t := t) (opP_F ob) (p + 1) (by omega)).2 q he
            rw [he] at hE
            obtain ⟨m2, x1, x2, x3⟩ := hE
            rw [x1, Option.bind_some]
            dsimp only
            rw [show (41 : Int32) = nI 41 from rfl, passes_x hn ht x2 a2 (by omega)]
            by_cases h41 : cA t n q.1 = 41
            · rw [if_pos h41, if_pos h41, Option.bind_some]
              dsimp only
              rw [if_neg (by decide)]
              exact ⟨_, rfl, x2.at ho (q.1 + 1), (c1.tr x3).tr (PL_15 (Or.inl rfl))⟩
            · rw [if_neg h41, if_neg h41, Option.bind_some]
              dsimp only
              have x4 := x2.at ho q.1
              rw [if_pos rfl, if_pos x4.2.2.1, x4.2.1]
              exact ⟨_, rfl, x4.fl ho, ((c1.tr x3).tr (PL_15 (Or.inl rfl))).tr (PL_15 (Or.inr rfl))⟩
        · rw [if_neg h40, if_neg h40]
          by_cases hu : cA t n p = 33 ∨ cA t n p = 45
          · have hpn : p < n := cA_lt (t := t) (by omega)
            have h256 : cA t n p < 256 := by omega
            have eah : iC (ahC (cA t n p)) = nI (cA t n p) := by
              have : ahC (cA t n p) = nI (cA t n p) := by unfold ahC; rw [if_neg (by omega)]
              rw [this]; exact (nm_all _ h256).2.1
            have hI := ih (by omega) e (by omega) (sI m 15 2 (nI (p + 1))) (p + 1) acc (h1.at ho (p + 1)) (by omega) (by omega)
            have e40 : ¬ (nI (cA t n p) = 40) := by rw [show (40 : Int32) = nI 40 from rfl, nI_eq (by omega) (by omega)]; exact h40
            have e45 : (nI (cA t n p) = nI 45) = (cA t n p = 45) := propext (nI_eq (by omega) (by omega))
            have hsame : (if cA t n p = 33 then (dX6_opened (e + 1) (iC (ahC (cA t n p))) (nI (6 - ob)) (sI m 15 2 (nI (p + 1)))).bind fun q116 => some ((), q116.2) else if cA t n p = 45 then (dX6_opened (e + 1) (iC (ahC (cA t n p))) (nI (6 - ob)) (sI m 15 2 (nI (p + 1)))).bind fun q116 => some ((), q116.2) else some ((), sI m 15 3 (nI p))) = (dX6_opened (e + 1) (nI (cA t n p)) (nI (6 - ob)) (sI m 15 2 (nI (p + 1)))).bind fun q116 => some ((), q116.2) := by
              rw [eah]
              rcases hu with h | h
              · rw [if_pos h]
              · rw [if_neg (by omega), if_pos h]
            rw [if_pos hu, hsame, hop]
            unfold bX6_opened DX6_opened_59
            rw [if_neg e40]
            unfold resC at hI
            cases he : opP t n ob (p + 1) with
            | inl f =>
              rw [he] at hI
              obtain ⟨m2, x1, x2, x3⟩ := hI
              rw [x1, Option.bind_some]
              dsimp only
              rw [x2.1.2.2, if_pos (pLa ho)]
              obtain ⟨m3, y1, y2, y3⟩ := add_f ho x2 (v1 := 126) (v2 := 0)
              obtain ⟨m4, z1, z2, z3⟩ := add_f ho x2 (v1 := nI (cA t n p)) (v2 := 0)
              rw [y1, z1]
              split
              · exact ⟨m3, rfl, y2, (c1.tr x3).tr y3⟩
              · exact ⟨m4, by rw [if_pos (pLa ho)]; rfl, z2, (c1.tr x3).tr z3⟩
            | inr q =>
              obtain ⟨a1, a2, a3, a4⟩ := (opP_F (t := t) ob (p + 1) (by omega)).2 q he
              rw [he] at hI
              obtain ⟨m2, x1, x2, x3⟩ := hI
              rw [x1, Option.bind_some]
              dsimp only
              rw [x2.1.2.2, if_pos (pLa ho)]
              have hlen : (acc ++ q.2).length < 128 := by simp only [List.length_append]; omega
              obtain ⟨m3, y1, y2, y3⟩ := add_s ho x2 hlen (c := 126) (by omega) (v := 0)
              obtain ⟨m4, z1, z2, z3⟩ := add_s ho x2 hlen (c := cA t n p) h256 (v := 0)
              rw [show (126 : Int32) = nI 126 from rfl, y1, z1]
              rw [List.append_assoc] at y2 z2
              by_cases h45 : cA t n p = 45
              · rw [show (45 : Int32) = nI 45 from rfl, if_pos (e45.mpr h45), if_pos h45]
                exact ⟨m3, rfl, y2, (c1.tr x3).tr y3⟩
              · have h33 : cA t n p = 33 := by omega
                rw [show (45 : Int32) = nI 45 from rfl, if_neg (fun q => h45 (e45.mp q)), if_neg h45]
                rw [h33] at z2
                exact ⟨m4, by rw [if_pos (pLa ho)]; rfl, z2, (c1.tr x3).tr z3⟩
          · rw [if_neg hu, if_neg (fun q => hu (Or.inl q)), if_neg (fun q => hu (Or.inr q))]
            exact ⟨_, rfl, h1.fl ho, PL_15 (Or.inr rfl)⟩
theorem E6_x (ho : isLa o) (hn : n ≤ 120) (ht : ∀ p, p < n → t p < 256) : SpC t n o (dX6_level 100 0 0) (EP t n (opP t n 6)) := E_x ho hn ht (d := 94) (operand_x ho hn ht 6 (by omega) 94 (by omega)) (opP_F 6)
end LAWX
