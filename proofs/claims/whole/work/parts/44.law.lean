/-! ===== THE LAW: law alike on both sides ===== -/
section LAWP
variable {t : Nat → Nat} {n : Nat}
def Jp (m : Mm) (n : Nat) (t : Nat → Nat) : Prop := n ≤ 120 ∧ gI m 15 4 = nI n ∧ gI m 58 11 = nI n ∧ ∀ p, p < n → t p < 256 ∧ gI m 16 p = nI (t p) ∧ gI m 65 p = nI (t p)
def Jr (m : Mm) : Prop := (gR m 1 4 = 50 ∧ gR m 15 1 = 54) ∨ (gR m 1 4 = 54 ∧ gR m 15 1 = 50)
def Pw (a k : Nat) : Bool := a == 15 || (decide (50 ≤ a) && decide (a ≤ 57)) || a == 66 || (a == 1 && k == 4) || (a == 58 && (k == 11 || k == 13 || (decide (14 ≤ k) && decide (k ≤ 18))))
theorem textP_ne : ∀ (k p : Nat) (ls : List LLn), textP t n k p = .inr ls → 0 < (flT ls).length := by
  intro k p ls h
  have key : ∀ (ln : LLn) (r : List LLn), 0 < (flT (ln :: r)).length := by
    intro ln r
    obtain ⟨c, e⟩ := ln
    cases c <;> simp [flT, flL1] <;> omega
  cases k with
  | zero => unfold textP at h; cases h
  | succ k =>
    unfold textP at h
    repeat' split at h
    all_goals first | (cases h; exact key _ _) | cases h
theorem copy_m (hn : n ≤ 120) : ∀ (N i : Nat) (m : Mm), i ≤ n → n < i + N → ∃ m2, DX10_law_37 N (nI n) (nI i) m = some (1, m2) ∧ gI m2 58 13 = nI n ∧ (∀ p, p < n → gI m2 66 p = if p < i then gI m 66 p else gI m 65 p) ∧ ch Pw m m2 ∧ (∀ a k, ¬ a = 66 → ¬ (a = 58 ∧ k = 13) → gI m2 a k = gI m a k ∧ gR m2 a k = gR m a k) := by
  intro N
  induction N with
  | zero => intro i m h1 h2; omega
  | succ N ih =>
    intro i m h1 h2
    have ei : (nI i).toInt = i := nI_toInt (by omega)
    have en : (nI n).toInt = n := nI_toInt (by omega)
    show ∃ m2, BX10_law_37 (DX10_law_37 N) (nI n) (nI i) m = some (1, m2) ∧ _
    unfold BX10_law_37
    by_cases h : i = n
    · subst h
      rw [if_pos (Int32.le_refl _)]
      refine ⟨_, rfl, by rw [gI_sI, if_pos ⟨rfl, rfl⟩], ?_, ch.sI rfl, ?_⟩
      · intro p hp
        rw [gI_sI, if_neg (by omega), if_pos hp]
      · intro a k _ ha
        exact ⟨by rw [gI_sI, if_neg ha], by rw [gR_sI]⟩
    · have hi : inB (nI i) 120 := inB_nI (by omega) (by omega)
      rw [if_neg (by rw [toI_le, ei, en]; omega), if_pos hi, if_pos hi]
      simp only [nI_clamp (show i < 2 ^ 31 by omega), nI_1]
      obtain ⟨m2, x1, x2, x3, x4, x5⟩ := ih (i + 1) (sI m 66 i (gI m 65 i)) (by omega) (by omega)
      refine ⟨m2, x1, x2, ?_, (ch.sI rfl).tr x4, ?_⟩
      · intro p hp
        rw [x3 p hp]
        simp only [gI_sI]
        by_cases hpi : p < i
        · rw [if_pos (by omega), if_neg (by omega), if_pos hpi]
        · rw [if_neg hpi]
          by_cases hq : p = i
          · subst hq; rw [if_pos (by omega), if_pos ⟨trivial, rfl⟩]
          · rw [if_neg (by omega), if_neg (by omega)]
      · intro a k h1 h2
        obtain ⟨y1, y2⟩ := x5 a k h1 h2
        exact ⟨by rw [y1, gI_sI, if_neg (fun q => h1 q.1)], by rw [y2, gR_sI]⟩
theorem law_x {m : Mm} {lv : Option LF} (J : Jp m n t) (R : Jr m) (L : LvC m lv) : match textP t n 122 0 with
    | .inl f => ∃ m2, dX9_law m = some ((-100) - nI f, m2) ∧ LvC m2 lv ∧ Jr m2 ∧ gI m2 15 4 = 0 ∧ ch Pw m m2 ∧ (∀ a k, 58 ≤ a → gI m2 a k = gI m a k)
    | .inr ls => ∃ m2, dX9_law m = some (1, m2) ∧ LvC m2 (some fun nm => evL nm ls) ∧ Jr m2 ∧ gI m2 15 4 = 0 ∧ ch Pw m m2 ∧ (∀ a k, 58 ≤ a → gI m2 a k = gI m a k) := by
  obtain ⟨hn, j1, j2, j3⟩ := J
  have ht : ∀ p, p < n → t p < 256 := fun p hp => (j3 p hp).1
  obtain ⟨o, ho⟩ : ∃ o, gR m 15 1 = o := ⟨_, rfl⟩
  have hla : isLa o := by rcases R with ⟨_, r⟩ | ⟨_, r⟩ <;> rw [r] at ho <;> subst ho
                          · exact Or.inr rfl
                          · exact Or.inl rfl
  have hne : ¬ gR m 1 4 = o ∧ isLa (gR m 1 4) := ⟨by rcases R with ⟨a, r⟩ | ⟨a, r⟩ <;> rw [a, ← ho, r] <;> decide, L.1⟩
  -- the start
  have c0 : ch (PRd o) m (sI (sI (sI m o 3 0) 15 2 0) 15 3 (-1)) := by
    have p1 : PRd o o 3 = true := by unfold PRd PL; simp
    exact ((ch.sI p1).tr (ch.sI (by unfold PRd PL; simp))).tr (ch.sI (by unfold PRd PL; simp))
  have no15 : ¬ (15 : Nat) = o ∧ ¬ (16 : Nat) = o := by rcases hla with rfl | rfl <;> exact ⟨by decide, by decide⟩
  have s0 : CSt t n o (sI (sI (sI m o 3 0) 15 2 0) 15 3 (-1)) 0 [] := by
    refine ⟨⟨?_, fun p hp => ?_, ?_⟩, ?_, ?_, by simp, ?_, fun i hi => by simp at hi⟩
    · rw [gI_sI, if_neg (by omega), gI_sI, if_neg (by omega), gI_sI, if_neg (by omega)]; exact j1
    · rw [gI_sI, if_neg (by omega), gI_sI, if_neg (by omega), gI_sI, if_neg (by omega)]; exact (j3 p hp).2.1
    · rw [gR_sI, gR_sI, gR_sI]; exact ho
    · rw [gI_sI, if_neg (by omega), gI_sI, if_pos ⟨rfl, rfl⟩]; rfl
    · rw [gI_sI, if_pos ⟨rfl, rfl⟩]
    · rw [gI_sI, if_neg (by omega), gI_sI, if_neg (by omega), gI_sI, if_pos ⟨rfl, rfl⟩]; rfl
  have hR := read_l hla hn ht 122 FU (sI (sI (sI m o 3 0) 15 2 0) 15 3 (-1)) 0 0 [] (by unfold FU; omega) (by omega) (by omega) s0 (by omega) (by simp)
  have hpre : dX6_read m = DX6_read_21 FU 1 (nI 0) (sI (sI (sI m o 3 0) 15 2 0) 15 3 (-1)) := by
    unfold dX6_read dX5_clear
    rw [ho, if_pos (pLa hla), if_pos (pLa hla)]
    rfl
  have upw : ∀ {a b : Mm}, ch (PRd o) a b → ch Pw a b := fun h => h.up (up_of fun a k q => by
    unfold PRd PL at q
    unfold Pw
    simp only [Bool.or_eq_true, Bool.and_eq_true, beq_iff_eq, decide_eq_true_eq] at q ⊢
    rcases hla with rfl | rfl <;> omega)
  have hi58 : ∀ {a b : Mm}, ch (PRd o) a b → ∀ x k, 58 ≤ x → gI b x k = gI a x k := fun h x k hx => h.I (by
    unfold PRd PL
    rw [Bool.eq_false_iff]
    intro q
    simp only [Bool.or_eq_true, Bool.and_eq_true, beq_iff_eq] at q
    rcases hla with rfl | rfl <;> omega)
  have r14 : PRd o 1 4 = false := by rcases hla with rfl | rfl <;> rfl
  have r151 : PRd o 15 1 = false := by rcases hla with rfl | rfl <;> rfl
  cases e : textP t n 122 0 with
  | inl f =>
    have hf := (textP_F (t := t) (n := n) 122 0 (by omega) (by omega)).1 f e
    rw [e] at hR
    obtain ⟨m2, x1, x2, x3⟩ := hR
    have c2 := c0.tr x2
    refine ⟨m2, ?_, L.ag ⟨c2.R r14, fun k => ?_⟩, ?_, x3, upw c2, hi58 c2⟩
    · unfold dX9_law
      rw [hpre, x1, Option.bind_some]
      dsimp only
      rw [if_neg (by rw [toI_lt, nI_toInt (by omega)]; simp)]
    · refine ⟨c2.I ?_, c2.I ?_, c2.I ?_⟩ <;>
      · unfold PRd PL
        rw [Bool.eq_false_iff]
        intro q
        simp only [Bool.or_eq_true, Bool.and_eq_true, beq_iff_eq] at q
        rcases R with ⟨a, r⟩ | ⟨a, r⟩ <;> rw [a] at q <;> rw [r] at ho <;> omega
    · unfold Jr
      rw [c2.R r14, c2.R r151]
      exact R
  | inr ls =>
    obtain ⟨hg, _⟩ := (textP_F (t := t) (n := n) 122 0 (by omega) (by omega)).2 ls e
    rw [e] at hR
    obtain ⟨m2, x1, x2, x3, x4⟩ := hR
    rw [List.nil_append] at x4
    have c2 := c0.tr x2
    have hlen := textP_ne 122 0 ls e
    have e14 : gR m2 1 4 = gR m 1 4 := c2.R r14
    have e151 : gR m2 15 1 = o := (c2.R r151).trans ho
    have g14 : gR (sR (sR m2 15 1 (gR m 1 4)) 1 4 o) 1 4 = o := by rw [gR_sR, if_pos ⟨rfl, rfl⟩]
    refine ⟨sR (sR m2 15 1 (gR m 1 4)) 1 4 o, ?_, ?_, ?_, x3, (upw c2).tr ((ch.sR rfl).tr (ch.sR rfl)), fun a k ha => hi58 c2 a k ha⟩
    · unfold dX9_law dX6_swap
      rw [hpre, x1, Option.bind_some]
      dsimp only
      rw [if_pos (by decide), Option.bind_some, e14, e151]
    · unfold LvC
      rw [g14]
      refine ⟨hla, evL_x hg, ?_, fun m' ha => ?_⟩
      · have : gI (sR (sR m2 15 1 (gR m 1 4)) 1 4 o) o 3 = nI (flT ls).length := x4.2.1
        rw [this, nI_toInt (by have := x4.1; omega)]
        omega
      · have hs : stepsAt o m' (flT ls) := by
          have h2 := ha.2
          rw [g14] at h2
          exact ⟨x4.1, (h2 3).1.trans x4.2.1, fun i hi => ⟨(h2 i).2.1.trans (x4.2.2 i hi).1, (h2 i).2.2.trans (x4.2.2 i hi).2⟩⟩
        exact value_x hla hs hg
    · unfold Jr
      rw [g14, gR_sR, if_neg (by omega), gR_sR, if_pos ⟨rfl, rfl⟩]
      rcases R with ⟨a, r⟩ | ⟨a, r⟩ <;> rw [a, ← ho, r]
      · exact Or.inr ⟨rfl, rfl⟩
      · exact Or.inl ⟨rfl, rfl⟩
theorem law_m {m : Mm} {lv : Option LF} (hn : n ≤ 120) (j2 : gI m 58 11 = nI n) (j3 : ∀ p, p < n → t p < 256 ∧ gI m 65 p = nI (t p)) (L : LvR m lv) : match textP t n 122 0 with
    | .inl f => ∃ m2, dX10_law m = some ((-100) - nI f, m2) ∧ LvR m2 lv ∧ gI m2 58 11 = 0 ∧ ch Pw m m2 ∧ (∀ a k, a < 58 → gI m2 a k = gI m a k ∧ gR m2 a k = gR m a k)
    | .inr ls => ∃ m2, dX10_law m = some (1, m2) ∧ LvR m2 (some fun nm => evL nm ls) ∧ gI m2 58 11 = 0 ∧ ch Pw m m2 ∧ (∀ a k, a < 58 → gI m2 a k = gI m a k ∧ gR m2 a k = gR m a k) := by
  have ht : ∀ p, p < n → t p < 256 := fun p hp => (j3 p hp).1
  have hW := workOut_m hn ht (m := m) (base := -1) (Or.inl ⟨rfl, fun p hp => (j3 p hp).2⟩)
  have upw : ∀ {a b : Mm}, ch PVr a b → ch Pw a b := fun h => h.up (up_of fun a k q => by
    unfold PVr at q
    unfold Pw
    simp only [Bool.or_eq_true, Bool.and_eq_true, beq_iff_eq, decide_eq_true_eq] at q ⊢
    omega)
  have lo : ∀ {a b : Mm}, ch PVr a b → ∀ x k, x < 58 → gI b x k = gI a x k ∧ gR b x k = gR a x k := fun h x k hx => by
    have hp : PVr x k = false := by
      unfold PVr
      rw [Bool.eq_false_iff]
      intro q
      simp only [Bool.and_eq_true, beq_iff_eq] at q
      omega
    exact ⟨h.I hp, h.R hp⟩
  cases e : textP t n 122 0 with
  | inl f =>
    have hf := (textP_F (t := t) (n := n) 122 0 (by omega) (by omega)).1 f e
    rw [e] at hW
    obtain ⟨v, m2, x1, x2, x3⟩ := hW
    refine ⟨sI m2 58 11 0, ?_, L.ag ⟨?_, fun k => ?_⟩, by rw [gI_sI, if_pos ⟨rfl, rfl⟩], (upw x3).tr (ch.sI rfl), fun a k ha => ?_⟩
    · unfold dX10_law
      rw [j2, x1, Option.bind_some]
      have e17 : gI (sI m2 58 11 0) 58 17 = nI f := by rw [gI_sI, if_neg (by omega)]; exact x2
      dsimp only
      rw [e17, if_neg (by rw [toI_lt, nI_toInt (by omega)]; simp)]
    · rw [gI_sI, if_neg (by omega)]; exact x3.I rfl
    · rw [gI_sI, if_neg (by omega)]; exact x3.I rfl
    · rw [gI_sI, if_neg (by omega), gR_sI]; exact lo x3 a k ha
  | inr ls =>
    obtain ⟨hg, _⟩ := (textP_F (t := t) (n := n) 122 0 (by omega) (by omega)).2 ls e
    rw [e] at hW
    obtain ⟨m2, x1, x2, x3⟩ := hW
    obtain ⟨m3, y1, y2, y3, y4, y5⟩ := copy_m (n := n) hn FU 0 (sI m2 58 11 0) (by omega) (by unfold FU; omega)
    have b66 : ∀ p, p < n → gI m3 66 p = nI (t p) := fun p hp => by
      rw [y3 p hp, if_neg (by omega), gI_sI, if_neg (by omega), x3.I rfl]
      exact (j3 p hp).2
    refine ⟨m3, ?_, ?_, ?_, ((upw x3).tr (ch.sI rfl)).tr y4, fun a k ha => ?_⟩
    · unfold dX10_law
      rw [j2, x1, Option.bind_some]
      have e17 : gI (sI m2 58 11 0) 58 17 = -1 := by rw [gI_sI, if_neg (by omega)]; exact x2
      have e11 : gI m2 58 11 = nI n := (x3.I rfl).trans j2
      dsimp only
      rw [e17, if_pos (by decide), e11]
      exact y1
    · unfold LvR
      refine ⟨evL_x hg, by rw [y2, nI_toInt (by omega)]; omega, fun m' ha => ?_⟩
      have := workOut_m hn ht (m := m') (base := 0) (Or.inr ⟨rfl, fun p hp => (ha.2 p).trans (b66 p hp)⟩)
      rw [e] at this
      obtain ⟨m4, z1, _, z3⟩ := this
      rw [y2]
      exact ⟨m4, z1, z3⟩
    · rw [(y5 58 11 (by omega) (by omega)).1, gI_sI, if_pos ⟨rfl, rfl⟩]
    · obtain ⟨z1, z2⟩ := y5 a k (by omega) (by omega)
      rw [z1, z2, gI_sI, if_neg (by omega), gR_sI]
      exact lo x3 a k ha
theorem law_pair {m : Mm} {lv : Option LF} (J : Jp m n t) (R : Jr m) (L : LvC m lv) (M : LvR m lv) : ∃ r m1 m2 lv', dX9_law m = some (r, m1) ∧ dX10_law m1 = some (r, m2) ∧ LvC m2 lv' ∧ LvR m2 lv' ∧ Jr m2 ∧ gI m2 15 4 = 0 ∧ gI m2 58 11 = 0 ∧ ch Pw m m2 := by
  have h1 := law_x J R L
  have goM : ∀ {m1 : Mm}, ch Pw m m1 → (∀ a k, 58 ≤ a → gI m1 a k = gI m a k) → LvR m1 lv ∧ gI m1 58 11 = nI n ∧ (∀ p, p < n → t p < 256 ∧ gI m1 65 p = nI (t p)) := fun c h => ⟨M.ag ⟨h 58 13 (by omega), fun k => h 66 k (by omega)⟩, (h 58 11 (by omega)).trans J.2.2.1, fun p hp => ⟨(J.2.2.2 p hp).1, (h 65 p (by omega)).trans (J.2.2.2 p hp).2.2⟩⟩
  have goC : ∀ {m1 m2 : Mm} {l : Option LF}, LvC m1 l → Jr m1 → gI m1 15 4 = 0 → (∀ a k, a < 58 → gI m2 a k = gI m1 a k ∧ gR m2 a k = gR m1 a k) → LvC m2 l ∧ Jr m2 ∧ gI m2 15 4 = 0 := fun {m1 m2 l} a b c h => by
    have e1 := (h 1 4 (by omega)).2
    refine ⟨a.ag ⟨e1, fun k => ?_⟩, ?_, (h 15 4 (by omega)).1.trans c⟩
    · have hl := a.1
      unfold isLa at hl
      exact ⟨(h _ k (by omega)).1, (h _ k (by omega)).1, (h _ k (by omega)).1⟩
    · unfold Jr
      rw [e1, (h 15 1 (by omega)).2]
      exact b
  cases e : textP t n 122 0 with
  | inl f =>
    rw [e] at h1
    obtain ⟨m1, x1, x2, x3, x4, x5, x6⟩ := h1
    obtain ⟨g1, g2, g3⟩ := goM x5 x6
    have h2 := law_m J.1 g2 g3 g1
    rw [e] at h2
    obtain ⟨m2, y1, y2, y3, y4, y5⟩ := h2
    obtain ⟨z1, z2, z3⟩ := goC x2 x3 x4 y5
    exact ⟨_, m1, m2, lv, x1, y1, z1, y2, z2, z3, y3, x5.tr y4⟩
  | inr ls =>
    rw [e] at h1
    obtain ⟨m1, x1, x2, x3, x4, x5, x6⟩ := h1
    obtain ⟨g1, g2, g3⟩ := goM x5 x6
    have h2 := law_m J.1 g2 g3 g1
    rw [e] at h2
    obtain ⟨m2, y1, y2, y3, y4, y5⟩ := h2
    obtain ⟨z1, z2, z3⟩ := goC x2 x3 x4 y5
    exact ⟨_, m1, m2, _, x1, y1, z1, y2, z2, z3, y3, x5.tr y4⟩
end LAWP
