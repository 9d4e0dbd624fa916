/-! ===== sacks from a row: alike on both sides ===== -/
section SACKS
variable {m : Mm} {s b kn n d ln : Nat} {t : Nat → Nat} {lv : Option LF} {v1 v2 v3 v4 : Int32}
/-- the bytes at place i + 2 c, and the next -/
abbrev sOk (B : Int → Int32) (v2 : Int) (c : Nat) : Prop := (0 ≤ (B (v2 + 2 * c)).toInt ∧ (B (v2 + 2 * c)).toInt ≤ 5) ∧ 0 ≤ (B (v2 + 2 * c + 1)).toInt ∧ (B (v2 + 2 * c + 1)).toInt ≤ 99
/-- how many come -/
def sCn (B : Int → Int32) (s : Nat) (v2 : Int) : Nat → Nat → Nat
  | 0, c => c
  | f + 1, c => if sOk B v2 c ∧ s + c < 10 then sCn B s v2 f (c + 1) else c
def sMx (B : Int → Int32) (s : Nat) (v2 : Int) (m : Mm) : Nat → Mm
  | 0 => m
  | c + 1 => cAdd (sMx B s v2 m c) (s + c) (B (v2 + 2 * c)) (B (v2 + 2 * c + 1))
def sMr (B : Int → Int32) (s : Nat) (v2 : Int) (m : Mm) : Nat → Mm
  | 0 => m
  | c + 1 => rAdd (sMr B s v2 m c) (s + c) (B (v2 + 2 * c)) (B (v2 + 2 * c + 1))
def Psc (a k : Nat) : Bool := a == 7 || a == 8 || a == 12 || a == 13 || (a == 1 && k == 2)
def Psr (a k : Nat) : Bool := a == 59 || a == 63 || (a == 58 && k == 6)
theorem cAdd_c {c : Int32} : ch Psc m (cAdd m s v1 c) := ((((ch.sI rfl).tr (ch.sI rfl)).tr (ch.sI rfl)).tr (ch.sI rfl)).tr (ch.sI rfl)
theorem rAdd_c {c : Int32} : ch Psr m (rAdd m s v1 c) := (((ch.sI rfl).tr (ch.sI rfl)).tr (ch.sI rfl)).tr (ch.sI rfl)
theorem sMx_c {B : Int → Int32} {q : Int} : ∀ c, ch Psc m (sMx B s q m c)
  | 0 => ch.rf
  | c + 1 => (sMx_c c).tr cAdd_c
theorem sMr_c {B : Int → Int32} {q : Int} : ∀ c, ch Psr m (sMr B s q m c)
  | 0 => ch.rf
  | c + 1 => (sMr_c c).tr rAdd_c
theorem sMx_12 {B : Int → Int32} {q : Int} (h : gI m 1 2 = nI s) : ∀ c, gI (sMx B s q m c) 1 2 = nI (s + c)
  | 0 => h
  | c + 1 => by
    show gI (cAdd _ _ _ _) 1 2 = _
    unfold cAdd
    rw [gI_sI, if_neg (by omega), gI_sI, if_neg (by omega), gI_sI, if_neg (by omega), gI_sI, if_neg (by omega), gI_sI, if_pos ⟨rfl, rfl⟩]; rfl
theorem sMr_6 {B : Int → Int32} {q : Int} (h : gI m 58 6 = nI s) : ∀ c, gI (sMr B s q m c) 58 6 = nI (s + c)
  | 0 => h
  | c + 1 => by
    show gI (rAdd _ _ _ _) 58 6 = _
    unfold rAdd
    rw [gI_sI, if_pos ⟨rfl, rfl⟩]; rfl
theorem mm_ext {m m' : Mm} (h1 : ∀ a b, gI m a b = gI m' a b) (h2 : ∀ a b, gL m a b = gL m' a b) (h3 : ∀ a b, gR m a b = gR m' a b) : m = m' :=
  Prod.ext (funext fun a => funext fun b => h1 a b) (Prod.ext (funext fun a => funext fun b => h2 a b) (funext fun a => funext fun b => h3 a b))
theorem comm_cr {s' : Nat} {v c v' c' : Int32} : rAdd (cAdd m s' v' c') s v c = cAdd (rAdd m s v c) s' v' c' := by
  refine mm_ext (fun a b => ?_) (fun _ _ => rfl) (fun _ _ => rfl)
  by_cases h : a = 58 ∨ a = 59 ∨ a = 63
  · have e1 : ∀ M : Mm, gI (cAdd M s' v' c') a b = gI M a b := fun M => by
      unfold cAdd
      rw [gI_sI, if_neg (by omega), gI_sI, if_neg (by omega), gI_sI, if_neg (by omega), gI_sI, if_neg (by omega), gI_sI, if_neg (by omega)]
    rw [e1]
    unfold rAdd
    simp only [gI_sI, e1]
  · have e1 : ∀ M : Mm, gI (rAdd M s v c) a b = gI M a b := fun M => by
      unfold rAdd
      rw [gI_sI, if_neg (by omega), gI_sI, if_neg (by omega), gI_sI, if_neg (by omega), gI_sI, if_neg (by omega)]
    rw [e1]
    unfold cAdd
    simp only [gI_sI, e1]
theorem comm_sr {B : Int → Int32} {q : Int} {s' : Nat} {v c : Int32} : ∀ k, sMr B s q (cAdd m s' v c) k = cAdd (sMr B s q m k) s' v c
  | 0 => rfl
  | k + 1 => by
    show rAdd _ _ _ _ = cAdd (rAdd _ _ _ _) _ _ _
    rw [comm_sr k, comm_cr]
theorem sJt {B : Int → Int32} {q : Int} (J : Jt m s b) : ∀ c, s + c ≤ 10 → (∀ k, k < c → sOk B q k) → Jt (sMr B s q (sMx B s q m c) c) (s + c) b := by
  intro c
  induction c with
  | zero => intro _ _; exact J
  | succ c ih =>
    intro h1 h2
    show Jt (rAdd (sMr B s q (cAdd (sMx B s q m c) (s + c) _ _) c) (s + c) _ _) (s + c + 1) b
    rw [comm_sr]
    exact Jt_add (by omega) (ih (by omega) (fun k hk => h2 k (by omega))) (h2 c (by omega)).1 (h2 c (by omega)).2
theorem sCn_le {B : Int → Int32} {q : Int} : ∀ f c, s + c ≤ 10 → c ≤ sCn B s q f c ∧ sCn B s q f c ≤ c + f ∧ s + sCn B s q f c ≤ 10 ∧ ∀ k, c ≤ k → k < sCn B s q f c → sOk B q k := by
  intro f
  induction f with
  | zero => intro c h; exact ⟨Nat.le_refl _, Nat.le_refl _, h, fun k h1 h2 => absurd h2 (by unfold sCn; omega)⟩
  | succ f ih =>
    intro c h
    unfold sCn
    by_cases q1 : sOk B q c ∧ s + c < 10
    · rw [if_pos q1]
      obtain ⟨a1, a2, a3, a4⟩ := ih (c + 1) (by omega)
      refine ⟨by omega, by omega, a3, fun k h1 h2 => ?_⟩
      by_cases e : k = c
      · subst e; exact q1.1
      · exact a4 k (by omega) h2
    · rw [if_neg q1]
      exact ⟨Nat.le_refl _, by omega, h, fun k h1 h2 => absurd h2 (by omega)⟩
theorem byV_c {P : Nat → Nat → Bool} {m' : Mm} (h : ch P m m') (hp : ∀ k, P (44 + d) k = false) : byV m' d ln = byV m d ln := by
  funext i
  unfold byV
  rw [h.L (hp _)]
theorem BR_c {P : Nat → Nat → Bool} {m' : Mm} (B : BR m d ln) (hd : d < 6) (h : ch P m m') (hp : off FH P) : BR m' d ln := by
  have a1 : ∀ k, P (38 + d) k = false := fun k => hp _ _ (by unfold FH; simp; omega)
  have a2 : ∀ k, P (44 + d) k = false := fun k => hp _ _ (by unfold FH; simp; omega)
  obtain ⟨j1, j2, j3, j4, j5, j6, j7, j8⟩ := B
  refine ⟨by rw [h.I (a1 _)]; exact j1, by rw [h.I (a1 _)]; exact j2, by rw [h.I (a1 _)]; exact j3, j4, by rw [h.I (o := 79) (hp _ _ rfl)]; exact j5, by rw [h.I (o := 80) (hp _ _ rfl)]; exact j6, fun i hi => ?_, fun i hi => ?_⟩
  · rw [h.L (o := 81) (hp _ _ rfl), h.L (a2 _)]; exact j7 i hi
  · rw [h.L (a2 _)]; exact j8 i hi
theorem oPsc : off FH Psc := fun o k h => by unfold FH at h; unfold Psc; simp at h ⊢; omega
theorem oPsr : off FH Psr := fun o k h => by unfold FH at h; unfold Psr; simp at h ⊢; omega
/-- a place told by wrapping words that is not below 0 -/
theorem byV_wrap {c : Nat} (hc : c ≤ 10) (hl : ln ≤ 60) : byV m d ln (v2 + 2 * nI c).toInt = byV m d ln (v2.toInt + 2 * c) ∧ byV m d ln (v2 + 2 * nI c + 1).toInt = byV m d ln (v2.toInt + 2 * c + 1) := by
  have e2 : (2 * nI c : Int32) = nI (2 * c) := by
    have : c = 0 ∨ c = 1 ∨ c = 2 ∨ c = 3 ∨ c = 4 ∨ c = 5 ∨ c = 6 ∨ c = 7 ∨ c = 8 ∨ c = 9 ∨ c = 10 := by omega
    rcases this with rfl | rfl | rfl | rfl | rfl | rfl | rfl | rfl | rfl | rfl | rfl <;> decide
  have e3 : v2 + 2 * nI c + 1 = v2 + nI (2 * c + 1) := by rw [e2, Int32.add_assoc, nI_1]
  have h1 := v2.toInt_lt
  have h2 := v2.le_toInt
  have key : ∀ k : Nat, k ≤ 21 → byV m d ln (v2 + nI k).toInt = byV m d ln (v2.toInt + k) := by
    intro k hk
    have ek : (nI k).toInt = k := nI_toInt (by omega)
    by_cases hov : v2.toInt + k < 2147483648
    · rw [iAdd (by omega) (by omega), ek]
    · unfold byV
      rw [if_neg (show ¬ (0 ≤ v2.toInt + (k : Int) ∧ v2.toInt + (k : Int) < ln) by omega), if_neg]
      have e : v2.toInt + (k : Int) = (v2.toInt + (k : Int) - 4294967296) + ((2 ^ 32 : Nat) : Int) := by omega
      rw [Int32.toInt_add, ek, e, Int.add_bmod_right, Int.bmod_eq_of_le (by omega) (by omega)]
      omega
  rw [e3, e2]
  exact ⟨(key (2 * c) (by omega)).trans (by rw [Int.natCast_mul]; rfl), (key (2 * c + 1) (by omega)).trans (by rw [Int.natCast_add, Int.natCast_mul, ← Int.add_assoc]; rfl)⟩
theorem sacks_lx (hd : d < 6) (B : BR m d ln) (h12 : gI m 1 2 = nI s) {v3n : Nat} (hv : v3n ≤ 10) : ∀ N c, c ≤ v3n → v3n < c + N → s + c ≤ 10 → DX9_sacks_51 N (nI d) v2 (nI v3n) (nI c) (sMx (byV m d ln) s v2.toInt m c) = some (nI (sCn (byV m d ln) s v2.toInt (v3n - c) c), sMx (byV m d ln) s v2.toInt m (sCn (byV m d ln) s v2.toInt (v3n - c) c)) := by
  have hl := B.2.2.2.1
  intro N
  induction N with
  | zero => intro c h1 h2; omega
  | succ N ih =>
    intro c h1 h2 h3
    show BX9_sacks_51 (DX9_sacks_51 N) _ _ _ _ _ = _
    unfold BX9_sacks_51 DX9_sacks_82
    by_cases h : c = v3n
    · subst h
      rw [if_pos (Int32.le_refl _), Nat.sub_self]; rfl
    · have ch1 := sMx_c (m := m) (s := s) (B := byV m d ln) (q := v2.toInt) c
      have B1 := BR_c B hd ch1 oPsc
      have eB := byV_c (ln := ln) (d := d) ch1 (fun k => oPsc _ _ (by unfold FH; simp; omega))
      obtain ⟨w1, w2⟩ := byV_wrap (m := m) (d := d) (ln := ln) (v2 := v2) (c := c) (by omega) hl
      have hw4 : ∀ (x : Int32) (M : Mm), dX9_within 4 x M = some (b01 (0 ≤ x.toInt ∧ x.toInt ≤ 5), M) := fun x M => within_x (w := 4) (by omega)
      have hw5 : ∀ (x : Int32) (M : Mm), dX9_within 5 x M = some (b01 (0 ≤ x.toInt ∧ x.toInt ≤ 99), M) := fun x M => within_x (w := 5) (by omega)
      have es : v3n - c = (v3n - (c + 1)) + 1 := by omega
      rw [if_neg (nI_ge (by omega) (by omega)), if_pos (inB_nI hd (by omega)), nI_clamp (by omega), nI_1, es]
      unfold sCn dX9_cameFrom DX9_cameFrom_49
      rw [if_pos (pSh (shO hd)), byteAt_x hd B1, Option.bind_some]
      simp only [byteAt_x hd B1, Option.bind_some, hw4, hw5, b01_0, eB, w1, w2]
      by_cases q1 : 0 ≤ (byV m d ln (v2.toInt + 2 * c)).toInt ∧ (byV m d ln (v2.toInt + 2 * c)).toInt ≤ 5
      · by_cases q2 : 0 ≤ (byV m d ln (v2.toInt + 2 * c + 1)).toInt ∧ (byV m d ln (v2.toInt + 2 * c + 1)).toInt ≤ 99
        · simp only [if_neg (show ¬ ¬ (0 ≤ (byV m d ln (v2.toInt + 2 * c)).toInt ∧ (byV m d ln (v2.toInt + 2 * c)).toInt ≤ 5) from fun q => q q1), if_neg (show ¬ ¬ (0 ≤ (byV m d ln (v2.toInt + 2 * c + 1)).toInt ∧ (byV m d ln (v2.toInt + 2 * c + 1)).toInt ≤ 99) from fun q => q q2)]
          by_cases q3 : s + c < 10
          · rw [addSack_x q3 (sMx_12 h12 c), Option.bind_some, if_neg (nI_pos (by omega)), Option.bind_some, if_neg (show ¬ (1 : Int32) = 0 by decide), if_pos ⟨⟨q1, q2⟩, q3⟩]
            exact ih (c + 1) (by omega) (by omega) (by omega)
          · rw [addSack_full (by omega) (sMx_12 h12 c), Option.bind_some, if_pos (show (-3 : Int32) < 0 by decide), Option.bind_some, if_pos rfl, if_neg (fun q => q3 q.2)]
        · simp only [if_neg (show ¬ ¬ (0 ≤ (byV m d ln (v2.toInt + 2 * c)).toInt ∧ (byV m d ln (v2.toInt + 2 * c)).toInt ≤ 5) from fun q => q q1), if_pos q2]
          rw [Option.bind_some, if_pos rfl, if_neg (fun q => q2 q.1.2)]
      · simp only [if_pos q1]
        rw [Option.bind_some, if_pos rfl, if_neg (fun q => q1 q.1.1)]
theorem sacks_st {N : Nat} (hN : 0 < N) {v5 : Int32} (h5 : v5 = 0) : DX10_sacks_69 N v1 v2 v3 v4 v5 m = some (v4, m) := by
  obtain ⟨N, rfl⟩ : ∃ q, N = q + 1 := ⟨N - 1, by omega⟩
  show BX10_sacks_69 (DX10_sacks_69 N) _ _ _ _ _ _ = _
  unfold BX10_sacks_69 DX10_sacks_203
  rw [if_pos h5]
theorem sacks_lm (hd : d < 6) (B : BR m d ln) (h6 : gI m 58 6 = nI s) {v3n i : Nat} (hv : v3n ≤ 10) (hi : i < 2147483648) : ∀ N c, c ≤ v3n → v3n + 1 < c + N → s + c ≤ 10 → DX10_sacks_69 N (nI d) (nI i) (nI v3n) (nI c) 1 (sMr (byV m d ln) s (i : Int) m c) = some (nI (sCn (byV m d ln) s (i : Int) (v3n - c) c), sMr (byV m d ln) s (i : Int) m (sCn (byV m d ln) s (i : Int) (v3n - c) c)) := by
  have hl := B.2.2.2.1
  have c0 : (0 : Int64).toInt = 0 := rfl
  have c99 : (99 : Int64).toInt = 99 := rfl
  intro N
  induction N with
  | zero => intro c h1 h2; omega
  | succ N ih =>
    intro c h1 h2 h3
    show BX10_sacks_69 (DX10_sacks_69 N) _ _ _ _ _ _ = _
    unfold BX10_sacks_69 DX10_sacks_110
    rw [if_neg (show ¬ (1 : Int32) = 0 by decide)]
    by_cases h : c = v3n
    · subst h
      rw [if_pos (Int32.le_refl _), Nat.sub_self]; rfl
    · have ch1 := sMr_c (m := m) (s := s) (B := byV m d ln) (q := (i : Int)) c
      have e80 : gI (sMr (byV m d ln) s (i : Int) m c) 80 d = nI ln := by rw [ch1.I rfl]; exact B.2.2.2.2.2.1
      have e6 := sMr_6 (B := byV m d ln) (q := (i : Int)) h6 c
      have e81 : ∀ p, gL (sMr (byV m d ln) s (i : Int) m c) 81 p = gL m 81 p := fun p => ch1.L rfl
      have ech : ∀ x M, dX10_isGood x M = some (b01 (0 ≤ x.toInt ∧ x.toInt ≤ 5), M) := fun x M => isGood_m
      have es : v3n - c = (v3n - (c + 1)) + 1 := by omega
      have e2 : (2 * nI c : Int32) = nI (2 * c) := by
        have : c = 0 ∨ c = 1 ∨ c = 2 ∨ c = 3 ∨ c = 4 ∨ c = 5 ∨ c = 6 ∨ c = 7 ∨ c = 8 ∨ c = 9 ∨ c = 10 := by omega
        rcases this with rfl | rfl | rfl | rfl | rfl | rfl | rfl | rfl | rfl | rfl | rfl <;> decide
      have t1 : (nI ln - 2 - nI (2 * c)).toInt = (ln : Int) - 2 - 2 * c := by
        have z2 : (2 : Int32).toInt = 2 := rfl
        have a1 : (nI ln).toInt = ln := nI_toInt (by omega)
        have a2 : (nI (2 * c)).toInt = (2 * c : Nat) := nI_toInt (by omega)
        have a3 : (nI ln - 2).toInt = (ln : Int) - 2 := by rw [iSub (by rw [a1, z2]; omega) (by rw [a1, z2]; omega), a1, z2]
        rw [iSub (by rw [a3, a2]; omega) (by rw [a3, a2]; omega), a3, a2]; omega
      have ei : (nI i).toInt = i := nI_toInt (by omega)
      have e60 : (60 * nI d + nI i + nI (2 * c) : Int32) = nI (60 * d + i + 2 * c) := by rw [m60 hd, nI_add, nI_add]
      rw [if_neg (nI_ge (by omega) (by omega)), if_pos (inB_nI hd (by omega)), nI_clamp (by omega), e80, e6, e2, es]
      generalize hM : sMr (byV m d ln) s (i : Int) m c = M at e80 e6 e81
      have stop0 : ∀ v6 : Int32, DX10_sacks_111 (DX10_sacks_69 N) (nI d) (nI i) (nI v3n) (nI c) 0 M = some (nI c, M) := fun _ => by
        unfold DX10_sacks_111 DX10_sacks_167 DX10_sacks_168 DX10_sacks_200
        rw [if_pos rfl, if_pos rfl]
        exact sacks_st (by omega) rfl
      have stop1 : ∀ v6 : Int32, DX10_sacks_167 (DX10_sacks_69 N) (nI d) (nI i) (nI v3n) (nI c) v6 M = some (nI c, M) := fun v6 => by
        unfold DX10_sacks_167 DX10_sacks_168 DX10_sacks_200
        rw [if_pos rfl]
        exact sacks_st (by omega) rfl
      have cs : ∀ q : Prop, [Decidable q] → ¬ q → (if q then sCn (byV m d ln) s (i : Int) (v3n - (c + 1)) (c + 1) else c) = c := fun q _ hq => if_neg hq
      unfold sCn
      by_cases hp : i + 2 * c + 1 < ln
      · have b1 : (byV m d ln ((i : Int) + 2 * c)).toInt = (gL m 81 (60 * d + i + 2 * c)).toInt := by
          have := byV_toInt B (show i + 2 * c < ln by omega)
          rw [show ((i + 2 * c : Nat) : Int) = (i : Int) + 2 * c by omega] at this
          rw [this, show 60 * d + i + 2 * c = 60 * d + (i + 2 * c) by omega, B.2.2.2.2.2.2.1 _ (by omega)]
        have b2 : (byV m d ln ((i : Int) + 2 * c + 1)).toInt = (gL m 81 (60 * d + i + 2 * c + 1)).toInt := by
          have := byV_toInt B (show i + 2 * c + 1 < ln by omega)
          rw [show ((i + 2 * c + 1 : Nat) : Int) = (i : Int) + 2 * c + 1 by omega] at this
          rw [this, show 60 * d + i + 2 * c + 1 = 60 * d + (i + 2 * c + 1) by omega, B.2.2.2.2.2.2.1 _ (by omega)]
        have f1 : (gL m 81 (60 * d + i + 2 * c)).toInt32 = byV m d ln ((i : Int) + 2 * c) := by
          unfold byV
          rw [if_pos (by omega), show 60 * d + i + 2 * c = 60 * d + (i + 2 * c) by omega, B.2.2.2.2.2.2.1 _ (by omega), show ((i : Int) + 2 * c).toNat = i + 2 * c by omega]
        have f2 : (gL m 81 (60 * d + i + 2 * c + 1)).toInt32 = byV m d ln ((i : Int) + 2 * c + 1) := by
          unfold byV
          rw [if_pos (by omega), show 60 * d + i + 2 * c + 1 = 60 * d + (i + 2 * c + 1) by omega, B.2.2.2.2.2.2.1 _ (by omega), show ((i : Int) + 2 * c + 1).toNat = i + 2 * c + 1 by omega]
        rw [if_neg (by rw [toI_lt, t1, ei]; omega)]
        by_cases q3 : s + c < 10
        · have i1 : inB (nI (60 * d + i + 2 * c)) 360 := inB_nI (by omega) (by omega)
          have i2 : inB (nI (60 * d + i + 2 * c + 1)) 360 := inB_nI (by omega) (by omega)
          rw [if_neg (show ¬ (10 : Int32) ≤ nI (s + c) from nI_ge (b := 10) (by omega) (by omega))]
          unfold DX10_sacks_111
          simp only [if_neg (show ¬ (1 : Int32) = 0 by decide), e2, e60, nI_1, if_pos i1, if_pos i2, nI_clamp (show 60 * d + i + 2 * c < 2 ^ 31 by omega), nI_clamp (show 60 * d + i + 2 * c + 1 < 2 ^ 31 by omega), e81, ech, within_m, Option.bind_some, b01_0, c0, c99, stop1]
          by_cases q1 : 0 ≤ (gL m 81 (60 * d + i + 2 * c)).toInt ∧ (gL m 81 (60 * d + i + 2 * c)).toInt ≤ 5
          · by_cases q2 : 0 ≤ (gL m 81 (60 * d + i + 2 * c + 1)).toInt ∧ (gL m 81 (60 * d + i + 2 * c + 1)).toInt ≤ 99
            · rw [if_neg (fun q => q q1), if_neg (fun q => q q2)]
              unfold DX10_sacks_168 DX10_sacks_200
              rw [if_neg (show ¬ (1 : Int32) = 0 by decide), nI_1, if_pos i1, if_pos i2, nI_clamp (by omega), nI_clamp (by omega), e81, e81, f1, f2, adds_m q3 e6, Option.bind_some, nI_1, if_pos ⟨⟨by rw [b1]; exact q1, by rw [b2]; exact q2⟩, q3⟩]
              have := ih (c + 1) (by omega) (by omega) (by omega)
              rw [← this]
              show _ = DX10_sacks_69 N _ _ _ _ _ (rAdd (sMr (byV m d ln) s (i : Int) m c) (s + c) _ _)
              rw [hM]
            · rw [if_neg (fun q => q q1), if_pos q2, if_neg (fun q => q2 (by rw [← b2]; exact q.1.2)), hM]
          · rw [if_pos q1, if_neg (fun q => q1 (by rw [← b1]; exact q.1.1)), hM]
        · rw [if_pos (show (10 : Int32) ≤ nI (s + c) from nI_le (a := 10) (by omega) (by omega)), stop0 0, if_neg (fun q => q3 q.2), hM]
      · have lk : byV m d ln ((i : Int) + 2 * c + 1) = -1000 := by
          unfold byV
          rw [if_neg (by omega)]
        rw [if_pos (by rw [toI_lt, t1, ei]; omega), stop0 0, if_neg (fun q => by have := q.1.2.1; rw [lk] at this; exact absurd this (by decide)), hM]
theorem sacks_j (J : JA m s b kn n t lv) : Ans (dX9_sacks v1 v2 v3) (dX10_sacks v1 v2 v3) m := by
  have H := J.1.2.2.2
  have s10 := J.1.1.1.s10
  have hk := H.1
  have z0 : (0 : Int32).toInt = 0 := rfl
  have z1 : (1 : Int32).toInt = 1 := rfl
  have z10 : (10 : Int32).toInt = 10 := rfl
  have c1 : (1 : Int64).toInt = 1 := rfl
  have c10 : (10 : Int64).toInt = 10 := rfl
  unfold Ans dX9_sacks dX10_sacks DX9_sacks_18 DX10_sacks_19
  simp only [isShelf_x, isShelf_m, Option.bind_some, b01_0, within_m, i64, toI_lt, toI_le, z1, z10, c1, c10]
  by_cases h1 : okD v1
  · by_cases h3 : 1 ≤ v3.toInt ∧ v3.toInt ≤ 10
    · obtain ⟨e1, d6⟩ := d_n h1
      simp only [if_neg (show ¬ ¬ (0 ≤ v1.toInt ∧ v1.toInt < 6) from fun q => q h1), if_neg (show ¬ ¬ (1 ≤ v3.toInt ∧ v3.toInt ≤ 10) from fun q => q h3), if_neg (show ¬ v3.toInt < 1 by omega), if_pos (show v3.toInt ≤ 10 by omega), if_pos (okD_i h1), clE h1, bytesRefusal_x d6, Option.bind_some]
      obtain ⟨v3n, hv⟩ : ∃ q : Nat, v3.toInt = q := ⟨v3.toInt.toNat, by omega⟩
      have e3 := nI_of_toInt hv
      by_cases hr : brS m (dN v1) = 0
      · obtain ⟨ln, B⟩ := BR_of H d6 hr
        have h12 := J.1.1.1.2.2.1
        have h586 := J.1.1.1.2.2.2.2.1
        have cl := sCn_le (s := s) (B := byV m (dN v1) ln) (q := v2.toInt) v3n 0 (by omega)
        rw [if_neg (by rw [hr]; decide), if_pos hr]
        have rx := sacks_lx (v2 := v2) d6 B h12 (v3n := v3n) (by omega) FU 0 (Nat.zero_le _) (by unfold FU; omega) (by omega)
        rw [nI_0, ← e1, ← e3, Nat.sub_zero] at rx
        obtain ⟨_, cl2, cl3, cl4⟩ := cl
        have e44 : ∀ i : Int, ∀ c, sCn (byV m (dN v1) ln) s i v3n c = sCn (byV m (dN v1) ln) s i v3n c := fun _ _ => rfl
        generalize hC : sCn (byV m (dN v1) ln) s v2.toInt v3n 0 = C at rx cl2 cl3 cl4
        have chx := sMx_c (m := m) (s := s) (B := byV m (dN v1) ln) (q := v2.toInt) C
        have B1 := BR_c B d6 chx oPsc
        have eB := byV_c (ln := ln) (d := dN v1) chx (fun k => oPsc _ _ (by unfold FH; simp; omega))
        have i79 : gI (sMx (byV m (dN v1) ln) s v2.toInt m C) 79 (dN v1) = 50 := B1.2.2.2.2.1
        have i586 : gI (sMx (byV m (dN v1) ln) s v2.toInt m C) 58 6 = nI s := by rw [chx.I rfl]; exact h586
        have fin : Jt (sMr (byV m (dN v1) ln) s v2.toInt (sMx (byV m (dN v1) ln) s v2.toInt m C) C) (s + C) b := sJt J.1.1 C cl3 (fun k hk => cl4 k (Nat.zero_le _) hk)
        have chr := sMr_c (m := sMx (byV m (dN v1) ln) s v2.toInt m C) (s := s) (B := byV m (dN v1) ln) (q := v2.toInt) C
        have c : ch Psk m (sMr (byV m (dN v1) ln) s v2.toInt (sMx (byV m (dN v1) ln) s v2.toInt m C) C) := (chx.up (up_of fun o k q => by unfold Psc at q; unfold Psk; simp at q ⊢; omega)).tr (chr.up (up_of fun o k q => by unfold Psr at q; unfold Psk; simp at q ⊢; omega))
        refine ⟨nI C, _, sMr (byV m (dN v1) ln) s v2.toInt (sMx (byV m (dN v1) ln) s v2.toInt m C) C, rx, ?_, s + C, b, kn, n, t, lv, JA_sk J c fin (Nat.le_add_right _ _)⟩
        rw [i79, if_neg (show ¬ (50 : Int32).toInt < (0 : Int32).toInt by decide), if_pos rfl]
        unfold DX10_sacks_44
        rw [if_pos (okD_i h1), clE h1, i79, if_pos rfl]
        by_cases h2 : v2.toInt < 0
        · have C0 : C = 0 := by
            rw [← hC]
            have hno : ¬ (sOk (byV m (dN v1) ln) v2.toInt 0 ∧ s + 0 < 10) := fun q => by
              have := q.1.1.1
              unfold byV at this
              rw [if_neg (by omega)] at this
              exact absurd this (by decide)
            obtain ⟨q, rfl⟩ : ∃ q, v3n = q + 1 := ⟨v3n - 1, by omega⟩
            unfold sCn
            rw [if_neg hno]
          subst C0
          rw [if_pos (by rw [toI_lt, z0]; exact h2)]
          unfold DX10_sacks_66 DX10_sacks_67
          exact sacks_st (by unfold FU; omega) rfl
        · obtain ⟨i, hi⟩ : ∃ q : Nat, v2.toInt = q := ⟨v2.toInt.toNat, by omega⟩
          have e2 := nI_of_toInt hi
          have hv2 := v2.toInt_lt
          rw [if_neg (by rw [toI_lt, z0]; exact h2)]
          unfold DX10_sacks_67
          have rm := sacks_lm d6 B1 i586 (v3n := v3n) (i := i) (by omega) (by omega) FU 0 (Nat.zero_le _) (by unfold FU; omega) (by omega)
          rw [eB, ← hi, Nat.sub_zero, hC] at rm
          rw [← e1, nI_0] at rm
          rw [hi] at rm ⊢
          rw [e2, e3]
          exact rm
      · rcases brS_v (mm := m) (d := dN v1) with q | q | q
        · exact absurd q hr
        · refine ⟨0, m, m, by rw [if_pos q], ?_, _, _, _, _, _, _, J⟩
          rcases H.2 (dN v1) d6 with ⟨j1, j2⟩ | ⟨j1, u, j2, j3, j4⟩ | ⟨j1, tn, ln, j2, j3, j4, j5, -⟩
          · rw [j2, if_pos (by decide)]
            unfold DX10_sacks_44
            rw [if_pos (okD_i h1), clE h1, j2, if_neg (by decide)]
            unfold DX10_sacks_66 DX10_sacks_67
            exact sacks_st (by unfold FU; omega) rfl
          · exfalso
            unfold brS at q
            rw [if_neg (by rw [j1]; decide), if_neg (fun z => absurd (j1.symm.trans z.1) (by decide))] at q
            exact absurd q (by decide)
          · exfalso
            unfold brS at q
            rw [if_neg (by rw [j1]; decide)] at q
            split at q
            · exact absurd q (by decide)
            · exact absurd q (by decide)
        · refine ⟨-12, m, m, by rw [q, if_neg (by decide), if_neg (by decide)], ?_, _, _, _, _, _, _, J⟩
          rcases H.2 (dN v1) d6 with ⟨j1, j2⟩ | ⟨j1, u, j2, j3, j4⟩ | ⟨j1, tn, ln, j2, j3, j4, j5, -⟩
          · exfalso
            unfold brS at q
            rw [if_pos j1] at q
            exact absurd q (by decide)
          · have eu : (nI u).toInt = u := nI_toInt (by omega)
            rw [j4, if_neg (by rw [eu, z0]; omega), if_neg (fun z => by have := (nI_eq (a := u) (b := 50) (by omega) (by omega)).mp z; omega)]
          · have ht : ¬ tn = 0 := fun z => hr (by
              unfold brS
              rw [if_neg (by rw [j1]; decide), if_pos ⟨j1, by rw [j4, z]; rfl⟩])
            have eu : (nI (50 + tn)).toInt = (50 + tn : Nat) := nI_toInt (by omega)
            rw [j5, if_neg (by rw [eu, z0]; omega), if_neg (fun z => by have := (nI_eq (a := 50 + tn) (b := 50) (by omega) (by omega)).mp z; omega)]
    · refine ⟨-1, m, m, ?_, ?_, _, _, _, _, _, _, J⟩
      · simp only [if_neg (show ¬ ¬ (0 ≤ v1.toInt ∧ v1.toInt < 6) from fun q => q h1)]
        by_cases h4 : v3.toInt < 1
        · rw [if_pos h4]
        · rw [if_neg h4, if_neg (by omega)]
      · simp only [if_neg (show ¬ ¬ (0 ≤ v1.toInt ∧ v1.toInt < 6) from fun q => q h1), if_pos h3]
  · simp only [if_pos (show ¬ (0 ≤ v1.toInt ∧ v1.toInt < 6) from h1)]
    exact ⟨-1, m, m, rfl, rfl, _, _, _, _, _, _, J⟩
end SACKS
