/-! ===== back: alike on both sides ===== -/
section BACK
variable {m : Mm} {s b kn n s1 b1 : Nat} {t : Nat → Nat} {lv : Option LF}
theorem bck_1 (hs : s1 ≤ s) : ∀ (N f i : Nat) (M : Mm), i + f = s1 → f < N → Js M s b → gI M 23 6 = nI s1 → ∃ M2, DX3_layBack_2 N (nI i) M = DX3_layBack_50 FU 0 M2 ∧ ch (Pa2 12 13) M M2 ∧ ∀ k, gI M2 12 k = (if i ≤ k ∧ k < s1 then gI M 26 k else gI M 12 k) ∧ gI M2 13 k = (if i ≤ k ∧ k < s1 then gI M 27 k else gI M 13 k) := by
  intro N
  induction N with
  | zero => intro f i M h1 h2; omega
  | succ N ih =>
    intro f i M h1 h2 J h6
    have s10 := J.s10
    show ∃ M2, BX3_layBack_2 (DX3_layBack_2 N) (nI i) M = _ ∧ _
    unfold BX3_layBack_2
    rw [h6]
    cases f with
    | zero =>
      have e : i = s1 := by omega
      subst e
      rw [if_pos (Int32.le_refl _)]
      exact ⟨M, rfl, ch.rf, fun k => by rw [if_neg (by omega), if_neg (by omega)]; exact ⟨rfl, rfl⟩⟩
    | succ f =>
      have ei : (nI i).toInt = i := nI_toInt (by omega)
      have hi : inB (nI i) 10 := inB_nI (by omega) (by omega)
      have c1 : ch (Pa2 12 13) M (sI M 12 i (gI M 26 i)) := ch.sI rfl
      have c2 : ch (Pa2 12 13) M (sI (sI M 12 i (gI M 26 i)) 13 i (gI M 27 i)) := c1.tr (ch.sI rfl)
      rw [if_neg (nI_ge (by omega) (by omega)), if_pos hi]
      simp only [nI_clamp (show i < 2 ^ 31 by omega)]
      rw [set_x J (wn := 9) (by simp) ei (by unfold hd; omega), Option.bind_some, if_pos hi]
      dsimp only [Nat.reduceAdd]
      rw [show gI (sI M 12 i (gI M 26 i)) 27 i = gI M 27 i from gI_o (by omega), set_x (Js_a J c1 (by omega)) (wn := 10) (by simp) ei (by unfold hd; omega), Option.bind_some, nI_1]
      dsimp only [Nat.reduceAdd]
      obtain ⟨M2, x1, x2, x3⟩ := ih f (i + 1) (sI (sI M 12 i (gI M 26 i)) 13 i (gI M 27 i)) (by omega) (by omega) (Js_a J c2 (by omega)) (by rw [gI_o (by omega), gI_o (by omega)]; exact h6)
      refine ⟨M2, x1, c2.tr x2, fun k => ?_⟩
      have x4 := x3 k
      have r12 : gI (sI (sI M 12 i (gI M 26 i)) 13 i (gI M 27 i)) 12 k = if k = i then gI M 26 i else gI M 12 k := by rw [gI_o (by omega), gI_at]
      have r13 : gI (sI (sI M 12 i (gI M 26 i)) 13 i (gI M 27 i)) 13 k = if k = i then gI M 27 i else gI M 13 k := by rw [gI_at, gI_o (by omega)]
      have r26 : gI (sI (sI M 12 i (gI M 26 i)) 13 i (gI M 27 i)) 26 k = gI M 26 k := by rw [gI_o (by omega), gI_o (by omega)]
      have r27 : gI (sI (sI M 12 i (gI M 26 i)) 13 i (gI M 27 i)) 27 k = gI M 27 k := by rw [gI_o (by omega), gI_o (by omega)]
      rw [r12, r13, r26, r27] at x4
      rw [x4.1, x4.2]
      by_cases e : k = i
      · subst e
        have hk : k < s1 := by omega
        simp [hk]
      · rw [if_neg e, if_neg e]
        by_cases q : i + 1 ≤ k ∧ k < s1
        · have q2 : i ≤ k ∧ k < s1 := by omega
          rw [if_pos q, if_pos q, if_pos q2, if_pos q2]; exact ⟨rfl, rfl⟩
        · have q2 : ¬ (i ≤ k ∧ k < s1) := by omega
          rw [if_neg q, if_neg q, if_neg q2, if_neg q2]; exact ⟨rfl, rfl⟩
theorem bck_2 (hb : b1 ≤ b) : ∀ (N f i : Nat) (M : Mm), i + f = b1 → f < N → Js M s b → gI M 23 7 = nI b1 → ∃ M2, DX3_layBack_50 N (nI i) M = some ((), cpI M2 25 24 0 0 5) ∧ ch (Pa2 9 9) M M2 ∧ ∀ k, gI M2 9 k = (if i ≤ k ∧ k < b1 then gI M 28 k else gI M 9 k) := by
  intro N
  induction N with
  | zero => intro f i M h1 h2; omega
  | succ N ih =>
    intro f i M h1 h2 J h7
    have b6 := J.b6
    show ∃ M2, BX3_layBack_50 (DX3_layBack_50 N) (nI i) M = _ ∧ _
    unfold BX3_layBack_50
    rw [h7]
    cases f with
    | zero =>
      have e : i = b1 := by omega
      subst e
      rw [if_pos (Int32.le_refl _)]
      exact ⟨M, rfl, ch.rf, fun k => by rw [if_neg (by omega)]⟩
    | succ f =>
      have ei : (nI i).toInt = i := nI_toInt (by omega)
      have hi : inB (nI i) 6 := inB_nI (by omega) (by omega)
      have c1 : ch (Pa2 9 9) M (sI M 9 i (gI M 28 i)) := ch.sI rfl
      rw [if_neg (nI_ge (by omega) (by omega)), if_pos hi]
      simp only [nI_clamp (show i < 2 ^ 31 by omega)]
      rw [set_x J (wn := 6) (by simp) ei (by unfold hd; omega), Option.bind_some, nI_1]
      dsimp only [Nat.reduceAdd]
      obtain ⟨M2, x1, x2, x3⟩ := ih f (i + 1) (sI M 9 i (gI M 28 i)) (by omega) (by omega) (Js_a J c1 (by omega)) (by rw [gI_o (by omega)]; exact h7)
      refine ⟨M2, x1, c1.tr x2, fun k => ?_⟩
      rw [x3 k, gI_o (show ¬ (28 : Nat) = 9 by omega), gI_at]
      by_cases e : k = i
      · subst e
        have hk : k < b1 := by omega
        simp [hk]
      · rw [if_neg e]
        by_cases q : i + 1 ≤ k ∧ k < b1
        · rw [if_pos q, if_pos (show i ≤ k ∧ k < b1 by omega)]
        · rw [if_neg q, if_neg (show ¬ (i ≤ k ∧ k < b1) by omega)]
theorem bck_1m (hs : s1 ≤ 10) : ∀ (N f i : Nat) (M : Mm), i + f = s1 → f < N → gI M 58 26 = nI s1 → (∀ k, k < s1 → gI M 74 k = 0 ∨ gI M 74 k = 1) → ∃ M2, DX10_back_12 N (nI i) M = DX10_back_52 FU 0 M2 ∧ ch (Pa2 63 64) M M2 ∧ ∀ k, gI M2 63 k = (if i ≤ k ∧ k < s1 then gI M 73 k else gI M 63 k) ∧ gI M2 64 k = (if i ≤ k ∧ k < s1 then gI M 74 k else gI M 64 k) := by
  intro N
  induction N with
  | zero => intro f i M h1 h2; omega
  | succ N ih =>
    intro f i M h1 h2 h6 h74
    show ∃ M2, BX10_back_12 (DX10_back_12 N) (nI i) M = _ ∧ _
    unfold BX10_back_12
    rw [h6]
    cases f with
    | zero =>
      have e : i = s1 := by omega
      subst e
      rw [if_pos (Int32.le_refl _)]
      exact ⟨M, rfl, ch.rf, fun k => by rw [if_neg (by omega), if_neg (by omega)]; exact ⟨rfl, rfl⟩⟩
    | succ f =>
      have hi : inB (nI i) 10 := inB_nI (by omega) (by omega)
      have c2 : ch (Pa2 63 64) M (sI (sI M 63 i (gI M 73 i)) 64 i (gI M 74 i)) := (ch.sI rfl).tr (ch.sI rfl)
      rw [if_neg (nI_ge (by omega) (by omega)), if_pos hi, if_pos hi, if_pos hi, if_pos hi, nI_1, nI_clamp (by omega), show gI (sI M 63 i (gI M 73 i)) 74 i = gI M 74 i from gI_o (by omega), nar01 (h74 i (by omega))]
      obtain ⟨M2, x1, x2, x3⟩ := ih f (i + 1) (sI (sI M 63 i (gI M 73 i)) 64 i (gI M 74 i)) (by omega) (by omega) (by rw [gI_o (by omega), gI_o (by omega)]; exact h6) (fun k hk => by rw [gI_o (by omega), gI_o (by omega)]; exact h74 k hk)
      refine ⟨M2, x1, c2.tr x2, fun k => ?_⟩
      have x4 := x3 k
      have r12 : gI (sI (sI M 63 i (gI M 73 i)) 64 i (gI M 74 i)) 63 k = if k = i then gI M 73 i else gI M 63 k := by rw [gI_o (by omega), gI_at]
      have r13 : gI (sI (sI M 63 i (gI M 73 i)) 64 i (gI M 74 i)) 64 k = if k = i then gI M 74 i else gI M 64 k := by rw [gI_at, gI_o (by omega)]
      have r26 : gI (sI (sI M 63 i (gI M 73 i)) 64 i (gI M 74 i)) 73 k = gI M 73 k := by rw [gI_o (by omega), gI_o (by omega)]
      have r27 : gI (sI (sI M 63 i (gI M 73 i)) 64 i (gI M 74 i)) 74 k = gI M 74 k := by rw [gI_o (by omega), gI_o (by omega)]
      rw [r12, r13, r26, r27] at x4
      rw [x4.1, x4.2]
      by_cases e : k = i
      · subst e
        have hk : k < s1 := by omega
        simp [hk]
      · rw [if_neg e, if_neg e]
        by_cases q : i + 1 ≤ k ∧ k < s1
        · have q2 : i ≤ k ∧ k < s1 := by omega
          rw [if_pos q, if_pos q, if_pos q2, if_pos q2]; exact ⟨rfl, rfl⟩
        · have q2 : ¬ (i ≤ k ∧ k < s1) := by omega
          rw [if_neg q, if_neg q, if_neg q2, if_neg q2]; exact ⟨rfl, rfl⟩
theorem bck_2m (hb : b1 ≤ 6) : ∀ (N f i : Nat) (M : Mm), i + f = b1 → f < N → gI M 58 27 = nI b1 → ∃ M2, DX10_back_52 N (nI i) M = DX10_back_83 FU 0 M2 ∧ ch (Pa2 59 59) M M2 ∧ ∀ k, gI M2 59 k = (if 44 + i ≤ k ∧ k < 44 + b1 then gI M 75 (k - 44) else gI M 59 k) := by
  intro N
  induction N with
  | zero => intro f i M h1 h2; omega
  | succ N ih =>
    intro f i M h1 h2 h7
    show ∃ M2, BX10_back_52 (DX10_back_52 N) (nI i) M = _ ∧ _
    unfold BX10_back_52
    rw [h7]
    cases f with
    | zero =>
      have e : i = b1 := by omega
      subst e
      rw [if_pos (Int32.le_refl _)]
      exact ⟨M, rfl, ch.rf, fun k => by rw [if_neg (by omega)]⟩
    | succ f =>
      have hi : inB (nI i) 6 := inB_nI (by omega) (by omega)
      have e44 : (44 : Int32) + nI i = nI (44 + i) := by rw [show (44 : Int32) = nI 44 from rfl, nI_add]
      have c1 : ch (Pa2 59 59) M (sI M 59 (44 + i) (gI M 75 i)) := ch.sI rfl
      rw [if_neg (nI_ge (by omega) (by omega)), e44, if_pos hi, if_pos (inB_nI (by omega) (by omega)), nI_1, nI_clamp (by omega), nI_clamp (by omega)]
      obtain ⟨M2, x1, x2, x3⟩ := ih f (i + 1) (sI M 59 (44 + i) (gI M 75 i)) (by omega) (by omega) (by rw [gI_o (by omega)]; exact h7)
      refine ⟨M2, x1, c1.tr x2, fun k => ?_⟩
      rw [x3 k, gI_o (show ¬ (75 : Nat) = 59 by omega), gI_at]
      by_cases e : k = 44 + i
      · subst e
        rw [if_neg (by omega), if_pos rfl, if_pos (by omega), show 44 + i - 44 = i by omega]
      · rw [if_neg e]
        by_cases q : 44 + (i + 1) ≤ k ∧ k < 44 + b1
        · rw [if_pos q, if_pos (show 44 + i ≤ k ∧ k < 44 + b1 by omega)]
        · rw [if_neg q, if_neg (show ¬ (44 + i ≤ k ∧ k < 44 + b1) by omega)]
theorem bck_3m : ∀ (N f i : Nat) (M : Mm), i + f = 5 → f < N → ∃ M2, DX10_back_83 N (nI i) M = some (gI M2 72 0, M2) ∧ ch (Pa2 72 72) M M2 ∧ ∀ k, gI M2 72 k = (if i ≤ k ∧ k < 5 then gI M 76 k else gI M 72 k) := by
  intro N
  induction N with
  | zero => intro f i M h1 h2; omega
  | succ N ih =>
    intro f i M h1 h2
    show ∃ M2, BX10_back_83 (DX10_back_83 N) (nI i) M = _ ∧ _
    unfold BX10_back_83
    cases f with
    | zero =>
      have e : i = 5 := by omega
      subst e
      rw [if_pos (show (5 : Int32) ≤ nI 5 by decide)]
      exact ⟨M, rfl, ch.rf, fun k => by rw [if_neg (by omega)]⟩
    | succ f =>
      have hi : inB (nI i) 5 := inB_nI (by omega) (by omega)
      have c1 : ch (Pa2 72 72) M (sI M 72 i (gI M 76 i)) := ch.sI rfl
      rw [if_neg (show ¬ (5 : Int32) ≤ nI i from nI_ge (b := 5) (by omega) (by omega)), if_pos hi, if_pos hi, nI_1, nI_clamp (by omega)]
      obtain ⟨M2, x1, x2, x3⟩ := ih f (i + 1) (sI M 72 i (gI M 76 i)) (by omega) (by omega)
      refine ⟨M2, x1, c1.tr x2, fun k => ?_⟩
      rw [x3 k, gI_o (show ¬ (76 : Nat) = 72 by omega), gI_at]
      by_cases e : k = i
      · subst e
        have hk : k < 5 := by omega
        simp [hk]
      · rw [if_neg e]
        by_cases q : i + 1 ≤ k ∧ k < 5
        · rw [if_pos q, if_pos (show i ≤ k ∧ k < 5 by omega)]
        · rw [if_neg q, if_neg (show ¬ (i ≤ k ∧ k < 5) by omega)]
theorem Ju_back {m' : Mm} (J : Ju m s b) (e1 : ∀ o i, FT o i = true → ¬ o = 12 → ¬ o = 13 → ¬ o = 63 → ¬ o = 64 → ¬ o = 9 → ¬ (o = 59 ∧ 44 ≤ i ∧ i < 44 + b) → gI m' o i = gI m o i) (e2 : ∀ k, k < s → gI m' 63 k = gI m' 12 k ∧ -1 ≤ (gI m' 12 k).toInt ∧ (gI m' 12 k).toInt < b ∧ gI m' 64 k = gI m' 13 k ∧ (gI m' 13 k = 0 ∨ gI m' 13 k = 1)) (e3 : ∀ k, k < b → gI m' 59 (44 + k) = gI m' 9 k ∧ 0 ≤ (gI m' 9 k).toInt ∧ (gI m' 9 k).toInt ≤ 999) (e4 : ∀ k, s ≤ k → gI m' 64 k = gI m 64 k) : Ju m' s b := by
  obtain ⟨⟨j1, j2, j3, j4, j5, j6⟩, ju, jk, jo⟩ := J
  refine ⟨⟨j1, j2, ?_, ?_, ?_, ?_⟩, fun w k hh => ?_, e2, fun k h1 h2 => ?_⟩
  · rw [e1 1 2 rfl (by omega) (by omega) (by omega) (by omega) (by omega) (by omega)]; exact j3
  · rw [e1 1 3 rfl (by omega) (by omega) (by omega) (by omega) (by omega) (by omega)]; exact j4
  · rw [e1 58 6 rfl (by omega) (by omega) (by omega) (by omega) (by omega) (by omega)]; exact j5
  · rw [e1 58 7 rfl (by omega) (by omega) (by omega) (by omega) (by omega) (by omega)]; exact j6
  · have h8 := hn_8 hh
    by_cases h6 : w = 6
    · subst h6
      exact e3 k (by unfold hn at hh; omega)
    · have np : ¬ (59 = 59 ∧ 44 ≤ plc w k ∧ plc w k < 44 + b) := by
        unfold hn at hh
        unfold plc
        repeat' split
        all_goals omega
      rw [e1 59 _ rfl (by omega) (by omega) (by omega) (by omega) (by omega) np, e1 _ _ (FT_w (by omega)) (by omega) (by omega) (by omega) (by omega) (by omega) (by omega)]
      exact ju w k hh
  · rw [e4 k h1]; exact jo k h1 h2
theorem Pa2_op {a c : Nat} (h : (a = 9 ∨ a = 12 ∨ a = 13 ∨ a = 59 ∨ a = 63 ∨ a = 64 ∨ a = 24 ∨ a = 72) ∧ (c = 9 ∨ c = 12 ∨ c = 13 ∨ c = 59 ∨ c = 63 ∨ c = 64 ∨ c = 24 ∨ c = 72)) : ∀ o k, Pop o k = false → Pa2 a c o k = false := up_of fun o k q => by unfold Pa2 at q; unfold Pop; simp at q ⊢; omega
theorem back_j (J : JA m s b kn n t lv) : Ans dX9_back dX10_back m := by
  have JT := J.1.1
  have s10 := JT.1.s10
  have b6 := JT.1.b6
  have hled := J.2.2.2.1.1
  unfold Ans dX9_back dX3_layBack dX10_back
  rcases J.2.2.2.1.2 with ⟨q1, q2⟩ | ⟨q1, q2, s1, b1, h1, h2, h3, h4, h5, h6, h7, h8, h9⟩
  · exact ⟨-5, m, m, by rw [q1, if_pos rfl], by rw [q2, if_pos rfl], _, _, _, _, _, _, J⟩
  · rw [q1, if_neg (by decide)]
    obtain ⟨M1, x1, x2, x3⟩ := bck_1 (b := b) h1 FU s1 0 m (by omega) (by unfold FU; omega) JT.1 h3
    obtain ⟨M2, y1, y2, y3⟩ := bck_2 h2 FU b1 0 M1 (by omega) (by unfold FU; omega) (Js_a JT.1 x2 (by omega)) (by rw [x2.I rfl]; exact h5)
    rw [nI_0] at x1 y1
    rw [x1, y1, Option.bind_some]
    have cp : ch (Pa2 24 24) M2 (cpI M2 25 24 0 0 5) := fun o k q => by
      refine ⟨?_, rfl, rfl⟩
      rw [gI_cpI, if_neg]
      intro z
      subst z
      cases q
    have cc : ch Pop m (cpI M2 25 24 0 0 5) := ((x2.up (Pa2_op (by omega))).tr (y2.up (Pa2_op (by omega)))).tr (cp.up (Pa2_op (by omega)))
    have f24 : ∀ k, k < 5 → gI (cpI M2 25 24 0 0 5) 24 k = gI m 25 k := fun k hk => by
      rw [gI_cpI, if_pos rfl, show (0 : Int32).toNatClampNeg = 0 from rfl, show (5 : Int32).toNatClampNeg = 5 from rfl, pk_cpy_in (by omega) (by omega), Nat.zero_add, Nat.sub_zero, y2.I rfl, x2.I rfl]
    have f12 : ∀ k, gI (cpI M2 25 24 0 0 5) 12 k = (if k < s1 then gI m 26 k else gI m 12 k) ∧ gI (cpI M2 25 24 0 0 5) 13 k = (if k < s1 then gI m 27 k else gI m 13 k) := fun k => by
      have := x3 k
      rw [cp.I rfl, cp.I rfl, y2.I rfl, y2.I rfl, this.1, this.2]
      simp
    have f9 : ∀ k, gI (cpI M2 25 24 0 0 5) 9 k = if k < b1 then gI m 28 k else gI m 9 k := fun k => by
      rw [cp.I rfl, y3 k, x2.I rfl, x2.I rfl]
      simp
    have fo : ∀ o k, ¬ o = 12 → ¬ o = 13 → ¬ o = 9 → ¬ o = 24 → gI (cpI M2 25 24 0 0 5) o k = gI m o k := fun o k a1 a2 a3 a4 => by
      rw [cp.I (by unfold Pa2; simp; omega), y2.I (by unfold Pa2; simp; omega), x2.I (by unfold Pa2; simp; omega)]
    unfold dX3_line
    simp only []
    rw [if_pos (show inB 0 5 by decide), Option.bind_some]
    have f24' : gI (cpI M2 25 24 0 0 5) 24 (0 : Int32).toNatClampNeg = gI m 25 0 := f24 0 (by omega)
    rw [f24']
    refine ⟨gI m 25 0, cpI M2 25 24 0 0 5, ?_⟩
    generalize cpI M2 25 24 0 0 5 = m1 at cc f24 f12 f9 fo
    rw [fo 58 25 (by omega) (by omega) (by omega) (by omega), q2, if_neg (by decide)]
    obtain ⟨N1, u1, u2, u3⟩ := bck_1m (s1 := s1) (by omega) FU s1 0 m1 (by omega) (by unfold FU; omega) (by rw [fo 58 26 (by omega) (by omega) (by omega) (by omega)]; exact h4) (fun k hk => by
      rw [fo 74 k (by omega) (by omega) (by omega) (by omega)]
      have := (h7 k hk).2.2.2
      rw [this.1]; exact this.2)
    obtain ⟨N2, w1, w2, w3⟩ := bck_2m (b1 := b1) (by omega) FU b1 0 N1 (by omega) (by unfold FU; omega) (by rw [u2.I rfl, fo 58 27 (by omega) (by omega) (by omega) (by omega)]; exact h6)
    obtain ⟨N3, p1, p2, p3⟩ := bck_3m FU 5 0 N2 (by omega) (by unfold FU; omega)
    rw [nI_0] at u1 w1 p1
    have c2 : ch Pop m N3 := cc.tr (((u2.up (Pa2_op (by omega))).tr (w2.up (Pa2_op (by omega)))).tr (p2.up (Pa2_op (by omega))))
    have cR : ∀ o k, ¬ o = 63 → ¬ o = 64 → ¬ o = 59 → ¬ o = 72 → gI N3 o k = gI m1 o k := fun o k a1 a2 a3 a4 => by
      rw [p2.I (by unfold Pa2; simp; omega), w2.I (by unfold Pa2; simp; omega), u2.I (by unfold Pa2; simp; omega)]
    have g63 : ∀ k, gI N3 63 k = (if k < s1 then gI m 73 k else gI m 63 k) ∧ gI N3 64 k = (if k < s1 then gI m 74 k else gI m 64 k) := fun k => by
      have := u3 k
      rw [p2.I rfl, p2.I rfl, w2.I rfl, w2.I rfl, this.1, this.2, fo 73 k (by omega) (by omega) (by omega) (by omega), fo 63 k (by omega) (by omega) (by omega) (by omega), fo 74 k (by omega) (by omega) (by omega) (by omega), fo 64 k (by omega) (by omega) (by omega) (by omega)]
      simp
    have g59 : ∀ k, gI N3 59 k = if 44 ≤ k ∧ k < 44 + b1 then gI m 75 (k - 44) else gI m 59 k := fun k => by
      rw [p2.I rfl, w3 k, u2.I rfl, u2.I rfl, fo 75 _ (by omega) (by omega) (by omega) (by omega), fo 59 _ (by omega) (by omega) (by omega) (by omega)]
    have g72 : ∀ k, k < 5 → gI N3 72 k = gI m 76 k := fun k hk => by
      rw [p3 k, if_pos ⟨Nat.zero_le _, hk⟩, w2.I rfl, u2.I rfl, fo 76 _ (by omega) (by omega) (by omega) (by omega)]
    refine ⟨N3, rfl, ?_, s, b, kn, n, t, lv, JA_op J c2 (Ju_back (Ju.of JT) (fun o i hf a1 a2 a3 a4 a5 a6 => ?_) (fun k hk => ?_) (fun k hk => ?_) (fun k hk => ?_)) (fun k hk => ?_)⟩
    · rw [u1, w1, p1, g72 0 (by omega), h9 0 (by omega)]
    · by_cases o59 : o = 59
      · subst o59
        rw [g59, if_neg (by omega)]
      · have n72 : ¬ o = 72 := fun z => by rw [z] at hf; cases hf
        have n24 : ¬ o = 24 := fun z => by rw [z] at hf; cases hf
        rw [cR o i a3 a4 o59 n72, fo o i a1 a2 a5 n24]
    · have jk := (JT.2.2.1 k hk).2.2
      rw [(g63 k).1, (g63 k).2, cR 12 k (by omega) (by omega) (by omega) (by omega), cR 13 k (by omega) (by omega) (by omega) (by omega), (f12 k).1, (f12 k).2]
      by_cases hk1 : k < s1
      · rw [if_pos hk1, if_pos hk1, if_pos hk1, if_pos hk1]; exact h7 k hk1
      · rw [if_neg hk1, if_neg hk1, if_neg hk1, if_neg hk1]; exact ⟨jk.1.1, jk.1.2.1, jk.1.2.2, jk.2.1, jk.2.2⟩
    · have jb := (JT.2.2.2.2 k hk).1
      rw [g59, cR 9 k (by omega) (by omega) (by omega) (by omega), f9]
      by_cases hk1 : k < b1
      · rw [if_pos (by omega), if_pos hk1, show 44 + k - 44 = k by omega]; exact h8 k hk1
      · rw [if_neg (by omega), if_neg hk1]; exact jb
    · rw [(g63 k).2, if_neg (by omega)]
    · rw [g72 k hk, cR 24 k (by omega) (by omega) (by omega) (by omega), f24 k hk]; exact h9 k hk
end BACK
