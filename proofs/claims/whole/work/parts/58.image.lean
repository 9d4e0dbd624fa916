/-! ===== image, back: alike on both sides ===== -/
section IMAGE
variable {m : Mm} {s b kn n : Nat} {t : Nat → Nat} {lv : Option LF}
def Pa2 (a c : Nat) (o _k : Nat) : Bool := o == a || o == c
theorem gI_at {M : Mm} {o k i : Nat} {x : Int32} : gI (sI M o k x) o i = if i = k then x else gI M o i := by
  rw [gI_sI]; simp
theorem gI_o {M : Mm} {o k o' i : Nat} {x : Int32} (h : ¬ o' = o) : gI (sI M o k x) o' i = gI M o' i := by
  rw [gI_sI, if_neg (fun z => h z.1)]
theorem nar01 {x : Int32} (h : x = 0 ∨ x = 1) : vp_nar .boolean x = x := by rcases h with rfl | rfl <;> decide
theorem Js_a {a c : Nat} {M : Mm} (J : Js m s b) (h : ch (Pa2 a c) m M) (ha : ¬ a = 1 ∧ ¬ a = 58 ∧ ¬ c = 1 ∧ ¬ c = 58) : Js M s b := Js_fr J h (fun o k q => by unfold FJs at q; unfold Pa2; simp at q ⊢; omega)
theorem img_1 : ∀ (N f i : Nat) (M : Mm), i + f = s → f < N → Js M s b → gI M 23 6 = nI s → ∃ M2, DX3_keepImage_24 N (nI i) M = DX3_keepImage_72 FU 0 M2 ∧ ch (Pa2 26 27) M M2 ∧ ∀ k, k < s → gI M2 26 k = (if i ≤ k then gI M 12 k else gI M 26 k) ∧ gI M2 27 k = (if i ≤ k then gI M 13 k else gI M 27 k) := by
  intro N
  induction N with
  | zero => intro f i M h1 h2; omega
  | succ N ih =>
    intro f i M h1 h2 J h6
    have s10 := J.s10
    show ∃ M2, BX3_keepImage_24 (DX3_keepImage_24 N) (nI i) M = _ ∧ _
    unfold BX3_keepImage_24
    rw [h6]
    cases f with
    | zero =>
      have e : i = s := by omega
      subst e
      rw [if_pos (Int32.le_refl _)]
      exact ⟨M, rfl, ch.rf, fun k hk => by rw [if_neg (by omega), if_neg (by omega)]; exact ⟨rfl, rfl⟩⟩
    | succ f =>
      have ei : (nI i).toInt = i := nI_toInt (by omega)
      have hi : inB (nI i) 10 := inB_nI (by omega) (by omega)
      have c1 : ch (Pa2 26 27) M (sI M 26 i (gI M 12 i)) := ch.sI rfl
      have c2 : ch (Pa2 26 27) M (sI (sI M 26 i (gI M 12 i)) 27 i (gI M 13 i)) := c1.tr (ch.sI rfl)
      rw [if_neg (nI_ge (by omega) (by omega)), told_x J (wn := 9) (by simp) ei (by unfold hd; omega), Option.bind_some, if_pos hi]
      dsimp only [Nat.reduceAdd]
      simp only [nI_clamp (show i < 2 ^ 31 by omega)]
      rw [told_x (Js_a J c1 (by omega)) (wn := 10) (by simp) ei (by unfold hd; omega), Option.bind_some, if_pos hi, nI_1]
      dsimp only [Nat.reduceAdd]
      rw [show gI (sI M 26 i (gI M 12 i)) 13 i = gI M 13 i from gI_o (by omega)]
      obtain ⟨M2, x1, x2, x3⟩ := ih f (i + 1) (sI (sI M 26 i (gI M 12 i)) 27 i (gI M 13 i)) (by omega) (by omega) (Js_a J c2 (by omega)) (by rw [gI_o (by omega), gI_o (by omega)]; exact h6)
      refine ⟨M2, x1, c2.tr x2, fun k hk => ?_⟩
      have x4 := x3 k hk
      have r12 : gI (sI (sI M 26 i (gI M 12 i)) 27 i (gI M 13 i)) 12 k = gI M 12 k := by rw [gI_o (by omega), gI_o (by omega)]
      have r13 : gI (sI (sI M 26 i (gI M 12 i)) 27 i (gI M 13 i)) 13 k = gI M 13 k := by rw [gI_o (by omega), gI_o (by omega)]
      have r26 : gI (sI (sI M 26 i (gI M 12 i)) 27 i (gI M 13 i)) 26 k = if k = i then gI M 12 i else gI M 26 k := by rw [gI_o (by omega), gI_at]
      have r27 : gI (sI (sI M 26 i (gI M 12 i)) 27 i (gI M 13 i)) 27 k = if k = i then gI M 13 i else gI M 27 k := by rw [gI_at, gI_o (by omega)]
      rw [r12, r13, r26, r27] at x4
      rw [x4.1, x4.2]
      by_cases e : k = i
      · subst e
        simp
      · rw [if_neg e, if_neg e]
        by_cases q : i + 1 ≤ k
        · rw [if_pos q, if_pos q, if_pos (by omega), if_pos (by omega)]; exact ⟨rfl, rfl⟩
        · rw [if_neg q, if_neg q, if_neg (by omega), if_neg (by omega)]; exact ⟨rfl, rfl⟩
theorem img_2 : ∀ (N f i : Nat) (M : Mm), i + f = b → f < N → Js M s b → gI M 23 7 = nI b → ∃ M2, DX3_keepImage_72 N (nI i) M = some ((), sI (cpI M2 24 25 0 0 5) 23 8 1) ∧ ch (Pa2 28 28) M M2 ∧ ∀ k, k < b → gI M2 28 k = (if i ≤ k then gI M 9 k else gI M 28 k) := by
  intro N
  induction N with
  | zero => intro f i M h1 h2; omega
  | succ N ih =>
    intro f i M h1 h2 J h7
    have b6 := J.b6
    show ∃ M2, BX3_keepImage_72 (DX3_keepImage_72 N) (nI i) M = _ ∧ _
    unfold BX3_keepImage_72
    rw [h7]
    cases f with
    | zero =>
      have e : i = b := by omega
      subst e
      rw [if_pos (Int32.le_refl _)]
      exact ⟨M, rfl, ch.rf, fun k hk => by rw [if_neg (by omega)]⟩
    | succ f =>
      have ei : (nI i).toInt = i := nI_toInt (by omega)
      have hi : inB (nI i) 6 := inB_nI (by omega) (by omega)
      have c1 : ch (Pa2 28 28) M (sI M 28 i (gI M 9 i)) := ch.sI rfl
      rw [if_neg (nI_ge (by omega) (by omega)), told_x J (wn := 6) (by simp) ei (by unfold hd; omega), Option.bind_some, if_pos hi, nI_1]
      dsimp only [Nat.reduceAdd]
      rw [nI_clamp (by omega)]
      obtain ⟨M2, x1, x2, x3⟩ := ih f (i + 1) (sI M 28 i (gI M 9 i)) (by omega) (by omega) (Js_a J c1 (by omega)) (by rw [gI_o (by omega)]; exact h7)
      refine ⟨M2, x1, c1.tr x2, fun k hk => ?_⟩
      rw [x3 k hk, gI_o (by omega), gI_at]
      by_cases e : k = i
      · subst e
        rw [if_neg (by omega), if_pos rfl, if_pos (Nat.le_refl _)]
      · rw [if_neg e]
        by_cases q : i + 1 ≤ k
        · rw [if_pos q, if_pos (by omega)]
        · rw [if_neg q, if_neg (by omega)]
theorem img_1m : ∀ (N f i : Nat) (M : Mm), i + f = s → f < N → s ≤ 10 → gI M 58 6 = nI s → (∀ k, k < s → gI M 64 k = 0 ∨ gI M 64 k = 1) → ∃ M2, DX10_image_23 N (nI i) M = DX10_image_63 FU 0 M2 ∧ ch (Pa2 73 74) M M2 ∧ ∀ k, k < s → gI M2 73 k = (if i ≤ k then gI M 63 k else gI M 73 k) ∧ gI M2 74 k = (if i ≤ k then gI M 64 k else gI M 74 k) := by
  intro N
  induction N with
  | zero => intro f i M h1 h2; omega
  | succ N ih =>
    intro f i M h1 h2 s10 h6 h64
    show ∃ M2, BX10_image_23 (DX10_image_23 N) (nI i) M = _ ∧ _
    unfold BX10_image_23
    rw [h6]
    cases f with
    | zero =>
      have e : i = s := by omega
      subst e
      rw [if_pos (Int32.le_refl _)]
      exact ⟨M, rfl, ch.rf, fun k hk => by rw [if_neg (by omega), if_neg (by omega)]; exact ⟨rfl, rfl⟩⟩
    | succ f =>
      have hi : inB (nI i) 10 := inB_nI (by omega) (by omega)
      have c2 : ch (Pa2 73 74) M (sI (sI M 73 i (gI M 63 i)) 74 i (gI M 64 i)) := (ch.sI rfl).tr (ch.sI rfl)
      rw [if_neg (nI_ge (by omega) (by omega)), if_pos hi, if_pos hi, if_pos hi, if_pos hi, nI_1, nI_clamp (by omega), show gI (sI M 73 i (gI M 63 i)) 64 i = gI M 64 i from gI_o (by omega), nar01 (h64 i (by omega))]
      obtain ⟨M2, x1, x2, x3⟩ := ih f (i + 1) (sI (sI M 73 i (gI M 63 i)) 74 i (gI M 64 i)) (by omega) (by omega) s10 (by rw [gI_o (by omega), gI_o (by omega)]; exact h6) (fun k hk => by rw [gI_o (by omega), gI_o (by omega)]; exact h64 k hk)
      refine ⟨M2, x1, c2.tr x2, fun k hk => ?_⟩
      have x4 := x3 k hk
      have r12 : gI (sI (sI M 73 i (gI M 63 i)) 74 i (gI M 64 i)) 63 k = gI M 63 k := by rw [gI_o (by omega), gI_o (by omega)]
      have r13 : gI (sI (sI M 73 i (gI M 63 i)) 74 i (gI M 64 i)) 64 k = gI M 64 k := by rw [gI_o (by omega), gI_o (by omega)]
      have r26 : gI (sI (sI M 73 i (gI M 63 i)) 74 i (gI M 64 i)) 73 k = if k = i then gI M 63 i else gI M 73 k := by rw [gI_o (by omega), gI_at]
      have r27 : gI (sI (sI M 73 i (gI M 63 i)) 74 i (gI M 64 i)) 74 k = if k = i then gI M 64 i else gI M 74 k := by rw [gI_at, gI_o (by omega)]
      rw [r12, r13, r26, r27] at x4
      rw [x4.1, x4.2]
      by_cases e : k = i
      · subst e
        simp
      · rw [if_neg e, if_neg e]
        by_cases q : i + 1 ≤ k
        · rw [if_pos q, if_pos q, if_pos (by omega), if_pos (by omega)]; exact ⟨rfl, rfl⟩
        · rw [if_neg q, if_neg q, if_neg (by omega), if_neg (by omega)]; exact ⟨rfl, rfl⟩
theorem img_2m : ∀ (N f i : Nat) (M : Mm), i + f = b → f < N → b ≤ 6 → gI M 58 7 = nI b → ∃ M2, DX10_image_63 N (nI i) M = DX10_image_94 FU 0 M2 ∧ ch (Pa2 75 75) M M2 ∧ ∀ k, k < b → gI M2 75 k = (if i ≤ k then gI M 59 (44 + k) else gI M 75 k) := by
  intro N
  induction N with
  | zero => intro f i M h1 h2; omega
  | succ N ih =>
    intro f i M h1 h2 b6 h7
    show ∃ M2, BX10_image_63 (DX10_image_63 N) (nI i) M = _ ∧ _
    unfold BX10_image_63
    rw [h7]
    cases f with
    | zero =>
      have e : i = b := by omega
      subst e
      rw [if_pos (Int32.le_refl _)]
      exact ⟨M, rfl, ch.rf, fun k hk => by rw [if_neg (by omega)]⟩
    | succ f =>
      have hi : inB (nI i) 6 := inB_nI (by omega) (by omega)
      have e44 : (44 : Int32) + nI i = nI (44 + i) := by rw [show (44 : Int32) = nI 44 from rfl, nI_add]
      have c1 : ch (Pa2 75 75) M (sI M 75 i (gI M 59 (44 + i))) := ch.sI rfl
      rw [if_neg (nI_ge (by omega) (by omega)), e44, if_pos (inB_nI (by omega) (by omega)), if_pos hi, nI_1, nI_clamp (by omega), nI_clamp (by omega)]
      obtain ⟨M2, x1, x2, x3⟩ := ih f (i + 1) (sI M 75 i (gI M 59 (44 + i))) (by omega) (by omega) b6 (by rw [gI_o (by omega)]; exact h7)
      refine ⟨M2, x1, c1.tr x2, fun k hk => ?_⟩
      rw [x3 k hk, gI_o (by omega), gI_at]
      by_cases e : k = i
      · subst e
        rw [if_neg (by omega), if_pos rfl, if_pos (Nat.le_refl _)]
      · rw [if_neg e]
        by_cases q : i + 1 ≤ k
        · rw [if_pos q, if_pos (by omega)]
        · rw [if_neg q, if_neg (by omega)]
theorem img_3m : ∀ (N f i : Nat) (M : Mm), i + f = 5 → f < N → ∃ M2, DX10_image_94 N (nI i) M = some (gI M 72 0, M2) ∧ ch (Pa2 76 76) M M2 ∧ ∀ k, k < 5 → gI M2 76 k = (if i ≤ k then gI M 72 k else gI M 76 k) := by
  intro N
  induction N with
  | zero => intro f i M h1 h2; omega
  | succ N ih =>
    intro f i M h1 h2
    show ∃ M2, BX10_image_94 (DX10_image_94 N) (nI i) M = _ ∧ _
    unfold BX10_image_94
    cases f with
    | zero =>
      have e : i = 5 := by omega
      subst e
      rw [if_pos (show (5 : Int32) ≤ nI 5 by decide)]
      exact ⟨M, rfl, ch.rf, fun k hk => by rw [if_neg (by omega)]⟩
    | succ f =>
      have hi : inB (nI i) 5 := inB_nI (by omega) (by omega)
      have c1 : ch (Pa2 76 76) M (sI M 76 i (gI M 72 i)) := ch.sI rfl
      rw [if_neg (show ¬ (5 : Int32) ≤ nI i from nI_ge (b := 5) (by omega) (by omega)), if_pos hi, if_pos hi, nI_1, nI_clamp (by omega)]
      obtain ⟨M2, x1, x2, x3⟩ := ih f (i + 1) (sI M 76 i (gI M 72 i)) (by omega) (by omega)
      refine ⟨M2, by rw [x1, gI_o (by omega)], c1.tr x2, fun k hk => ?_⟩
      rw [x3 k hk, gI_o (by omega), gI_at]
      by_cases e : k = i
      · subst e
        rw [if_neg (by omega), if_pos rfl, if_pos (Nat.le_refl _)]
      · rw [if_neg e]
        by_cases q : i + 1 ≤ k
        · rw [if_pos q, if_pos (by omega)]
        · rw [if_neg q, if_neg (by omega)]
def Pim (o k : Nat) : Bool := o == 23 || (decide (25 ≤ o) && decide (o ≤ 28)) || (decide (73 ≤ o) && decide (o ≤ 76)) || (o == 58 && (k == 25 || k == 26 || k == 27))
theorem oIm_T : off FT Pim := fun o k h => by unfold FT at h; unfold Pim; simp at h ⊢; omega
theorem oIm_L : off FLw Pim := fun o k h => by unfold FLw at h; unfold Pim; simp at h ⊢; omega
theorem oIm_H : off FH Pim := fun o k h => by unfold FH at h; unfold Pim; simp at h ⊢; omega
theorem oIm_P : off FP Pim := fun o k h => by unfold FP at h; unfold Pim; simp at h ⊢; omega
theorem oIm_C : off FC Pim := fun o k h => by unfold FC at h; unfold Pim; simp at h ⊢; omega
theorem oIm_N : off FN Pim := fun o k h => by unfold FN at h; unfold Pim; simp at h ⊢; omega
theorem Pa2_im {a c : Nat} (h : (a = 23 ∨ (25 ≤ a ∧ a ≤ 28) ∨ (73 ≤ a ∧ a ≤ 76)) ∧ (c = 23 ∨ (25 ≤ c ∧ c ≤ 28) ∨ (73 ≤ c ∧ c ≤ 76))) : ∀ o k, Pim o k = false → Pa2 a c o k = false := up_of fun o k q => by unfold Pa2 at q; unfold Pim; simp at q ⊢; omega
theorem led_cp {m2 : Mm} : ∀ k, k < 5 → gI (cpI m2 24 25 0 0 5) 25 k = gI m2 24 k := fun k hk => by
  rw [gI_cpI, if_pos rfl, show (0 : Int32).toNatClampNeg = 0 from rfl, show (5 : Int32).toNatClampNeg = 5 from rfl, pk_cpy_in (by omega) (by omega), Nat.zero_add, Nat.sub_zero]
theorem image_j (J : JA m s b kn n t lv) : Ans dX9_image dX10_image m := by
  have JT := J.1.1
  have s10 := JT.1.s10
  have b6 := JT.1.b6
  have a1 := JT.1.2.2.1
  have a2 := JT.1.2.2.2.1
  have a3 := JT.1.2.2.2.2.1
  have a4 := JT.1.2.2.2.2.2
  have hled := J.2.2.2.1.1
  unfold Ans dX9_image dX3_keepImage dX10_image
  have r1 : gI (sI m 23 6 (gI m 1 2)) 1 3 = gI m 1 3 := gI_o (by omega)
  rw [r1, a1, a2]
  have c0 : ch (Pa2 23 23) m (sI (sI m 23 6 (nI s)) 23 7 (nI b)) := (ch.sI rfl).tr (ch.sI rfl)
  have q6 : gI (sI (sI m 23 6 (nI s)) 23 7 (nI b)) 23 6 = nI s := by rw [gI_at, if_neg (by omega), gI_at, if_pos rfl]
  have q7 : gI (sI (sI m 23 6 (nI s)) 23 7 (nI b)) 23 7 = nI b := by rw [gI_at, if_pos rfl]
  generalize sI (sI m 23 6 (nI s)) 23 7 (nI b) = M0 at c0 q6 q7
  obtain ⟨M1, x1, x2, x3⟩ := img_1 (b := b) FU s 0 M0 (by omega) (by unfold FU; omega) (Js_a JT.1 c0 (by omega)) q6
  have J1 : Js M1 s b := Js_a (Js_a JT.1 c0 (by omega)) x2 (by omega)
  obtain ⟨M2, y1, y2, y3⟩ := img_2 FU b 0 M1 (by omega) (by unfold FU; omega) J1 (by rw [x2.I rfl]; exact q7)
  rw [nI_0] at x1 y1
  have e12 : ∀ k, gI M0 12 k = gI m 12 k ∧ gI M0 13 k = gI m 13 k := fun k => ⟨c0.I rfl, c0.I rfl⟩
  rw [x1, y1, Option.bind_some]
  have cc : ch Pim m (sI (cpI M2 24 25 0 0 5) 23 8 1) := ((c0.up (Pa2_im (by omega))).tr (x2.up (Pa2_im (by omega)))).tr ((y2.up (Pa2_im (by omega))).tr (ch.tr (b := cpI M2 24 25 0 0 5) (fun o k q => by
    refine ⟨?_, rfl, rfl⟩
    rw [gI_cpI, if_neg]
    intro z
    subst z
    cases q) (ch.sI rfl)))
  have f24 : ∀ k, gI (sI (cpI M2 24 25 0 0 5) 23 8 1) 24 k = gI m 24 k := fun k => cc.I rfl
  have f25 : ∀ k, k < 5 → gI (sI (cpI M2 24 25 0 0 5) 23 8 1) 25 k = gI m 24 k := fun k hk => by
    rw [gI_o (by omega), led_cp k hk, y2.I rfl, x2.I rfl, c0.I rfl]
  have f26 : ∀ k, k < s → gI (sI (cpI M2 24 25 0 0 5) 23 8 1) 26 k = gI m 12 k ∧ gI (sI (cpI M2 24 25 0 0 5) 23 8 1) 27 k = gI m 13 k := fun k hk => by
    have := x3 k hk
    rw [if_pos (Nat.zero_le _), if_pos (Nat.zero_le _), (e12 k).1, (e12 k).2] at this
    rw [gI_o (by omega), gI_o (by omega), gI_cpI, if_neg (by omega), gI_cpI, if_neg (by omega), y2.I rfl, y2.I rfl]
    exact this
  have f28 : ∀ k, k < b → gI (sI (cpI M2 24 25 0 0 5) 23 8 1) 28 k = gI m 9 k := fun k hk => by
    rw [gI_o (by omega), gI_cpI, if_neg (by omega), y3 k hk, if_pos (Nat.zero_le _), x2.I rfl, c0.I rfl]
  have f23 : gI (sI (cpI M2 24 25 0 0 5) 23 8 1) 23 6 = nI s ∧ gI (sI (cpI M2 24 25 0 0 5) 23 8 1) 23 7 = nI b ∧ gI (sI (cpI M2 24 25 0 0 5) 23 8 1) 23 8 = 1 := by
    refine ⟨?_, ?_, by rw [gI_at, if_pos rfl]⟩
    · rw [gI_at, if_neg (by omega), gI_cpI, if_neg (by omega), y2.I rfl, x2.I rfl]; exact q6
    · rw [gI_at, if_neg (by omega), gI_cpI, if_neg (by omega), y2.I rfl, x2.I rfl]; exact q7
  have fo : ∀ o k, Pim o k = false → gI (sI (cpI M2 24 25 0 0 5) 23 8 1) o k = gI m o k := fun o k q => cc.I q
  have z0 : inB 0 5 := by decide
  unfold dX3_line
  simp only []
  rw [if_pos z0, Option.bind_some]
  refine ⟨gI m 24 0, sI (cpI M2 24 25 0 0 5) 23 8 1, ?_⟩
  have f24' : gI (sI (cpI M2 24 25 0 0 5) 23 8 1) 24 (0 : Int32).toNatClampNeg = gI m 24 0 := f24 0
  rw [f24']
  generalize sI (cpI M2 24 25 0 0 5) 23 8 1 = m1 at cc f24 f25 f26 f28 f23 fo
  have b1 : ∀ x, gI (sI m1 58 25 x) 58 6 = nI s := fun x => by rw [gI_at, if_neg (by omega), fo _ _ rfl]; exact a3
  have b2 : ∀ x y, gI (sI (sI m1 58 25 x) 58 26 y) 58 7 = nI b := fun x y => by rw [gI_at, if_neg (by omega), gI_at, if_neg (by omega), fo _ _ rfl]; exact a4
  rw [b1, b2]
  have d0 : ch Pim m1 (sI (sI (sI m1 58 25 1) 58 26 (nI s)) 58 27 (nI b)) := ((ch.sI rfl).tr (ch.sI rfl)).tr (ch.sI rfl)
  have g25 : gI (sI (sI (sI m1 58 25 1) 58 26 (nI s)) 58 27 (nI b)) 58 25 = 1 ∧ gI (sI (sI (sI m1 58 25 1) 58 26 (nI s)) 58 27 (nI b)) 58 26 = nI s ∧ gI (sI (sI (sI m1 58 25 1) 58 26 (nI s)) 58 27 (nI b)) 58 27 = nI b := by
    refine ⟨?_, ?_, ?_⟩
    · rw [gI_at, if_neg (by omega), gI_at, if_neg (by omega), gI_at, if_pos rfl]
    · rw [gI_at, if_neg (by omega), gI_at, if_pos rfl]
    · rw [gI_at, if_pos rfl]
  have g0 : ∀ o k, ¬ o = 58 → gI (sI (sI (sI m1 58 25 1) 58 26 (nI s)) 58 27 (nI b)) o k = gI m1 o k := fun o k q => by rw [gI_o q, gI_o q, gI_o q]
  have g58 : ∀ k, k < 25 → gI (sI (sI (sI m1 58 25 1) 58 26 (nI s)) 58 27 (nI b)) 58 k = gI m 58 k := fun k hk => by
    rw [gI_at, if_neg (by omega), gI_at, if_neg (by omega), gI_at, if_neg (by omega), fo _ _ (by unfold Pim; simp; omega)]
  generalize sI (sI (sI m1 58 25 1) 58 26 (nI s)) 58 27 (nI b) = N0 at d0 g25 g0 g58
  obtain ⟨N1, u1, u2, u3⟩ := img_1m FU s 0 N0 (by omega) (by unfold FU; omega) s10 (by rw [g58 6 (by omega)]; exact a3) (fun k hk => by
    rw [g0 64 _ (by omega), fo _ _ rfl]
    have := (JT.2.2.1 k hk).2.2.2
    rw [this.1]; exact this.2)
  obtain ⟨N2, w1, w2, w3⟩ := img_2m FU b 0 N1 (by omega) (by unfold FU; omega) b6 (by rw [u2.I rfl, g58 7 (by omega)]; exact a4)
  obtain ⟨N3, p1, p2, p3⟩ := img_3m FU 5 0 N2 (by omega) (by unfold FU; omega)
  rw [nI_0] at u1 w1 p1
  have c2 : ch Pim m N3 := cc.tr (d0.tr ((u2.up (Pa2_im (by omega))).tr ((w2.up (Pa2_im (by omega))).tr (p2.up (Pa2_im (by omega))))))
  have cR : ∀ o k, ¬ o = 58 → ¬ (73 ≤ o ∧ o ≤ 76) → gI N3 o k = gI m1 o k := fun o k q1 q2 => by
    rw [p2.I (by unfold Pa2; simp; omega), w2.I (by unfold Pa2; simp; omega), u2.I (by unfold Pa2; simp; omega), g0 o k q1]
  have c58 : ∀ k, gI N3 58 k = gI N0 58 k := fun k => by rw [p2.I rfl, w2.I rfl, u2.I rfl]
  refine ⟨N3, rfl, ?_, s, b, kn, n, t, lv, K_fr J.1 c2 oIm_T oIm_L oIm_H, ⟨Jp_fr J.2.1.1 c2 oIm_P, Jr_fr J.2.1.2 c2 oIm_P⟩, Jc_fr J.2.2.1 c2 oIm_C, ⟨fun k hk => ?_, Or.inr ⟨?_, ?_, s, b, Nat.le_refl _, Nat.le_refl _, ?_, ?_, ?_, ?_, fun k hk => ?_, fun k hk => ?_, fun k hk => ?_⟩⟩, Jn_fr J.2.2.2.2 c2 oIm_N⟩
  · rw [u1, w1, p1, w2.I rfl, u2.I rfl, g0 72 _ (by omega), fo _ _ rfl, hled 0 (by omega)]
  · rw [c2.I rfl, c2.I rfl]; exact hled k hk
  · rw [cR 23 8 (by omega) (by omega)]; exact f23.2.2
  · rw [c58]; exact g25.1
  · rw [cR 23 6 (by omega) (by omega)]; exact f23.1
  · rw [c58]; exact g25.2.1
  · rw [cR 23 7 (by omega) (by omega)]; exact f23.2.1
  · rw [c58]; exact g25.2.2
  · have jk := (JT.2.2.1 k hk).2.2
    have uu := u3 k hk
    rw [if_pos (Nat.zero_le _), if_pos (Nat.zero_le _)] at uu
    have h73 : gI N3 73 k = gI m 63 k := by rw [p2.I rfl, w2.I rfl, uu.1, g0 63 _ (by omega), fo 63 _ rfl]
    have h74 : gI N3 74 k = gI m 64 k := by rw [p2.I rfl, w2.I rfl, uu.2, g0 64 _ (by omega), fo 64 _ rfl]
    rw [h73, h74, cR 26 k (by omega) (by omega), cR 27 k (by omega) (by omega), (f26 k hk).1, (f26 k hk).2]
    exact ⟨jk.1.1, jk.1.2.1, jk.1.2.2, jk.2.1, jk.2.2⟩
  · have jb := (JT.2.2.2.2 k hk).1
    rw [p2.I rfl, w3 k hk, if_pos (Nat.zero_le _), u2.I rfl, g0 59 _ (by omega), fo 59 _ rfl, cR 28 k (by omega) (by omega), f28 k hk]
    exact jb
  · rw [p3 k hk, if_pos (Nat.zero_le _), w2.I rfl, u2.I rfl, g0 72 _ (by omega), fo 72 _ rfl, cR 25 k (by omega) (by omega), f25 k hk]
    exact hled k hk
end IMAGE
