/-! ===== dealt: the class's machine ===== -/
section DEALF
variable {m : Mm} {s b kn n : Nat} {t : Nat → Nat} {lv : Option LF} {v1 v2 v3 v4 : Int32} {O g w : Nat → Int}
theorem lMax_i {x y : Int64} : (lMax x y).toInt = mxI x.toInt y.toInt := by
  unfold lMax mxI
  by_cases h : y < x
  · have := toL_lt.mp h
    rw [if_pos h, if_neg (by omega)]
  · have : ¬ y.toInt < x.toInt := fun q => h (toL_lt.mpr q)
    rw [if_neg h]
    by_cases q : x.toInt < y.toInt
    · rw [if_pos q]
    · rw [if_neg q]; omega
theorem tbP : ∀ j : Fin 6, (tbPLACES j.val).toInt = pwB j.val := by decide
theorem pwB_le (j : Nat) : 1 ≤ pwB j ∧ pwB j ≤ 161051 := by
  have := pwB_pos j
  refine ⟨by omega, ?_⟩
  rcases (by omega : j = 0 ∨ j = 1 ∨ j = 2 ∨ j = 3 ∨ j = 4 ∨ 5 ≤ j) with e | e | e | e | e | e
  · subst e; decide
  · subst e; decide
  · subst e; decide
  · subst e; decide
  · subst e; decide
  · unfold pwB; rw [show 5 - j = 0 by omega]; decide
theorem stB_no {sv : Nat} : ∀ f b D, D sv = -1 → stB g w sv f b D = D
  | 0, _, _, _ => rfl
  | f + 1, b, D, h => by
    show stB g w sv f (b + 1) (if ¬ D sv = -1 ∧ btS sv b = 0 ∧ 0 ≤ g b then _ else D) = D
    rw [if_neg (fun q => q.1 h)]
    exact stB_no f (b + 1) D h
def Pd (o _k : Nat) : Bool := o == 20 || o == 21 || o == 14 || o == 53 || o == 57
theorem Pd_Sc : ∀ o k, Sc o k = false → Pd o k = false := up_of fun o k h => by unfold Pd at h; unfold Sc; simp at h ⊢; omega
theorem PW_d : ∀ o k, Pd o k = false → PW o k = false := up_of fun o k h => by unfold PW at h; unfold Pd; simp at h ⊢; omega
def tbD (M : Mm) (D : Nat → Int) : Prop := ∀ x, x < 64 → (gL M 21 x).toInt = D x
theorem sum5 {A : Int64} {G P : Int32} {d x p : Int} (hA : A.toInt = d) (hG : G.toInt = x) (hP : P.toInt = p) (a1 : -1 ≤ d) (a2 : d ≤ 20000000000) (a3 : 0 ≤ x) (a4 : x ≤ 999) (a5 : 0 ≤ p) (a6 : p ≤ 1610510) : (A + G.toInt64 * 1771561 + P.toInt64).toInt = d + x * 1771561 + p := by
  have zM : (1771561 : Int64).toInt = 1771561 := rfl
  have s3 : (G.toInt64 * 1771561).toInt = x * 1771561 := by
    rw [lMul (by rw [i64, hG, zM]; omega) (by rw [i64, hG, zM]; omega), i64, hG, zM]
  have s4 : (A + G.toInt64 * 1771561).toInt = d + x * 1771561 := by
    rw [lAdd (by rw [s3, hA]; omega) (by rw [s3, hA]; omega), s3, hA]
  have s5 : P.toInt64.toInt = p := by rw [i64, hP]
  rw [lAdd (by rw [s4, s5]; omega) (by rw [s4, s5]; omega), s4, s5]
theorem dlx_1 (J : Jt m s b) {k54 : Int32 → Int32 → Mm → Option (Unit × Mm)} {sv kk : Nat} (hsv : sv < 64) (hkk : kk < 10) (hw : ∀ j, j < b → w j = g j * 1771561 + (10 - (kk : Int)) * pwB j) : ∀ (N f i : Nat) (M : Mm) (D : Nat → Int), i + f = b → f < N → ch Pd m M → (∀ j, j < b → (gI M 20 j).toInt = g j ∧ -99 ≤ g j ∧ g j ≤ 999) → tbD M D → -1 ≤ D sv → D sv ≤ 20000000000 → ∃ M2, DX2_dealOne_61 k54 N (nI kk) (nI sv) (nI i) M = k54 (nI kk) (nI sv + (-1)) M2 ∧ ch Pd m M2 ∧ tbD M2 (stB g w sv f i D) ∧ ∀ j, gI M2 20 j = gI M 20 j := by
  have b6 := J.1.b6
  intro N
  induction N with
  | zero => intro f i M D h1 h2; omega
  | succ N ih =>
    intro f i M D h1 h2 c h20 hD d1 d2
    show ∃ M2, BX2_dealOne_61 k54 (DX2_dealOne_61 k54 N) (nI kk) (nI sv) (nI i) M = _ ∧ _
    unfold BX2_dealOne_61 DX2_dealOne_172 DX2_dealOne_166
    rw [show gI M 1 3 = nI b by rw [c.I rfl]; exact J.1.2.2.2.1]
    cases f with
    | zero =>
      have e : i = b := by omega
      subst e
      rw [if_pos (Int32.le_refl _)]
      exact ⟨M, rfl, c, hD, fun _ => rfl⟩
    | succ f =>
      have hib : i < b := by omega
      have isv : inB (nI sv) 64 := inB_nI hsv (by omega)
      have hDs := hD sv hsv
      rw [if_neg (nI_ge hib (by omega))]
      simp only [if_pos isv, nI_clamp (show sv < 2 ^ 31 by omega), nI_clamp (show i < 2 ^ 31 by omega)]
      by_cases q1 : D sv = -1
      · have e1 : gL M 21 sv = -1 := toL_eq.mpr (by rw [hDs, q1]; rfl)
        rw [if_pos e1, stB_no _ _ _ q1]
        exact ⟨M, rfl, c, hD, fun _ => rfl⟩
      · have e1 : ¬ gL M 21 sv = -1 := fun z => q1 (by rw [← hDs, z]; rfl)
        rw [if_neg e1, sh_l (by omega) (by omega), nI_1]
        have skip : ¬ (btS sv i = 0 ∧ 0 ≤ g i) → ∃ M2, DX2_dealOne_61 k54 N (nI kk) (nI sv) (nI (i + 1)) M = k54 (nI kk) (nI sv + (-1)) M2 ∧ ch Pd m M2 ∧ tbD M2 (stB g w sv (f + 1) i D) ∧ ∀ j, gI M2 20 j = gI M 20 j := fun q => by
          have e : stB g w sv (f + 1) i D = stB g w sv f (i + 1) D := by
            show stB g w sv f (i + 1) (if ¬ D sv = -1 ∧ btS sv i = 0 ∧ 0 ≤ g i then _ else D) = _
            rw [if_neg (fun z => q z.2)]
          rw [e]
          exact ih f (i + 1) M D (by omega) (by omega) c h20 hD d1 d2
        by_cases q2 : btS sv i = 0
        · have q2' : sv / 2 ^ i % 2 = 0 := q2
          rw [q2', if_pos (show nI 0 = 0 from rfl)]
          simp only [if_pos (inB_nI (show i < 10 by omega) (by omega))]
          have hg := h20 i hib
          by_cases q3 : 0 ≤ g i
          · have up := btS_up (n := 6) q2 (by omega) (by omega)
            rw [if_neg (fun z => by have := toI_lt.mp z; rw [hg.1] at this; exact absurd this (by have : (0 : Int32).toInt = 0 := rfl; omega))]
            simp only [or_l (show sv < 1024 by omega) (show i < 10 by omega) q2', if_pos (inB_nI (show i < 6 by omega) (by omega)), if_pos (inB_nI (show sv + 2 ^ i < 64 by omega) (by omega)), nI_clamp (show sv + 2 ^ i < 2 ^ 31 by omega)]
            have e : stB g w sv (f + 1) i D = stB g w sv f (i + 1) (upD D (sv + 2 ^ i) (mxI (D (sv + 2 ^ i)) (D sv + w i))) := by
              show stB g w sv f (i + 1) (if ¬ D sv = -1 ∧ btS sv i = 0 ∧ 0 ≤ g i then _ else D) = _
              rw [if_pos ⟨q1, q2, q3⟩]
            rw [e]
            have p2 : 0 < 2 ^ i := Nat.pow_pos (by omega)
            have tb : (tbPLACES i).toInt = pwB i := tbP ⟨i, by omega⟩
            have pl := pwB_le i
            have z10 : (10 : Int32).toInt = 10 := rfl
            have ekk : (nI kk).toInt = kk := nI_toInt (by omega)
            have s1 : ((10 : Int32) - nI kk).toInt = 10 - kk := by rw [iSub (by rw [z10, ekk]; omega) (by rw [z10, ekk]; omega), z10, ekk]
            have t1 : 0 ≤ (10 - (kk : Int)) * pwB i := Int.mul_nonneg (by omega) (by omega)
            have t2 : (10 - (kk : Int)) * pwB i ≤ 10 * pwB i := Int.mul_le_mul_of_nonneg_right (by omega) (by omega)
            have s2 : (((10 : Int32) - nI kk) * tbPLACES i).toInt = (10 - (kk : Int)) * pwB i := by
              rw [iMul (by rw [s1, tb]; omega) (by rw [s1, tb]; omega), s1, tb]
            have s5 : (gL M 21 sv + Int32.toInt64 (gI M 20 i) * 1771561 + Int32.toInt64 ((10 - nI kk) * tbPLACES i)).toInt = D sv + w i := by
              rw [sum5 hDs hg.1 s2 d1 d2 q3 hg.2.2 t1 (by omega), hw i hib, Int.add_assoc]
            generalize gL M 21 sv + Int32.toInt64 (gI M 20 i) * 1771561 + Int32.toInt64 ((10 - nI kk) * tbPLACES i) = X at s5
            have nsv : ¬ sv = sv + 2 ^ i := by omega
            have eu : upD D (sv + 2 ^ i) (mxI (D (sv + 2 ^ i)) (D sv + w i)) sv = D sv := by unfold upD; rw [if_neg nsv]
            refine ih f (i + 1) _ (upD D (sv + 2 ^ i) (mxI (D (sv + 2 ^ i)) (D sv + w i))) (by omega) (by omega) (c.tr (ch.sL rfl)) h20 (fun x hx => ?_) (by rw [eu]; exact d1) (by rw [eu]; exact d2)
            rw [gL_sL]
            unfold upD
            by_cases ex : x = sv + 2 ^ i
            · rw [if_pos ⟨rfl, ex⟩, if_pos ex, lMax_i, s5, hD _ (by omega)]
            · rw [if_neg (fun z => ex z.2), if_neg ex]; exact hD x hx
          · rw [if_pos (toI_lt.mpr (by rw [hg.1]; have : (0 : Int32).toInt = 0 := rfl; omega))]
            exact skip (fun z => q3 z.2)
        · have hb1 : sv / 2 ^ i % 2 = 1 := by
            have h1 : ¬ sv / 2 ^ i % 2 = 0 := q2
            have h2 : sv / 2 ^ i % 2 < 2 := Nat.mod_lt _ (by omega)
            generalize sv / 2 ^ i % 2 = z at h1 h2 ⊢
            omega
          rw [hb1, if_neg (show ¬ nI 1 = 0 by decide)]
          exact skip (fun z => q2 z.1)
theorem dlx_2 (J : Jt m s b) {kk : Nat} (hkk : kk < 10) (hw : ∀ j, j < b → w j = g j * 1771561 + (10 - (kk : Int)) * pwB j) (hO : ∀ x, x < 64 → -1 ≤ O x ∧ O x ≤ 20000000000) : ∀ (N n : Nat) (M : Mm) (D : Nat → Int), n ≤ 64 → n < N → ch Pd m M → (∀ j, j < b → (gI M 20 j).toInt = g j ∧ -99 ≤ g j ∧ g j ≤ 999) → tbD M D → (∀ x, x < n → D x = O x) → ∃ M2, DX2_dealOne_54 N (nI kk) (nI n + (-1)) M = some ((), M2) ∧ ch Pd m M2 ∧ tbD M2 (stS g w b n D) := by
  intro N
  induction N with
  | zero => intro n M D h1 h2; omega
  | succ N ih =>
    intro n M D h1 h2 c h20 hD hDO
    show ∃ M2, BX2_dealOne_54 (DX2_dealOne_54 N) (nI kk) (nI n + (-1)) M = _ ∧ _
    unfold BX2_dealOne_54
    cases n with
    | zero =>
      rw [if_pos (show nI 0 + (-1) < 0 by decide)]
      exact ⟨M, rfl, c, hD⟩
    | succ n =>
      have en : nI (n + 1) + (-1) = nI n := by
        apply Int32.toInt_inj.mp
        have z1 : (-1 : Int32).toInt = -1 := rfl
        rw [iAdd (by rw [z1, nI_toInt (by omega)]; omega) (by rw [z1, nI_toInt (by omega)]; omega), z1, nI_toInt (by omega), nI_toInt (by omega)]; omega
      have o := hO n (by omega)
      have dn := hDO n (by omega)
      rw [en, if_neg (fun z => by have := toI_lt.mp z; rw [nI_toInt (by omega)] at this; exact absurd this (by have : (0 : Int32).toInt = 0 := rfl; omega))]
      obtain ⟨M1, x1, x2, x3, x4⟩ := dlx_1 (k54 := DX2_dealOne_54 N) J (sv := n) (by omega) hkk hw FU b 0 M D (by omega) (by have := J.1.b6; unfold FU; omega) c h20 hD (by omega) (by omega)
      rw [nI_0] at x1
      rw [x1]
      exact ih n M1 (stB g w n b 0 D) (by omega) (by omega) x2 (fun j hj => by rw [x4 j]; exact h20 j hj) x3 (fun x hx => by rw [(stB_p b 0 D).2.1 x (by omega)]; exact hDO x (by omega))
/-- gains without looks; what may be dealt -/
def gnD (T : Nat → Nat → Int32) (s : Nat) (lv : Option LF) (b k : Nat) : Int := (pwS T s lv b (T 5 k)).toInt - (T 5 k).toInt
def frD (T : Nat → Nat → Int32) (k : Nat) : Bool := decide ((T 9 k).toInt < 0 ∧ ¬ T 10 k = 1)
theorem gnD_r (J : Jt m s b) {bn k : Nat} (hk : k < s) : -99 ≤ gnD (TT m) s lv bn k ∧ gnD (TT m) s lv bn k ≤ 999 := by
  have h1 := pwS_r (lv := lv) J (bn := bn) (a := TT m 5 k)
  have r5 : 0 ≤ (TT m 5 k).toInt ∧ (TT m 5 k).toInt ≤ 99 := (J.2.2.1 k hk).2.1.2
  unfold gnD; omega
theorem dlx_3 (k : K m s b kn lv) {kk : Nat} (hks : kk < s) (hO : ∀ x, x < 64 → -1 ≤ O x ∧ O x ≤ 20000000000) : ∀ (N f i : Nat) (M : Mm), i + f = b → f < N → ch Pd m M → tbD M O → (∀ j, j < i → (gI M 20 j).toInt = gnD (TT m) s lv j kk) → ∃ M2, DX2_dealOne_12 N (nI kk) (TT m 5 kk) (nI i) M = some ((), M2) ∧ ch Pd m M2 ∧ tbD M2 (stS (fun b => gnD (TT m) s lv b kk) (fun b => wS (gnD (TT m) s lv) b kk) b 64 O) := by
  have s10 := k.1.1.s10
  have b6 := k.1.1.b6
  intro N
  induction N with
  | zero => intro f i M h1 h2; omega
  | succ N ih =>
    intro f i M h1 h2 c hD h20
    have cS := c.up Pd_Sc
    have KM := k.ch cS
    show ∃ M2, BX2_dealOne_12 (DX2_dealOne_12 N) (nI kk) (TT m 5 kk) (nI i) M = _ ∧ _
    unfold BX2_dealOne_12
    rw [KM.1.1.2.2.2.1]
    cases f with
    | zero =>
      have e : i = b := by omega
      subst e
      rw [if_pos (Int32.le_refl _), show (64 : Int32) - 1 = nI 64 + (-1) by decide]
      exact dlx_2 (g := fun b => gnD (TT m) s lv b kk) (w := fun b => wS (gnD (TT m) s lv) b kk) k.1 (by omega) (fun j _ => rfl) hO FU 64 M O (Nat.le_refl _) (by unfold FU; omega) c (fun j hj => ⟨h20 j hj, gnD_r k.1 hks⟩) hD (fun _ _ => rfl)
    | succ f =>
      have hib : i < b := by omega
      obtain ⟨M1, x1, x2⟩ := plain_x KM hib (a := TT m 5 kk) ch.rf
      rw [TT_Sc cS] at x1
      rw [if_neg (nI_ge hib (by omega)), x1, Option.bind_some, if_pos (inB_nI (by omega) (by omega)), nI_1]
      simp only []
      rw [nI_clamp (by omega)]
      have h1 := pwS_r (lv := lv) k.1 (bn := i) (a := TT m 5 kk)
      have r5 : 0 ≤ (TT m 5 kk).toInt ∧ (TT m 5 kk).toInt ≤ 99 := (k.1.2.2.1 kk hks).2.1.2
      refine ih f (i + 1) _ (by omega) (by omega) ((c.tr (x2.up PW_d)).tr (ch.sI rfl)) (fun x hx => by rw [gL_sI, x2.L rfl]; exact hD x hx) (fun j hj => ?_)
      rw [gI_at]
      by_cases e : j = i
      · subst e; rw [if_pos rfl, iSub (by omega) (by omega)]; rfl
      · rw [if_neg e, x2.I rfl]; exact h20 j (by omega)
theorem stS_r (k : K m s b kn lv) {kk : Nat} (hks : kk < s) {B : Int} (hO : ∀ x, x < 64 → -1 ≤ O x ∧ O x ≤ B) : ∀ x, x < 64 → -1 ≤ stS (fun b => gnD (TT m) s lv b kk) (fun b => wS (gnD (TT m) s lv) b kk) b 64 O x ∧ stS (fun b => gnD (TT m) s lv b kk) (fun b => wS (gnD (TT m) s lv) b kk) b 64 O x ≤ B + 2000000000 := by
  have s10 := k.1.1.s10
  intro x hx
  obtain ⟨i1, i2, i3⟩ := stS_p (g := fun b => gnD (TT m) s lv b kk) (w := fun b => wS (gnD (TT m) s lv) b kk) (nb := b) (O := O) 64 O (fun _ _ => rfl)
  have o := hO x hx
  refine ⟨Int.le_trans o.1 (i1 x), ?_⟩
  rcases i3 x with h | ⟨sv, j, h1, h2, h3, h4, h5, h6, h7⟩
  · rw [h]; omega
  · rw [h7]
    have o2 := hO sv h1
    have r := gnD_r (lv := lv) k.1 (bn := j) hks
    have pl := pwB_le j
    have t2 : (10 - (kk : Int)) * pwB j ≤ 10 * pwB j := Int.mul_le_mul_of_nonneg_right (by omega) (by omega)
    have : wS (gnD (TT m) s lv) j kk = gnD (TT m) s lv j kk * 1771561 + (10 - (kk : Int)) * pwB j := rfl
    show O sv + wS (gnD (TT m) s lv) j kk ≤ _
    omega
end DEALF
