/-! ===== by turns: alike on both sides ===== -/
section TURNS
variable {m : Mm} {s b kn n : Nat} {t : Nat → Nat} {lv : Option LF} {v1 v2 v3 v4 : Int32}
def sumZ (f : Nat → Int) : Nat → Int
  | 0 => 0
  | n + 1 => sumZ f n + f n
theorem sumI_z {f : Nat → Int32} : ∀ n : Nat, n ≤ 6 → (∀ g, g < n → 0 ≤ (f g).toInt ∧ (f g).toInt ≤ 999) → (sumI f n).toInt = sumZ (fun g => (f g).toInt) n ∧ 0 ≤ sumZ (fun g => (f g).toInt) n ∧ sumZ (fun g => (f g).toInt) n ≤ 999 * n
  | 0, _, _ => ⟨rfl, Int.le_refl _, Int.le_refl _⟩
  | n + 1, h, hf => by
    obtain ⟨a1, a2, a3⟩ := sumI_z n (by omega) (fun g hg => hf g (by omega))
    have hn := hf n (by omega)
    have e : sumZ (fun g => (f g).toInt) (n + 1) = sumZ (fun g => (f g).toInt) n + (f n).toInt := rfl
    refine ⟨?_, by omega, by omega⟩
    show (sumI f n + f n).toInt = _
    rw [iAdd (by omega) (by omega), a1, e]
theorem sumL_z {f : Nat → Int32} : ∀ n : Nat, n ≤ 6 → (∀ g, g < n → 0 ≤ (f g).toInt ∧ (f g).toInt ≤ 999) → (sumL (fun g => 1 * (f g).toInt64) n).toInt = sumZ (fun g => (f g).toInt) n
  | 0, _, _ => rfl
  | n + 1, h, hf => by
    have a1 := sumL_z n (by omega) (fun g hg => hf g (by omega))
    obtain ⟨-, a2, a3⟩ := sumI_z n (by omega) (fun g hg => hf g (by omega))
    have hn := hf n (by omega)
    show (sumL (fun g => 1 * (f g).toInt64) n + 1 * (f n).toInt64).toInt = sumZ (fun g => (f g).toInt) n + (f n).toInt
    have e1 : (1 * (f n).toInt64).toInt = (f n).toInt := by rw [Int64.one_mul, i64]
    rw [lAdd (by rw [a1, e1]; omega) (by rw [a1, e1]; omega), a1, e1]
/-- WORTH, cut, without looks -/
def pwS (T : Nat → Nat → Int32) (s : Nat) (lv : Option LF) (b : Nat) (a : Int32) : Int32 := sumI (fun g => worthS T s lv b g a) 6 / 6
theorem pwS_r (J : Jt m s b) {bn : Nat} {a : Int32} : (pwS (TT m) s lv bn a).toInt = sumZ (fun g => (worthS (TT m) s lv bn g a).toInt) 6 / 6 ∧ 0 ≤ (pwS (TT m) s lv bn a).toInt ∧ (pwS (TT m) s lv bn a).toInt ≤ 999 := by
  obtain ⟨a1, a2, a3⟩ := sumI_z (f := fun g => worthS (TT m) s lv bn g a) 6 (by omega) (fun g hg => worthS_r J hg)
  have e : (pwS (TT m) s lv bn a).toInt = sumZ (fun g => (worthS (TT m) s lv bn g a).toInt) 6 / 6 := by
    unfold pwS
    rw [iDiv (by rw [a1]; exact a2) (by decide), a1]; rfl
  rw [e]
  exact ⟨rfl, by omega, by omega⟩
theorem six_1 : sumL (fun _ => 1) 6 = 6 := by decide
theorem wall6 (J : Jt m s b) {bn : Nat} {a : Int32} : wallS (TT m) s lv (fun _ => 1) bn a / sumL (fun _ => 1) 6 = (pwS (TT m) s lv bn a).toInt64 := by
  obtain ⟨a1, a2, a3⟩ := sumI_z (f := fun g => worthS (TT m) s lv bn g a) 6 (by omega) (fun g hg => worthS_r J hg)
  have z := sumL_z (f := fun g => worthS (TT m) s lv bn g a) 6 (by omega) (fun g hg => worthS_r J hg)
  have hp := pwS_r (lv := lv) J (bn := bn) (a := a)
  apply Int64.toInt_inj.mp
  rw [six_1, i64, hp.1]
  unfold wallS
  rw [lDiv (by rw [z]; exact a2) (by decide), z]; rfl
theorem plain_l (k : K m s b kn lv) {bn : Nat} (hb : bn < b) {a : Int32} : ∀ (N i : Nat) (M : Mm), i ≤ 6 → 6 < i + N → ch PW m M → ∃ M2, DX7_plainWorth_5 N (nI bn) a (sumI (fun g => worthS (TT m) s lv bn g a) i) (nI i) M = some (pwS (TT m) s lv bn a, M2) ∧ ch PW m M2 := by
  intro N
  induction N with
  | zero => intro i M h1 h2; omega
  | succ N ih =>
    intro i M h1 h2 c
    show ∃ M2, BX7_plainWorth_5 (DX7_plainWorth_5 N) (nI bn) a _ (nI i) M = _ ∧ _
    unfold BX7_plainWorth_5
    by_cases h : i = 6
    · subst h
      rw [if_pos (show (6 : Int32) ≤ nI 6 by decide)]
      exact ⟨M, rfl, c⟩
    · have KM := k.ch (c.up PW_Sc)
      obtain ⟨M1, y1, y2⟩ := worthTo_x (asked := a) KM.1 KM.2.1 (bn := bn) (gn := i) hb (by omega) rfl rfl
      rw [TT_Sc (c.up PW_Sc)] at y1
      rw [if_neg (show ¬ (6 : Int32) ≤ nI i from nI_ge (b := 6) (by omega) (by omega)), y1, Option.bind_some, nI_1]
      exact ih (i + 1) M1 (by omega) (by omega) (c.tr y2)
theorem plain_x (k : K m s b kn lv) {bn : Nat} (hb : bn < b) {a : Int32} {M : Mm} (c : ch PW m M) : ∃ M2, dX7_plainWorth (nI bn) a M = some (pwS (TT m) s lv bn a, M2) ∧ ch PW m M2 := plain_l k hb FU 0 M (by omega) (by unfold FU; omega) c
/-- sold at the end; what is paid, what is gained, and both in one -/
def sdS (T : Nat → Nat → Int32) (s : Nat) (lv : Option LF) (b : Nat) (a : Int32) : Bool := decide (a.toInt ≤ (pwS T s lv b a).toInt ∧ a.toInt ≤ (T 6 b).toInt)
def payS (T : Nat → Nat → Int32) (s : Nat) (lv : Option LF) (b : Nat) (a : Int32) : Int32 := if sdS T s lv b a then a else 0
def gnS (T : Nat → Nat → Int32) (s : Nat) (lv : Option LF) (b : Nat) (a : Int32) : Int32 := if sdS T s lv b a then pwS T s lv b a - a else 0
def slS (T : Nat → Nat → Int32) (s : Nat) (lv : Option LF) (b : Nat) (a : Int32) : Int32 := if sdS T s lv b a then a * 1000 + pwS T s lv b a - a else 0
abbrev a99 (a : Int32) : Prop := 0 ≤ a.toInt ∧ a.toInt ≤ 99
theorem sl_p (J : Jt m s b) {bn : Nat} {a : Int32} (ha : a99 a) : slS (TT m) s lv bn a / 1000 = payS (TT m) s lv bn a ∧ iRem (slS (TT m) s lv bn a) 1000 = gnS (TT m) s lv bn a := by
  have hp := pwS_r (lv := lv) J (bn := bn) (a := a)
  have z1000 : (1000 : Int32).toInt = 1000 := rfl
  unfold slS payS gnS
  by_cases h : sdS (TT m) s lv bn a = true
  · have h2 := of_decide_eq_true h
    rw [if_pos h, if_pos h, if_pos h]
    generalize pwS (TT m) s lv bn a = p at hp h2
    have e1 : (a * 1000).toInt = a.toInt * 1000 := by rw [iMul (by rw [z1000]; omega) (by rw [z1000]; omega), z1000]
    have e2 : (a * 1000 + p).toInt = a.toInt * 1000 + p.toInt := by rw [iAdd (by rw [e1]; omega) (by rw [e1]; omega), e1]
    have e3 : (a * 1000 + p - a).toInt = a.toInt * 1000 + p.toInt - a.toInt := by rw [iSub (by rw [e2]; omega) (by rw [e2]; omega), e2]
    have e4 : (p - a).toInt = p.toInt - a.toInt := iSub (by omega) (by omega)
    constructor
    · apply Int32.toInt_inj.mp
      rw [iDiv (by rw [e3]; omega) (by decide), e3, z1000]; omega
    · apply Int32.toInt_inj.mp
      rw [iRem_toInt (by rw [e3]; omega) (by decide), e3, z1000, e4]; omega
  · rw [if_neg h, if_neg h, if_neg h]
    exact ⟨by decide, by decide⟩
/-- what is asked behind a turn's move -/
def mvS (t : Nat) (a : Int32) : Int32 := if t % 2 = 0 then (if a.toInt + 10 ≤ 99 then a + 10 else 99) else (if 10 ≤ a.toInt then a - 10 else 0)
theorem mvS_r {t : Nat} {a : Int32} (ha : a99 a) : a99 (mvS t a) := by
  have z10 : (10 : Int32).toInt = 10 := rfl
  unfold mvS
  by_cases h : t % 2 = 0
  · rw [if_pos h]
    by_cases h2 : a.toInt + 10 ≤ 99
    · rw [if_pos h2]
      have : (a + 10).toInt = a.toInt + 10 := by rw [iAdd (by rw [z10]; omega) (by rw [z10]; omega), z10]
      exact ⟨by omega, by omega⟩
    · rw [if_neg h2]; exact ⟨by decide, by decide⟩
  · rw [if_neg h]
    by_cases h2 : 10 ≤ a.toInt
    · rw [if_pos h2]
      have : (a - 10).toInt = a.toInt - 10 := by rw [iSub (by rw [z10]; omega) (by rw [z10]; omega), z10]
      exact ⟨by omega, by omega⟩
    · rw [if_neg h2]; exact ⟨by decide, by decide⟩
/-- what is asked at the end -/
def agS (T : Nat → Nat → Int32) (s : Nat) (lv : Option LF) (b : Nat) : Nat → Nat → Int32 → Int32
  | 0, _, a => a
  | f + 1, t, a =>
    if t % 2 = 0 then
      (if (payS T s lv b (agS T s lv b f (t + 1) (mvS t a))).toInt ≤ (payS T s lv b (agS T s lv b f (t + 1) a)).toInt then agS T s lv b f (t + 1) a else agS T s lv b f (t + 1) (mvS t a))
    else
      (if (gnS T s lv b (agS T s lv b f (t + 1) (mvS t a))).toInt ≤ (gnS T s lv b (agS T s lv b f (t + 1) a)).toInt then agS T s lv b f (t + 1) a else agS T s lv b f (t + 1) (mvS t a))
theorem agS_r {T : Nat → Nat → Int32} {bn : Nat} : ∀ (f t : Nat) (a : Int32), a99 a → a99 (agS T s lv bn f t a)
  | 0, _, _, h => h
  | f + 1, t, a, h => by
    unfold agS
    repeat' split
    all_goals first | exact agS_r f (t + 1) a h | exact agS_r f (t + 1) _ (mvS_r h)
theorem sale_x (k : K m s b kn lv) {bn : Nat} (hb : bn < b) {a : Int32} {M : Mm} (c : ch PW m M) : ∃ M2, dX2_sale (nI bn) a M = some (slS (TT m) s lv bn a, M2) ∧ ch PW m M2 := by
  have b6 := k.1.1.b6
  obtain ⟨M1, y1, y2⟩ := plain_x k hb (a := a) c
  have KM := k.ch (y2.up PW_Sc)
  have e6 : gI M1 9 bn = TT m 6 bn := by rw [← TT_Sc (y2.up PW_Sc)]; rfl
  have eb : (nI bn).toInt = bn := nI_toInt (by omega)
  unfold dX2_sale DX2_sale_41 slS sdS
  rw [y1, Option.bind_some]
  refine ⟨M1, ?_, y2⟩
  simp only [toI_lt, decide_eq_true_eq]
  by_cases h1 : (pwS (TT m) s lv bn a).toInt < a.toInt
  · rw [if_pos h1, if_neg (by omega)]
  · rw [if_neg h1, told_x KM.1.1 (wn := 6) (by simp) eb (by unfold hd; omega), Option.bind_some]
    dsimp only [Nat.reduceAdd]
    rw [e6]
    by_cases h2 : (TT m 6 bn).toInt < a.toInt
    · rw [if_pos h2, if_neg (by omega)]
    · rw [if_neg h2, if_pos (by omega)]
theorem moved_x {a : Int32} (ha : a99 a) {t : Nat} {M : Mm} : dX2_moved a (if t % 2 = 0 then 1 else 0) M = some (mvS t a, M) := by
  have z10 : (10 : Int32).toInt = 10 := rfl
  have z0 : (0 : Int32).toInt = 0 := rfl
  have z99 : (tbMOST (Int32.toNatClampNeg 5)).toInt = 99 := rfl
  have e99 : tbMOST (Int32.toNatClampNeg 5) = 99 := rfl
  have e1 : (a + 10).toInt = a.toInt + 10 := by rw [iAdd (by rw [z10]; omega) (by rw [z10]; omega), z10]
  have e2 : (a - 10).toInt = a.toInt - 10 := by rw [iSub (by rw [z10]; omega) (by rw [z10]; omega), z10]
  unfold dX2_moved mvS iMax iMin
  by_cases h : t % 2 = 0
  · rw [if_pos h, if_pos h, if_neg (show ¬ (1 : Int32) = 0 by decide)]
    simp only [toI_lt, e1, z99]
    by_cases h2 : a.toInt + 10 ≤ 99
    · rw [if_pos h2]
      by_cases h3 : a.toInt + 10 < 99
      · rw [if_pos h3]
      · rw [if_neg h3]
        have : a + 10 = 99 := Int32.toInt_inj.mp (by rw [e1]; show _ = (99 : Int); omega)
        rw [this, e99]
    · rw [if_neg h2, if_neg (by omega), e99]
  · rw [if_neg h, if_neg h, if_pos rfl]
    simp only [toI_lt, e2, z0]
    by_cases h2 : 10 ≤ a.toInt
    · rw [if_pos h2]
      by_cases h3 : 0 < a.toInt - 10
      · rw [if_pos h3]
      · rw [if_neg h3]
        have : a - 10 = 0 := Int32.toInt_inj.mp (by rw [e2]; show _ = (0 : Int); omega)
        rw [this]
    · rw [if_neg h2, if_neg (by omega)]
theorem rem2 {t : Nat} (h : t < 1000) : (iRem (nI t) 2 = 0) = (t % 2 = 0) := by
  have et : (nI t).toInt = t := nI_toInt (by omega)
  have e : (iRem (nI t) 2).toInt = (t : Int) % 2 := by rw [iRem_toInt (by rw [et]; omega) (by decide), et]; rfl
  rw [toI_eq, e]
  exact propext (by have : (0 : Int32).toInt = 0 := rfl; omega)
theorem outcome_x (k : K m s b kn lv) {bn nn : Nat} (hb : bn < b) (hn : nn ≤ 4) : ∀ (f N t : Nat) (a : Int32) (M : Mm), t + f = nn → f < N → a99 a → ch PW m M → ∃ M2, dX2_outcome N (nI bn) a (nI t) (nI nn) M = some (slS (TT m) s lv bn (agS (TT m) s lv bn f t a), M2) ∧ ch PW m M2 := by
  intro f
  induction f with
  | zero =>
    intro N t a M h1 h2 ha c
    obtain ⟨N, rfl⟩ : ∃ q, N = q + 1 := ⟨N - 1, by omega⟩
    have e : t = nn := by omega
    subst e
    obtain ⟨M2, y1, y2⟩ := sale_x k hb (a := a) c
    refine ⟨M2, ?_, y2⟩
    show bX2_outcome (gX2_outcome N) _ _ _ _ M = _
    unfold bX2_outcome DX2_outcome_11
    rw [if_pos (Int32.le_refl _), y1, Option.bind_some]; rfl
  | succ f ih =>
    intro N t a M h1 h2 ha c
    obtain ⟨N, rfl⟩ : ∃ q, N = q + 1 := ⟨N - 1, by omega⟩
    obtain ⟨M1, y1, y2⟩ := ih N (t + 1) a M (by omega) (by omega) ha c
    obtain ⟨M2, w1, w2⟩ := ih N (t + 1) (mvS t a) M1 (by omega) (by omega) (mvS_r ha) y2
    have r1 := agS_r (s := s) (lv := lv) (T := TT m) (bn := bn) f (t + 1) a ha
    have r2 := agS_r (s := s) (lv := lv) (T := TT m) (bn := bn) f (t + 1) (mvS t a) (mvS_r ha)
    have p1 := sl_p (lv := lv) k.1 (bn := bn) r1
    have p2 := sl_p (lv := lv) k.1 (bn := bn) r2
    refine ⟨M2, ?_, w2⟩
    show bX2_outcome (dX2_outcome N) _ _ _ _ M = _
    unfold bX2_outcome
    have e29 : ∀ x : Int32, x = (if t % 2 = 0 then 1 else 0) → DX2_outcome_29 (dX2_outcome N) (nI bn) a (nI t) (nI nn) x M = some (slS (TT m) s lv bn (agS (TT m) s lv bn (f + 1) t a), M2) := by
      intro x hx
      subst hx
      unfold DX2_outcome_29 DX2_outcome_106 dX2_gained dX2_paid agS
      rw [nI_1, y1, Option.bind_some]
      simp only []
      rw [moved_x ha, Option.bind_some]
      simp only []
      rw [w1, Option.bind_some]
      simp only [Option.bind_some, p1.1, p1.2, p2.1, p2.2, toI_le]
      by_cases h : t % 2 = 0
      · rw [if_pos h, if_pos h, if_neg (show ¬ (1 : Int32) = 0 by decide)]
        split
        · rw [if_pos trivial]
        · rw [if_neg (show ¬ (1 : Int32) = 0 by decide)]
      · rw [if_neg h, if_neg h, if_pos rfl]
        split
        · rw [if_pos trivial]
        · rw [if_neg (show ¬ (1 : Int32) = 0 by decide)]
    rw [if_neg (nI_ge (by omega) (by omega)), if_pos (show nI t < 4 from nI_lt (b := 4) (by omega) (by omega))]
    simp only [rem2 (show t < 1000 by omega)]
    by_cases h : t % 2 = 0
    · rw [if_pos h]; exact e29 1 (by rw [if_pos h])
    · rw [if_neg h]; exact e29 0 (by rw [if_neg h])
def Pbt (o k : Nat) : Bool := o == 68 || o == 67 || (o == 58 && (decide (14 ≤ k) && decide (k ≤ 18)))
theorem Pbt_Sc : ∀ o k, Sc o k = false → Pbt o k = false := up_of fun o k h => by unfold Pbt at h; unfold Sc; simp at h ⊢; omega
theorem bt_w : ∀ o k, Pbt o k = false → PWr o k = false := up_of fun o k h => by unfold PWr at h; unfold Pbt; simp at h ⊢; omega
theorem bt_8 : ∀ o k, Pbt o k = false → P1 68 o k = false := up_of fun o k h => by unfold P1 at h; unfold Pbt; simp at h ⊢; omega
theorem paidAt_m (k : K m s b kn lv) {bn sk : Nat} (hb : bn < b) (hk : sk < s) (ho : ¬ TT m 10 sk = 1) {a : Int32} {M : Mm} (c : ch Pbt m M) : ∃ M2, dX10_paidAt (nI bn) (nI sk) a M = some (if sdS (TT m) s lv bn a then a else -1, M2) ∧ ch Pbt m M2 ∧ WtAt 68 M2 (fun _ => 1) := by
  have b6 := k.1.1.b6
  have KM := k.ch (c.up Pbt_Sc)
  have eT := TT_Sc (c.up Pbt_Sc)
  obtain ⟨M1, x1, x2, x3⟩ := weighs_n KM.1 hb hk (by rw [eT]; exact ho)
  have c1 := c.tr (x2.up bt_8)
  have KM1 := k.ch (c1.up Pbt_Sc)
  obtain ⟨M2, y1, y2⟩ := worthAll_m KM1.1 KM1.2.2.1 (v2 := nI sk) hb x3 (asked := a)
  rw [TT_Sc (c1.up Pbt_Sc)] at y1
  have c2 := c1.tr (y2.up bt_w)
  have w2 := x3.ch y2 (fun _ => rfl)
  have e44 : (44 : Int32) + nI bn = nI (44 + bn) := by rw [show (44 : Int32) = nI 44 from rfl, nI_add]
  have g44 : gI M2 59 (44 + bn) = TT m 6 bn := by rw [c2.I rfl]; exact (k.1.2.2.2.2 bn hb).1.1
  unfold dX10_paidAt DX10_paidAt_46 sdS
  rw [x1, Option.bind_some]
  simp only []
  rw [y1, Option.bind_some]
  simp only []
  rw [weightAll_m w2, Option.bind_some]
  refine ⟨M2, ?_, c2, w2⟩
  have n0 : ¬ sumL (fun _ => (1 : Int64)) 6 = 0 := by decide
  simp only [if_neg n0, wall6 k.1, e44, if_pos (inB_nI (show 44 + bn < 62 by omega) (by omega)), nI_clamp (show 44 + bn < 2 ^ 31 by omega), g44, toL_lt, i64, toI_lt, decide_eq_true_eq]
  by_cases h1 : (pwS (TT m) s lv bn a).toInt < a.toInt
  · rw [if_pos h1, if_neg (by omega)]
  · rw [if_neg h1]
    by_cases h2 : (TT m 6 bn).toInt < a.toInt
    · rw [if_pos h2, if_neg (by omega)]
    · rw [if_neg h2, if_pos (by omega)]
theorem hasOf_m (k : K m s b kn lv) {bn sk t : Nat} (hb : bn < b) (hk : sk < s) (ho : ¬ TT m 10 sk = 1) (ht : t < 1000) {a : Int32} (ha : a99 a) {M : Mm} (c : ch Pbt m M) : ∃ M2, dX10_hasOf (nI bn) (nI sk) (nI t) a M = some ((if t % 2 = 0 then payS (TT m) s lv bn a else gnS (TT m) s lv bn a).toInt64, M2) ∧ ch Pbt m M2 := by
  obtain ⟨M1, x1, x2, x3⟩ := paidAt_m k hb hk ho (a := a) c
  have z0 : (0 : Int32).toInt = 0 := rfl
  have hp := pwS_r (lv := lv) k.1 (bn := bn) (a := a)
  unfold dX10_hasOf payS gnS
  rw [x1, Option.bind_some]
  simp only [rem2 ht]
  by_cases hs : sdS (TT m) s lv bn a = true
  · rw [if_pos hs, if_pos hs, if_pos hs]
    have p0 : 0 ≤ a := by rw [toI_le, z0]; exact ha.1
    by_cases h : t % 2 = 0
    · rw [if_pos h, if_pos h, if_pos p0]; exact ⟨M1, rfl, x2⟩
    · have KM1 := k.ch (x2.up Pbt_Sc)
      obtain ⟨M2, y1, y2⟩ := worthAll_m KM1.1 KM1.2.2.1 (v2 := nI sk) hb x3 (asked := a)
      rw [TT_Sc (x2.up Pbt_Sc)] at y1
      have w2 := x3.ch y2 (fun _ => rfl)
      rw [if_neg h, if_neg h, if_pos p0, y1, Option.bind_some]
      simp only []
      rw [weightAll_m w2, Option.bind_some]
      have n0 : ¬ sumL (fun _ => (1 : Int64)) 6 = 0 := by decide
      refine ⟨M2, ?_, x2.tr (y2.up bt_w)⟩
      simp only [if_neg n0, wall6 k.1]
      have e : (pwS (TT m) s lv bn a).toInt64 - a.toInt64 = (pwS (TT m) s lv bn a - a).toInt64 := by
        apply Int64.toInt_inj.mp
        rw [i64, lSub (by rw [i64, i64]; omega) (by rw [i64, i64]; omega), i64, i64, iSub (by omega) (by omega)]
      rw [e]
  · rw [if_neg hs, if_neg hs, if_neg hs]
    have p0 : ¬ (0 : Int32) ≤ -1 := by decide
    by_cases h : t % 2 = 0
    · rw [if_pos h, if_pos h, if_neg p0]; exact ⟨M1, rfl, x2⟩
    · rw [if_neg h, if_neg h, if_neg p0]; exact ⟨M1, rfl, x2⟩
theorem movedBy_m {a : Int32} (ha : a99 a) {t : Nat} (ht : t < 1000) {M : Mm} : dX10_movedBy (nI t) a M = some (mvS t a, M) := by
  have z10 : (10 : Int32).toInt = 10 := rfl
  have z99 : (99 : Int32).toInt = 99 := rfl
  have e1 : (a + 10).toInt = a.toInt + 10 := by rw [iAdd (by rw [z10]; omega) (by rw [z10]; omega), z10]
  unfold dX10_movedBy mvS
  simp only [rem2 ht, toI_le, e1, z99, z10]
  repeat' split
  all_goals rfl
theorem asked_l (k : K m s b kn lv) {bn sk nn : Nat} (hb : bn < b) (hk : sk < s) (ho : ¬ TT m 10 sk = 1) (hn : nn ≤ 4) : ∀ (f N t : Nat) (a : Int32) (M : Mm), t + f = nn → f < N → a99 a → ch Pbt m M → ∃ M2, dX10_askedFrom N (nI bn) (nI sk) (nI t) (nI nn) a M = some (agS (TT m) s lv bn f t a, M2) ∧ ch Pbt m M2 := by
  intro f
  induction f with
  | zero =>
    intro N t a M h1 h2 ha c
    obtain ⟨N, rfl⟩ : ∃ q, N = q + 1 := ⟨N - 1, by omega⟩
    have e : t = nn := by omega
    subst e
    refine ⟨M, ?_, c⟩
    show bX10_askedFrom (gX10_askedFrom N) _ _ _ _ _ M = _
    unfold bX10_askedFrom
    rw [if_pos rfl]; rfl
  | succ f ih =>
    intro N t a M h1 h2 ha c
    obtain ⟨N, rfl⟩ : ∃ q, N = q + 1 := ⟨N - 1, by omega⟩
    obtain ⟨M1, y1, y2⟩ := ih N (t + 1) a M (by omega) (by omega) ha c
    obtain ⟨M2, w1, w2⟩ := ih N (t + 1) (mvS t a) M1 (by omega) (by omega) (mvS_r ha) y2
    have r1 := agS_r (s := s) (lv := lv) (T := TT m) (bn := bn) f (t + 1) a ha
    have r2 := agS_r (s := s) (lv := lv) (T := TT m) (bn := bn) f (t + 1) (mvS t a) (mvS_r ha)
    obtain ⟨M3, p1, p2⟩ := hasOf_m k hb hk ho (show t < 1000 by omega) r2 w2
    obtain ⟨M4, q1, q2⟩ := hasOf_m k hb hk ho (show t < 1000 by omega) r1 p2
    refine ⟨M4, ?_, q2⟩
    show bX10_askedFrom (dX10_askedFrom N) _ _ _ _ _ M = _
    unfold bX10_askedFrom agS
    rw [if_neg (fun z => by have := (nI_eq (by omega) (by omega)).mp z; omega), nI_1, y1, Option.bind_some]
    simp only []
    rw [movedBy_m ha (by omega), Option.bind_some]
    simp only []
    rw [w1, Option.bind_some]
    simp only []
    rw [p1, Option.bind_some]
    simp only []
    rw [q1, Option.bind_some]
    simp only [toL_le, i64]
    by_cases h : t % 2 = 0
    · simp only [if_pos h]
      split <;> rfl
    · simp only [if_neg h]
      split <;> rfl
def btQ (mm : Mm) (s b : Nat) (lv : Option LF) (v1 v2 v3 : Int32) : Int32 := if okB s b v1 ∧ (1 ≤ v2.toInt ∧ v2.toInt ≤ 4) ∧ okP v3 then (if (TT mm 9 (sN v1)).toInt < 0 ∧ ¬ TT mm 10 (sN v1) = 1 then (if v3 = 0 then payS (TT mm) s lv (bN v1) (agS (TT mm) s lv (bN v1) v2.toInt.toNat 0 (TT mm 5 (sN v1))) else if (payS (TT mm) s lv (bN v1) (agS (TT mm) s lv (bN v1) (v2.toInt.toNat - 1) 1 (mvS 0 (TT mm 5 (sN v1))))).toInt ≤ (payS (TT mm) s lv (bN v1) (agS (TT mm) s lv (bN v1) (v2.toInt.toNat - 1) 1 (TT mm 5 (sN v1)))).toInt then 0 else 1) else -5) else -1
theorem byTurns_x (k : K m s b kn lv) : ∃ m1, dX9_byTurns v1 v2 v3 m = some (btQ m s b lv v1 v2 v3, m1) ∧ ch Sc m m1 := by
  have z1 : (1 : Int32).toInt = 1 := rfl
  have z4 : (4 : Int32).toInt = 4 := rfl
  unfold dX9_byTurns DX9_byTurns_25 btQ
  simp only [isBs_x k.1.1, isPart_x, Option.bind_some, b01_0, toI_lt, z1, z4]
  by_cases h1 : okB s b v1
  · obtain ⟨f1, f2, f3, f4⟩ := bs_n h1
    rw [if_neg (fun q => q h1)]
    by_cases h2 : 1 ≤ v2.toInt ∧ v2.toInt ≤ 4
    · rw [if_neg (by omega), if_neg (by omega)]
      by_cases h3 : okP v3
      · rw [if_neg (fun q => q h3), if_pos ⟨h1, h2, h3⟩, f2, free_x k.1 f4, Option.bind_some]
        simp only [b01_0]
        by_cases hf : (TT m 9 (sN v1)).toInt < 0 ∧ ¬ TT m 10 (sN v1) = 1
        · obtain ⟨nn, hn⟩ : ∃ q : Nat, v2.toInt = q := ⟨v2.toInt.toNat, by omega⟩
          have s10 := k.1.1.s10
          have es : (nI (sN v1)).toInt = sN v1 := nI_toInt (by omega)
          have a9 : a99 (TT m 5 (sN v1)) := (k.1.2.2.1 (sN v1) f4).2.1.2
          rw [if_neg (fun q => q hf), if_pos hf, f1, hn, Int.toNat_natCast, nI_of_toInt hn]
          unfold dX2_turnsPaid dX2_turnsRaised
          rw [told_x k.1.1 (wn := 5) (by simp) es (by unfold hd; omega), Option.bind_some, Option.bind_some]
          dsimp only [Nat.reduceAdd]
          rw [show gI m 8 (sN v1) = TT m 5 (sN v1) from rfl]
          by_cases h0 : v3 = 0
          · rw [if_pos h0, if_pos h0]
            obtain ⟨M1, y1, y2⟩ := outcome_x k f3 (show nn ≤ 4 by omega) nn 100 0 (TT m 5 (sN v1)) m (by omega) (by omega) a9 ch.rf
            rw [nI_0] at y1
            rw [y1, Option.bind_some]
            unfold dX2_paid
            simp only [Option.bind_some, (sl_p (lv := lv) k.1 (bn := bN v1) (agS_r (s := s) (lv := lv) (T := TT m) (bn := bN v1) nn 0 _ a9)).1]
            exact ⟨M1, rfl, y2.up PW_Sc⟩
          · rw [if_neg h0, if_neg h0]
            obtain ⟨M1, y1, y2⟩ := outcome_x k f3 (show nn ≤ 4 by omega) (nn - 1) 100 1 (TT m 5 (sN v1)) m (by omega) (by omega) a9 ch.rf
            obtain ⟨M2, w1, w2⟩ := outcome_x k f3 (show nn ≤ 4 by omega) (nn - 1) 100 1 (mvS 0 (TT m 5 (sN v1))) M1 (by omega) (by omega) (mvS_r a9) y2
            rw [show nI 1 = 1 from rfl] at y1 w1
            have hm := moved_x (t := 0) (M := M1) a9
            rw [if_pos rfl] at hm
            rw [y1, Option.bind_some]
            simp only []
            rw [hm, Option.bind_some]
            simp only []
            rw [w1, Option.bind_some]
            unfold dX2_paid
            simp only [Option.bind_some, (sl_p (lv := lv) k.1 (bn := bN v1) (agS_r (s := s) (lv := lv) (T := TT m) (bn := bN v1) (nn - 1) 1 _ a9)).1, (sl_p (lv := lv) k.1 (bn := bN v1) (agS_r (s := s) (lv := lv) (T := TT m) (bn := bN v1) (nn - 1) 1 _ (mvS_r (t := 0) a9))).1, toI_le]
            refine ⟨M2, ?_, w2.up PW_Sc⟩
            split <;> rfl
        · rw [if_pos hf, if_neg hf]; exact ⟨m, rfl, ch.rf⟩
      · rw [if_pos h3, if_neg (fun q => h3 q.2.2)]; exact ⟨m, rfl, ch.rf⟩
    · rw [if_neg (show ¬ (okB s b v1 ∧ (1 ≤ v2.toInt ∧ v2.toInt ≤ 4) ∧ okP v3) from fun q => h2 q.2.1)]
      refine ⟨m, ?_, ch.rf⟩
      by_cases h4 : v2.toInt < 1
      · rw [if_pos h4]
      · rw [if_neg h4, if_pos (by omega)]
  · rw [if_pos h1, if_neg (fun q => h1 q.1)]; exact ⟨m, rfl, ch.rf⟩
theorem byTurns_m (k : K m s b kn lv) : ∃ m1, dX10_byTurns v1 v2 v3 m = some (btQ m s b lv v1 v2 v3, m1) ∧ ch Sc m m1 := by
  have c0 : (0 : Int64).toInt = 0 := rfl
  have c1 : (1 : Int64).toInt = 1 := rfl
  have c4 : (4 : Int64).toInt = 4 := rfl
  have z0 : (0 : Int32).toInt = 0 := rfl
  unfold dX10_byTurns DX10_byTurns_30 btQ
  simp only [isBs_m k.1.1, within_m, i64, Option.bind_some, b01_0, c0, c1, c4]
  by_cases h1 : okB s b v1
  · obtain ⟨f1, f2, f3, f4⟩ := bs_n h1
    rw [if_neg (fun q => q h1)]
    by_cases h2 : 1 ≤ v2.toInt ∧ v2.toInt ≤ 4
    · rw [if_neg (fun q => q h2)]
      by_cases h3 : okP v3
      · rw [if_neg (fun q => q h3), if_pos ⟨h1, h2, h3⟩, f2, free_m k.1 f4, Option.bind_some]
        simp only [b01_0]
        by_cases hf : (TT m 9 (sN v1)).toInt < 0 ∧ ¬ TT m 10 (sN v1) = 1
        · obtain ⟨nn, hn⟩ : ∃ q : Nat, v2.toInt = q := ⟨v2.toInt.toNat, by omega⟩
          have s10 := k.1.1.s10
          have a9 : a99 (TT m 5 (sN v1)) := (k.1.2.2.1 (sN v1) f4).2.1.2
          have e34 : (34 : Int32) + nI (sN v1) = nI (34 + sN v1) := by rw [show (34 : Int32) = nI 34 from rfl, nI_add]
          have g34 : gI m 59 (34 + sN v1) = TT m 5 (sN v1) := (k.1.2.2.1 (sN v1) f4).2.1.1
          rw [if_neg (fun q => q hf), if_pos hf, f1, hn, Int.toNat_natCast, nI_of_toInt hn, e34, if_pos (inB_nI (by omega) (by omega)), nI_clamp (by omega), g34]
          by_cases h0 : v3 = 0
          · rw [if_pos h0, if_pos h0]
            obtain ⟨M1, y1, y2⟩ := asked_l k f3 f4 hf.2 (show nn ≤ 4 by omega) nn 100 0 (TT m 5 (sN v1)) m (by omega) (by omega) a9 ch.rf
            rw [nI_0] at y1
            have r1 := agS_r (s := s) (lv := lv) (T := TT m) (bn := bN v1) nn 0 _ a9
            obtain ⟨M2, w1, w2, -⟩ := paidAt_m k f3 f4 hf.2 (a := agS (TT m) s lv (bN v1) nn 0 (TT m 5 (sN v1))) y2
            rw [y1, Option.bind_some]
            simp only []
            rw [w1, Option.bind_some]
            refine ⟨M2, ?_, w2.up Pbt_Sc⟩
            unfold payS
            by_cases hs : sdS (TT m) s lv (bN v1) (agS (TT m) s lv (bN v1) nn 0 (TT m 5 (sN v1))) = true
            · simp only [hs, if_true]
              rw [if_pos (by rw [toI_le, z0]; exact r1.1)]
            · simp only [hs, Bool.false_eq_true, if_false]
              rw [if_neg (by decide)]
          · rw [if_neg h0, if_neg h0]
            obtain ⟨M1, y1, y2⟩ := asked_l k f3 f4 hf.2 (show nn ≤ 4 by omega) (nn - 1) 100 1 (TT m 5 (sN v1)) m (by omega) (by omega) a9 ch.rf
            obtain ⟨M2, w1, w2⟩ := asked_l k f3 f4 hf.2 (show nn ≤ 4 by omega) (nn - 1) 100 1 (mvS 0 (TT m 5 (sN v1))) M1 (by omega) (by omega) (mvS_r a9) y2
            have r1 := agS_r (s := s) (lv := lv) (T := TT m) (bn := bN v1) (nn - 1) 1 _ a9
            have r2 := agS_r (s := s) (lv := lv) (T := TT m) (bn := bN v1) (nn - 1) 1 _ (mvS_r (t := 0) a9)
            obtain ⟨M3, p1, p2⟩ := hasOf_m (t := 0) k f3 f4 hf.2 (by omega) r2 w2
            obtain ⟨M4, q1, q2⟩ := hasOf_m (t := 0) k f3 f4 hf.2 (by omega) r1 p2
            rw [show nI 1 = 1 from rfl] at y1 w1
            rw [nI_0, if_pos rfl] at p1 q1
            have hm := movedBy_m (t := 0) (M := M1) a9 (by omega)
            rw [nI_0] at hm
            rw [y1, Option.bind_some]
            simp only []
            rw [hm, Option.bind_some]
            simp only []
            rw [w1, Option.bind_some]
            simp only []
            rw [p1, Option.bind_some]
            simp only []
            rw [q1, Option.bind_some]
            simp only [toL_le, i64]
            refine ⟨M4, ?_, q2.up Pbt_Sc⟩
            split <;> rfl
        · rw [if_pos hf, if_neg hf]; exact ⟨m, rfl, ch.rf⟩
      · rw [if_pos (show ¬ (0 ≤ v3.toInt ∧ v3.toInt ≤ 1) from h3), if_neg (fun q => h3 q.2.2)]; exact ⟨m, rfl, ch.rf⟩
    · rw [if_pos h2, if_neg (fun q => h2 q.2.1)]; exact ⟨m, rfl, ch.rf⟩
  · rw [if_pos h1, if_neg (fun q => h1 q.1)]; exact ⟨m, rfl, ch.rf⟩
theorem byTurns_j (J : JA m s b kn n t lv) : Ans (dX9_byTurns v1 v2 v3) (dX10_byTurns v1 v2 v3) m := Ans_sc J (pairQ (fun _ k => byTurns_x k) (fun _ k => byTurns_m k) (fun _ _ h => by unfold btQ; rw [TT_Sc h]) J.1)
end TURNS
