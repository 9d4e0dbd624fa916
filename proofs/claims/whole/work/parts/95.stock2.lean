/-! ===== stock, both sides ===== -/
section STOCK
variable {m : Mm} {s b kn n d : Nat} {t : Nat → Nat} {lv : Option LF} {v1 v2 v3 v4 : Int32} {l : Nat → Int}
theorem LN_mul {a c : Nat} (h : a * c < 9223372036854775808) (ha : a < 9223372036854775808) (hc : c < 9223372036854775808) : LN a * LN c = LN (a * c) := by
  apply Int64.toInt_inj.mp
  have e : (LN a).toInt * (LN c).toInt = ((a * c : Nat) : Int) := by rw [LN_toInt ha, LN_toInt hc, Int.natCast_mul]
  rw [lMul (by rw [e]; omega) (by rw [e]; omega), e, LN_toInt h]
theorem nI_64 {x : Nat} (h : x < 2147483648) : (nI x).toInt64 = LN x := by
  apply Int64.toInt_inj.mp
  rw [i64, nI_toInt (by omega), LN_toInt (by omega)]
/-- bytes 0 .. 9 -/
def bkS (B : Int → Int32) : Nat → Nat → Bool
  | 0, _ => true
  | f + 1, g => decide (0 ≤ (B (g : Int)).toInt ∧ (B (g : Int)).toInt ≤ 9) && bkS B f (g + 1)
theorem bkS_get {B : Int → Int32} : ∀ f g, bkS B f g = true → ∀ j, g ≤ j → j < g + f → 0 ≤ (B (j : Int)).toInt ∧ (B (j : Int)).toInt ≤ 9
  | 0, g, _, j, h1, h2 => by omega
  | f + 1, g, h, j, h1, h2 => by
    have h' : (decide (0 ≤ (B (g : Int)).toInt ∧ (B (g : Int)).toInt ≤ 9) && bkS B f (g + 1)) = true := h
    rw [Bool.and_eq_true, decide_eq_true_eq] at h'
    by_cases e : j = g
    · subst e; exact h'.1
    · exact bkS_get f (g + 1) h'.2 j (by omega) (by omega)
/-- how many open ones hold g; how many are tied -/
def opF (T : Nat → Nat → Int32) (g : Nat) : Nat → Nat → Int
  | 0, _ => 0
  | f + 1, k => (if T 10 k = 1 ∧ T 4 k = nI g then 1 else 0) + opF T g f (k + 1)
def tdF (T : Nat → Nat → Int32) : Nat → Nat → Nat
  | 0, _ => 0
  | f + 1, k => (if T 10 k = 1 then 0 else 1) + tdF T f (k + 1)
theorem opF_r {T : Nat → Nat → Int32} {g : Nat} : ∀ f k, 0 ≤ opF T g f k ∧ opF T g f k ≤ f
  | 0, _ => ⟨Int.le_refl _, Int.le_refl _⟩
  | f + 1, k => by
    have := opF_r (T := T) (g := g) f (k + 1)
    show 0 ≤ (if T 10 k = 1 ∧ T 4 k = nI g then (1 : Int) else 0) + opF T g f (k + 1) ∧ (if T 10 k = 1 ∧ T 4 k = nI g then (1 : Int) else 0) + opF T g f (k + 1) ≤ ((f + 1 : Nat) : Int)
    split <;> omega
theorem tdF_r {T : Nat → Nat → Int32} : ∀ f k, tdF T f k ≤ f
  | 0, _ => Nat.le_refl _
  | f + 1, k => by
    have := tdF_r (T := T) f (k + 1)
    show (if T 10 k = 1 then 0 else 1) + tdF T f (k + 1) ≤ f + 1
    split <;> omega
theorem tdF_1 {T : Nat → Nat → Int32} : ∀ f k j, k ≤ j → j < k + f → ¬ T 10 j = 1 → 1 ≤ tdF T f k
  | 0, k, j, h1, h2, _ => by omega
  | f + 1, k, j, h1, h2, h3 => by
    show 1 ≤ (if T 10 k = 1 then 0 else 1) + tdF T f (k + 1)
    by_cases e : j = k
    · subst e; rw [if_neg h3]; omega
    · have := tdF_1 (T := T) f (k + 1) j (by omega) (by omega) h3
      omega
theorem opw_l (J : Jt m s b) {g : Nat} : ∀ (N f i : Nat) (c : Int32), i + f = s → f < N → 0 ≤ c.toInt ∧ c.toInt ≤ (i : Int) → ∃ w, DX7_openWith_4 N (nI g) c (nI i) m = some (w, m) ∧ w.toInt = c.toInt + opF (TT m) g f i := by
  have s10 := J.1.s10
  intro N
  induction N with
  | zero => intro f i c h1 h2; omega
  | succ N ih =>
    intro f i c h1 h2 h3
    show ∃ w, BX7_openWith_4 (DX7_openWith_4 N) (nI g) c (nI i) m = some (w, m) ∧ _
    unfold BX7_openWith_4 DX7_openWith_35 DX7_openWith_36
    rw [J.1.2.2.1]
    cases f with
    | zero =>
      have e : i = s := by omega
      subst e
      rw [if_pos (Int32.le_refl _)]
      exact ⟨c, rfl, by show _ = _ + 0; omega⟩
    | succ f =>
      have his : i < s := by omega
      have ei : (nI i).toInt = i := nI_toInt (by omega)
      have z1 : (1 : Int32).toInt = 1 := rfl
      have e1 : (c + 1).toInt = c.toInt + 1 := by rw [iAdd (by rw [z1]; omega) (by rw [z1]; omega), z1]
      rw [if_neg (nI_ge his (by omega)), isOpen_x J.1 ei his, Option.bind_some]
      simp only [b01_0, nI_1]
      rw [show gI m 13 i = TT m 10 i from rfl]
      show ∃ w : Int32, _ ∧ w.toInt = c.toInt + ((if TT m 10 i = 1 ∧ TT m 4 i = nI g then (1 : Int) else 0) + opF (TT m) g f (i + 1))
      by_cases ho : TT m 10 i = 1
      · rw [if_neg (fun z => z ho), told_x J.1 (wn := 4) (by simp) ei (by unfold hd; omega), Option.bind_some]
        dsimp only [Nat.reduceAdd]
        rw [show gI m 7 i = TT m 4 i from rfl]
        by_cases hg : TT m 4 i = nI g
        · rw [if_pos hg, if_pos (show TT m 10 i = 1 ∧ TT m 4 i = nI g from ⟨ho, hg⟩)]
          obtain ⟨w, x1, x2⟩ := ih f (i + 1) (c + 1) (by omega) (by omega) (by rw [e1]; omega)
          exact ⟨w, x1, by rw [x2, e1]; omega⟩
        · rw [if_neg hg, if_neg (show ¬ (TT m 10 i = 1 ∧ TT m 4 i = nI g) from fun z => hg z.2), Int32.add_zero]
          obtain ⟨w, x1, x2⟩ := ih f (i + 1) c (by omega) (by omega) (by omega)
          exact ⟨w, x1, by rw [x2]; omega⟩
      · rw [if_pos ho, if_neg (show ¬ (TT m 10 i = 1 ∧ TT m 4 i = nI g) from fun z => ho z.1), Int32.add_zero]
        obtain ⟨w, x1, x2⟩ := ih f (i + 1) c (by omega) (by omega) (by omega)
        exact ⟨w, x1, by rw [x2]; omega⟩
theorem opw_x (J : Jt m s b) (g : Nat) : ∃ w, dX7_openWith (nI g) m = some (w, m) ∧ w.toInt = opF (TT m) g s 0 := by
  have z0 : (0 : Int32).toInt = 0 := rfl
  obtain ⟨w, x1, x2⟩ := opw_l J (g := g) FU s 0 0 (by omega) (by unfold FU; have := J.1.s10; omega) (by rw [z0]; omega)
  rw [nI_0] at x1
  exact ⟨w, x1, by rw [x2, z0]; omega⟩
theorem stk_1 (J : Jt m s b) (hd' : d < 6) (B : BR m d 6) : ∀ (N f g : Nat) (M : Mm), g + f = 6 → f < N → ch (P1 22) m M → ∃ M2, (DX2_stocked_13 N (38 + d) (nI g) M = if bkS (byV m d 6) f g then some (1, M2) else some (0, M2)) ∧ ch (P1 22) M M2 ∧ (bkS (byV m d 6) f g = true → ∀ j, (g ≤ j → j < 6 → (gI M2 22 j).toInt = (byV m d 6 (j : Int)).toInt - opF (TT m) j s 0) ∧ (j < g → gI M2 22 j = gI M 22 j)) := by
  have s10 := J.1.s10
  have z0 : (0 : Int32).toInt = 0 := rfl
  have z9 : (9 : Int32).toInt = 9 := rfl
  intro N
  induction N with
  | zero => intro f g M h1 h2; omega
  | succ N ih =>
    intro f g M h1 h2 c
    have cS := c.up (P1_Sc (by omega))
    have B1 := B.ch hd' cS
    have eB : byV M d 6 = byV m d 6 := byV_c cS (fun k => Sc_el hd')
    show ∃ M2, (BX2_stocked_13 (DX2_stocked_13 N) (38 + d) (nI g) M = _) ∧ _
    unfold BX2_stocked_13 DX2_stocked_50
    cases f with
    | zero =>
      have e : g = 6 := by omega
      subst e
      rw [if_pos (show (6 : Int32) ≤ nI 6 by decide)]
      refine ⟨M, by rw [show bkS (byV m d 6) 0 6 = true from rfl, if_pos rfl], ch.rf, fun _ j => ⟨fun h3 h4 => by omega, fun _ => rfl⟩⟩
    | succ f =>
      have hg : g < 6 := by omega
      have eg : (nI g).toInt = g := nI_toInt (by omega)
      have ig : inB (nI g) 6 := inB_nI hg (by omega)
      rw [if_neg (show ¬ (6 : Int32) ≤ nI g from nI_ge (b := 6) hg (by omega)), byteAt_x hd' B1, Option.bind_some, eB, eg]
      simp only [if_pos ig, nI_clamp (show g < 2 ^ 31 by omega), nI_1, gI_at, if_true, toI_lt, toI_le, z0, z9]
      unfold bkS
      have c1 : ch (P1 22) M (sI M 22 g (byV m d 6 (g : Int))) := ch.sI rfl
      by_cases q : 0 ≤ (byV m d 6 (g : Int)).toInt ∧ (byV m d 6 (g : Int)).toInt ≤ 9
      · rw [if_neg (by omega), if_pos (by omega), decide_eq_true q, Bool.true_and]
        have cS1 := (c.tr c1).up (P1_Sc (by omega))
        obtain ⟨w, w1, w2⟩ := opw_x (J.ch cS1) g
        rw [TT_Sc cS1] at w2
        have op := opF_r (T := TT m) (g := g) s 0
        rw [w1, Option.bind_some]
        have c2 : ch (P1 22) (sI M 22 g (byV m d 6 (g : Int))) (sI (sI M 22 g (byV m d 6 (g : Int))) 22 g (byV m d 6 (g : Int) - w)) := ch.sI rfl
        have ew : (byV m d 6 (g : Int) - w).toInt = (byV m d 6 (g : Int)).toInt - opF (TT m) g s 0 := by
          rw [iSub (by rw [w2]; omega) (by rw [w2]; omega), w2]
        obtain ⟨M2, x1, x2, x3⟩ := ih f (g + 1) (sI (sI M 22 g (byV m d 6 (g : Int))) 22 g (byV m d 6 (g : Int) - w)) (by omega) (by omega) (c.tr (c1.tr c2))
        refine ⟨M2, x1, c1.tr (c2.tr x2), fun hb j => ⟨fun h3 h4 => ?_, fun h3 => ?_⟩⟩
        · by_cases e : j = g
          · subst e; rw [(x3 hb j).2 (by omega), gI_at, if_pos rfl, ew]
          · exact (x3 hb j).1 (by omega) h4
        · rw [(x3 hb j).2 (by omega), gI_at, if_neg (by omega), gI_at, if_neg (by omega)]
      · rw [decide_eq_false q, Bool.false_and]
        refine ⟨sI M 22 g (byV m d 6 (g : Int)), ?_, c1, fun z => absurd z (by decide)⟩
        rw [if_neg (show ¬ (false = true) by decide)]
        by_cases h3 : (byV m d 6 (g : Int)).toInt < 0
        · rw [if_pos h3]
        · rw [if_neg h3, if_neg (by omega)]
theorem tied_l (J : Jt m s b) : ∀ (N f i c : Nat), i + f = s → f < N → DX2_tied_4 N (nI c) (nI i) m = some (nI (c + tdF (TT m) f i), m) := by
  have s10 := J.1.s10
  intro N
  induction N with
  | zero => intro f i c h1 h2; omega
  | succ N ih =>
    intro f i c h1 h2
    show BX2_tied_4 (DX2_tied_4 N) (nI c) (nI i) m = _
    unfold BX2_tied_4 DX2_tied_32
    rw [J.1.2.2.1]
    cases f with
    | zero =>
      have e : i = s := by omega
      subst e
      rw [if_pos (Int32.le_refl _)]; rfl
    | succ f =>
      have his : i < s := by omega
      have ei : (nI i).toInt = i := nI_toInt (by omega)
      rw [if_neg (nI_ge his (by omega)), isOpen_x J.1 ei his, Option.bind_some]
      simp only [b01_0, nI_1]
      rw [show gI m 13 i = TT m 10 i from rfl]
      unfold tdF
      by_cases ho : TT m 10 i = 1
      · rw [if_neg (fun z => z ho), if_pos ho, Int32.add_zero, ih f (i + 1) c (by omega) (by omega), Nat.zero_add]
      · rw [if_pos ho, if_neg ho, ih f (i + 1) (c + 1) (by omega) (by omega), Nat.add_assoc]
theorem tied_x (J : Jt m s b) : dX2_tied m = some (nI (tdF (TT m) s 0), m) := by
  have := tied_l J FU s 0 0 (by omega) (by unfold FU; have := J.1.s10; omega)
  rw [nI_0, Nat.zero_add] at this
  exact this
theorem ways_in {k8 : Int64 → Int32 → Int32 → Mm → Option (Int64 × Mm)} {w fr g ln : Nat} (hg : g < 6) (hl : gI m 22 g = nI ln) (hfr : fr ≤ 10) (hln : ln ≤ fr) (hw : w ≤ 3628800) : ∀ (N f k : Nat), k + f = ln → f < N → DX2_waysOf_42 k8 N (LN (w * chs fr k)) (nI fr) (nI g) (nI (k + 1)) m = k8 (LN (w * chs fr ln)) (nI (fr - ln)) (nI (g + 1)) m := by
  intro N
  induction N with
  | zero => intro f k h1 h2; omega
  | succ N ih =>
    intro f k h1 h2
    have ig : inB (nI g) 6 := inB_nI hg (by omega)
    show BX2_waysOf_42 k8 (DX2_waysOf_42 k8 N) _ _ _ _ m = _
    unfold BX2_waysOf_42
    rw [if_pos ig]
    simp only [nI_clamp (show g < 2 ^ 31 by omega), hl]
    cases f with
    | zero =>
      have e : k = ln := by omega
      subst e
      have es : nI fr - nI k = nI (fr - k) := nI_of_toInt (by
        have a1 : (nI fr).toInt = fr := nI_toInt (by omega)
        have a2 : (nI k).toInt = k := nI_toInt (by omega)
        rw [iSub (by omega) (by omega), a1, a2]; omega)
      rw [if_pos (nI_lt (by omega) (by omega)), if_pos ig, es, nI_1]
    | succ f =>
      have hc := chs_le fr k
      have h2f : 2 ^ fr ≤ 2 ^ 10 := Nat.pow_le_pow_right (by omega) hfr
      have hc2 : chs fr k ≤ 1024 := Nat.le_trans hc h2f
      have hwc : w * chs fr k ≤ 3628800 * 1024 := Nat.mul_le_mul hw hc2
      have hwf : w * chs fr k * (fr - k) ≤ 3628800 * 1024 * 10 := Nat.mul_le_mul hwc (by omega)
      have es : nI fr - nI (k + 1) + 1 = nI (fr - k) := nI_of_toInt (by
        have a1 : (nI fr).toInt = fr := nI_toInt (by omega)
        have a2 : (nI (k + 1)).toInt = (k + 1 : Nat) := nI_toInt (by omega)
        have z1 : (1 : Int32).toInt = 1 := rfl
        have a3 : (nI fr - nI (k + 1)).toInt = (fr : Int) - (k + 1 : Nat) := by rw [iSub (by omega) (by omega), a1, a2]
        rw [iAdd (by rw [a3, z1]; omega) (by rw [a3, z1]; omega), a3, z1]; omega)
      have n0 : ¬ LN (k + 1) = 0 := fun z => by have := (LN_0 (a := k + 1) (by omega)).mp z; omega
      have hB := chs_B (n := fr) (k := k) (by omega)
      have ediv : w * chs fr k * (fr - k) / (k + 1) = w * chs fr (k + 1) := by
        refine Nat.div_eq_of_eq_mul_right (by omega) ?_
        rw [show (k + 1) * (w * chs fr (k + 1)) = w * ((k + 1) * chs fr (k + 1)) by ac_rfl, hB]; ac_rfl
      rw [if_neg (nI_nlt (by omega) (by omega)), es, nI_64 (by omega), nI_64 (by omega), if_neg n0, LN_mul (by omega) (by omega) (by omega), LN_div (by omega) (by omega) (by omega), ediv, nI_1]
      exact ih f (k + 1) (by omega) (by omega)
theorem ways_l (hl : ∀ g, g < 6 → (gI m 22 g).toInt = l g) : ∀ (N f g fr w : Nat), g + f = 6 → f < N → fr ≤ 10 → w * fct fr ≤ 3628800 → DX2_waysOf_8 N (LN w) (nI fr) (nI g) m = some (LN (wcS l f g fr w), m) := by
  intro N
  induction N with
  | zero => intro f g fr w h1 h2; omega
  | succ N ih =>
    intro f g fr w h1 h2 hfr hw
    show BX2_waysOf_8 (DX2_waysOf_8 N) _ _ _ m = _
    unfold BX2_waysOf_8 DX2_waysOf_37
    have z0 : (0 : Int32).toInt = 0 := rfl
    cases f with
    | zero =>
      have e : g = 6 := by omega
      subst e
      rw [if_pos (show (6 : Int32) ≤ nI 6 by decide)]
      unfold wcS
      by_cases hf0 : fr = 0
      · subst hf0; rw [if_pos (by decide), if_pos rfl]
      · rw [if_neg (show ¬ nI fr = 0 from fun z => hf0 ((nI_eq (a := fr) (b := 0) (by omega) (by omega)).mp z)), if_neg hf0]; rfl
    | succ f =>
      have hg : g < 6 := by omega
      have ig : inB (nI g) 6 := inB_nI hg (by omega)
      have hlg := hl g hg
      have efr : (nI fr).toInt = fr := nI_toInt (by omega)
      rw [if_neg (show ¬ (6 : Int32) ≤ nI g from nI_ge (b := 6) hg (by omega)), if_pos ig, if_pos ig, nI_clamp (by omega)]
      simp only [toI_lt, toI_le, hlg, z0, efr]
      unfold wcS
      by_cases q : 0 ≤ l g ∧ l g ≤ (fr : Int)
      · obtain ⟨ln, hln⟩ : ∃ x : Nat, l g = x := ⟨(l g).toNat, by omega⟩
        have e22 : gI m 22 g = nI ln := nI_of_toInt (by rw [hlg, hln])
        have hp := fct_pos fr
        have hw1 : w ≤ 3628800 := Nat.le_trans (Nat.le_mul_of_pos_right w hp) hw
        have hF := chs_F (n := fr) ln (by omega)
        have hl1 := fct_pos ln
        have hb : w * chs fr ln * fct (fr - ln) ≤ 3628800 := by
          refine Nat.le_trans ?_ hw
          rw [← hF, Nat.mul_assoc]
          refine Nat.mul_le_mul (Nat.le_refl _) ?_
          rw [show chs fr ln * fct ln * fct (fr - ln) = chs fr ln * fct (fr - ln) * fct ln by ac_rfl]
          exact Nat.le_mul_of_pos_right _ hl1
        have inn := ways_in (k8 := DX2_waysOf_8 N) (w := w) (fr := fr) (g := g) hg e22 hfr (by omega) hw1 FU ln 0 (by omega) (by unfold FU; omega)
        rw [chs_0, Nat.mul_one, show nI (0 + 1) = 1 from rfl] at inn
        rw [if_neg (by omega), if_pos (by omega), if_pos q, inn, hln, Int.toNat_natCast]
        exact ih f (g + 1) (fr - ln) (w * chs fr ln) (by omega) (by omega) (by omega) hb
      · rw [if_neg q]
        by_cases h3 : l g < 0
        · rw [if_pos h3]; rfl
        · rw [if_neg h3, if_neg (by omega)]; rfl
theorem ways_x (hl : ∀ g, g < 6 → (gI m 22 g).toInt = l g) {fr : Nat} (hfr : fr ≤ 10) : dX2_waysOf (nI fr) m = some (LN (wcS l 6 0 fr 1), m) := by
  have := ways_l hl FU 6 0 fr 1 (by omega) (by unfold FU; omega) hfr (by rw [Nat.one_mul]; exact fct_10 hfr)
  rw [nI_0] at this
  exact this
/-- what is left -/
def lfS (mm : Mm) (s d : Nat) : Nat → Int := fun g => (byV mm d 6 (g : Int)).toInt - opF (TT mm) g s 0
def stkQ (mm : Mm) (s : Nat) (v1 v2 : Int32) : Int64 := if okD v1 ∧ brS mm (dN v1) = 0 ∧ gI mm (38 + dN v1) 4 = 6 ∧ (v2 = -1 ∨ okG s v2) ∧ bkS (byV mm (dN v1) 6) 6 0 = true then
    (if v2 = -1 then LN (wcS (lfS mm s (dN v1)) 6 0 (tdF (TT mm) s 0) 1)
     else if TT mm 10 (bN v2) = 1 then (if TT mm 4 (bN v2) = nI (sN v2) then LN (wcS (lfS mm s (dN v1)) 6 0 (tdF (TT mm) s 0) 1) else 0)
     else LN (wcS (decL (lfS mm s (dN v1)) (sN v2)) 6 0 (tdF (TT mm) s 0 - 1) 1))
  else -9223372036854775808
theorem stkQ_ch {m' : Mm} (h : ch Sc m m') : stkQ m' s v1 v2 = stkQ m s v1 v2 := by
  by_cases hd' : okD v1
  · have d6 := (d_n hd').2
    unfold stkQ lfS
    rw [brS_ch d6 h, TT_Sc h, byV_c h (fun k => Sc_el d6), h.I (Sc_sh d6)]
  · unfold stkQ
    rw [if_neg (fun q => hd' q.1), if_neg (fun q => hd' q.1)]
theorem BR_6 {n : Nat} (B : BR m d n) (h : gI m (38 + d) 4 = 6) : BR m d 6 := by
  have hn := B.2.2.2.1
  have e : n = 6 := (nI_eq (a := n) (b := 6) (by omega) (by omega)).mp (B.2.2.1.symm.trans h)
  rw [← e]; exact B
theorem stock_x (k : K m s b kn lv) : ∃ m1, dX9_stock v1 v2 m = some (stkQ m s v1 v2, m1) ∧ ch Sc m m1 := by
  have J := k.1
  have s10 := J.1.s10
  unfold dX9_stock DX9_stock_20
  simp only [isShelf_x, isSg_x J.1, Option.bind_some, b01_0]
  by_cases h1 : okD v1
  · obtain ⟨e1, d6⟩ := d_n h1
    simp only [if_neg (show ¬ ¬ (0 ≤ v1.toInt ∧ v1.toInt < 6) from fun q => q h1)]
    have go : (v2 = -1 ∨ okG s v2) → ∃ m1, DX9_stock_24 v1 v2 m = some (stkQ m s v1 v2, m1) ∧ ch Sc m m1 := by
      intro hv
      unfold DX9_stock_24 DX9_stock_52 stkQ
      simp only [if_pos (okD_i h1), clE h1, bytesRefusal_x d6, Option.bind_some]
      by_cases hr : brS m (dN v1) = 0
      · rw [if_pos hr]
        obtain ⟨n0, B0⟩ := BR_of k.2.2.2 d6 hr
        unfold dX2_stocked
        rw [if_pos (pSh (shO d6))]
        by_cases h6 : gI m (38 + dN v1) 4 = 6
        · have B := BR_6 B0 h6
          rw [if_pos h6]
          obtain ⟨M1, x1, x2, x3⟩ := stk_1 J d6 B FU 6 0 m (by omega) (by unfold FU; omega) ch.rf
          rw [nI_0] at x1
          rw [x1]
          by_cases hb : bkS (byV m (dN v1) 6) 6 0 = true
          · have rb := bkS_get 6 0 hb
            have cS := x2.up (P1_Sc (by omega))
            have J2 := J.ch cS
            have eT := TT_Sc cS
            have l2 : ∀ g, g < 6 → (gI M1 22 g).toInt = lfS m s (dN v1) g := fun g hg => (x3 hb g).1 (Nat.zero_le _) hg
            have t10 := tdF_r (T := TT m) s 0
            have tx := tied_x J2
            rw [eT] at tx
            have wx : dX2_ways M1 = some (LN (wcS (lfS m s (dN v1)) 6 0 (tdF (TT m) s 0) 1), M1) := by
              unfold dX2_ways
              rw [tx, Option.bind_some]
              simp only []
              rw [ways_x l2 (by omega), Option.bind_some]
            rw [if_pos hb, Option.bind_some]
            rw [if_neg (show ¬ (1 : Int32) = 0 by decide), if_pos (show okD v1 ∧ brS m (dN v1) = 0 ∧ gI m (38 + dN v1) 4 = 6 ∧ (v2 = -1 ∨ okG s v2) ∧ bkS (byV m (dN v1) 6) 6 0 = true from ⟨h1, hr, h6, hv, hb⟩)]
            by_cases hm1 : v2 = -1
            · rw [if_pos hm1, if_pos hm1, wx, Option.bind_some]
              exact ⟨M1, rfl, cS⟩
            · have hg := hv.resolve_left hm1
              obtain ⟨f1, f2, f3, f4⟩ := sg_n s10 hg
              have eb : (nI (bN v2)).toInt = bN v2 := nI_toInt (by omega)
              rw [if_neg hm1, if_neg hm1, f1, f2]
              unfold dX2_waysWith
              rw [isOpen_x J2.1 eb f3, Option.bind_some]
              simp only [b01_0]
              have e10 : gI M1 13 (bN v2) = TT m 10 (bN v2) := by rw [← eT]; rfl
              rw [e10]
              by_cases ho : TT m 10 (bN v2) = 1
              · rw [if_neg (fun z => z ho), if_pos ho, told_x J2.1 (wn := 4) (by simp) eb (by unfold hd; omega), Option.bind_some]
                dsimp only [Nat.reduceAdd]
                have e4 : gI M1 7 (bN v2) = TT m 4 (bN v2) := by rw [← eT]; rfl
                rw [e4]
                by_cases h4 : TT m 4 (bN v2) = nI (sN v2)
                · rw [if_pos h4, if_pos h4, wx, Option.bind_some, Option.bind_some]
                  exact ⟨M1, rfl, cS⟩
                · rw [if_neg h4, if_neg h4, Option.bind_some]
                  exact ⟨M1, rfl, cS⟩
              · have ig : inB (nI (sN v2)) 6 := inB_nI f4 (by omega)
                have t1 := tdF_1 (T := TT m) s 0 (bN v2) (Nat.zero_le _) (by omega) ho
                have z1 : (1 : Int32).toInt = 1 := rfl
                have op := opF_r (T := TT m) (g := sN v2) s 0
                have rg := rb (sN v2) (Nat.zero_le _) (by omega)
                have el : (gI M1 22 (sN v2)).toInt = (byV m (dN v1) 6 (sN v2 : Int)).toInt - opF (TT m) (sN v2) s 0 := l2 _ f4
                have c3 : ch (P1 22) M1 (sI M1 22 (sN v2) (gI M1 22 (sN v2) - 1)) := ch.sI rfl
                have l3 : ∀ g, g < 6 → (gI (sI M1 22 (sN v2) (gI M1 22 (sN v2) - 1)) 22 g).toInt = decL (lfS m s (dN v1)) (sN v2) g := fun g hg => by
                  rw [gI_at]
                  unfold decL
                  by_cases e : g = sN v2
                  · subst e; rw [if_pos rfl, if_pos rfl, iSub (by rw [z1]; omega) (by rw [z1]; omega), z1, l2 _ hg]
                  · rw [if_neg e, if_neg e, l2 g hg]
                have cS3 := cS.tr (c3.up (P1_Sc (by omega)))
                have tx3 := tied_x (J.ch cS3)
                rw [TT_Sc cS3] at tx3
                have ed : nI (tdF (TT m) s 0) - 1 = nI (tdF (TT m) s 0 - 1) := by
                  obtain ⟨q, hq⟩ : ∃ q, tdF (TT m) s 0 = q + 1 := ⟨tdF (TT m) s 0 - 1, by omega⟩
                  rw [hq, nI_m1]; rfl
                rw [if_pos ho, if_neg ho, if_pos ig, if_pos ig, nI_clamp (by omega), tx3, Option.bind_some]
                simp only [ed]
                rw [ways_x l3 (by omega), Option.bind_some, Option.bind_some]
                exact ⟨_, rfl, cS3⟩
          · rw [if_neg hb, Option.bind_some, if_pos rfl, if_neg (show ¬ (okD v1 ∧ brS m (dN v1) = 0 ∧ gI m (38 + dN v1) 4 = 6 ∧ (v2 = -1 ∨ okG s v2) ∧ bkS (byV m (dN v1) 6) 6 0 = true) from fun q => hb q.2.2.2.2)]
            exact ⟨M1, rfl, x2.up (P1_Sc (by omega))⟩
        · rw [if_neg h6, Option.bind_some, if_pos rfl, if_neg (fun q => h6 q.2.2.1)]
          exact ⟨m, rfl, ch.rf⟩
      · rw [if_neg hr, if_neg (fun q => hr q.2.1)]
        exact ⟨m, rfl, ch.rf⟩
    by_cases hm1 : v2 = -1
    · rw [if_pos hm1]; exact go (Or.inl hm1)
    · rw [if_neg hm1]
      by_cases hg : okG s v2
      · rw [if_neg (fun q => q hg)]; exact go (Or.inr hg)
      · rw [if_pos hg]
        unfold stkQ
        rw [if_neg (fun q => q.2.2.2.1.elim hm1 hg)]
        exact ⟨m, rfl, ch.rf⟩
  · simp only [if_pos (show ¬ (0 ≤ v1.toInt ∧ v1.toInt < 6) from h1)]
    unfold stkQ
    rw [if_neg (fun q => h1 q.1)]
    exact ⟨m, rfl, ch.rf⟩
end STOCK
