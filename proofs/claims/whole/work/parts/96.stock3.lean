/-! ===== stock, the reference's side ===== -/
section STOCKM
variable {m : Mm} {s b kn n d : Nat} {t : Nat → Nat} {lv : Option LF} {v1 v2 v3 v4 : Int32} {l : Nat → Int}
theorem smr_1 (hd' : d < 6) (B : BR m d 6) : ∀ (N f g : Nat) (M : Mm), g + f = 6 → f < N → ch (P1 71) m M → ∃ M2, (DX10_stock_60 N (nI d) v2 0 (nI g) M = if bkS (byV m d 6) f g then DX10_stock_125 FU v2 0 0 0 M2 else some (-9223372036854775808, M2)) ∧ ch (P1 71) m M2 ∧ (bkS (byV m d 6) f g = true → ∀ j, gI M2 71 j = if g ≤ j ∧ j < 6 then byV m d 6 (j : Int) else gI M 71 j) := by
  have c0 : (0 : Int64).toInt = 0 := rfl
  have c9 : (9 : Int64).toInt = 9 := rfl
  intro N
  induction N with
  | zero => intro f g M h1 h2; omega
  | succ N ih =>
    intro f g M h1 h2 c
    show ∃ M2, (BX10_stock_60 (DX10_stock_60 N) (nI d) v2 0 (nI g) M = _) ∧ _
    unfold BX10_stock_60
    cases f with
    | zero =>
      have e : g = 6 := by omega
      subst e
      rw [if_pos (show (6 : Int32) ≤ nI 6 by decide)]
      refine ⟨M, by rw [show bkS (byV m d 6) 0 6 = true from rfl, if_pos rfl], c, fun _ j => by rw [if_neg (by omega)]⟩
    | succ f =>
      have hg : g < 6 := by omega
      have ig : inB (nI g) 6 := inB_nI hg (by omega)
      have i3 : inB (nI (60 * d + g)) 360 := inB_nI (by omega) (by omega)
      have e81 : gL M 81 (60 * d + g) = gL m (44 + d) g := by rw [c.L rfl]; exact B.2.2.2.2.2.2.1 g (by omega)
      have eb := byV_toInt B hg
      have ef : (gL m (44 + d) g).toInt32 = byV m d 6 (g : Int) := by
        unfold byV
        rw [if_pos (by omega), Int.toNat_natCast]
      rw [if_neg (show ¬ (6 : Int32) ≤ nI g from nI_ge (b := 6) hg (by omega)), m60 hd', nI_add, if_pos i3]
      simp only [if_pos i3, if_pos ig, nI_clamp (show 60 * d + g < 2 ^ 31 by omega), nI_clamp (show g < 2 ^ 31 by omega), e81, within_m, Option.bind_some, b01_0, c0, c9, ef, nI_1]
      unfold bkS
      rw [eb]
      by_cases q : 0 ≤ (gL m (44 + d) g).toInt ∧ (gL m (44 + d) g).toInt ≤ 9
      · rw [if_neg (fun z => z q), decide_eq_true q, Bool.true_and]
        obtain ⟨M2, x1, x2, x3⟩ := ih f (g + 1) (sI M 71 g (byV m d 6 (g : Int))) (by omega) (by omega) (c.tr (ch.sI rfl))
        refine ⟨M2, x1, x2, fun hb j => ?_⟩
        rw [x3 hb j, gI_at]
        by_cases e : j = g
        · subst e; rw [if_neg (by omega), if_pos rfl, if_pos (by omega)]
        · rw [if_neg e]
          by_cases q2 : g + 1 ≤ j ∧ j < 6
          · rw [if_pos q2, if_pos (by omega)]
          · rw [if_neg q2, if_neg (by omega)]
      · rw [if_pos q, decide_eq_false q, Bool.false_and]
        exact ⟨M, by rw [if_neg (show ¬ (false = true) by decide)], c, fun z => absurd z (by decide)⟩
theorem smr_2 (J : Jt m s b) : ∀ (N f i c : Nat) (M : Mm), i + f = s → f < N → ch (P1 71) m M → (∀ g, g < 6 → -(i : Int) ≤ (gI M 71 g).toInt ∧ (gI M 71 g).toInt ≤ 9) → ∃ M2, DX10_stock_125 N v2 0 (nI c) (nI i) M = DX10_stock_196 FU v2 0 (nI (c + tdF (TT m) f i)) 0 M2 ∧ ch (P1 71) m M2 ∧ ∀ g, g < 6 → (gI M2 71 g).toInt = (gI M 71 g).toInt - opF (TT m) g f i := by
  have s10 := J.1.s10
  intro N
  induction N with
  | zero => intro f i c M h1 h2; omega
  | succ N ih =>
    intro f i c M h1 h2 cc h4
    show ∃ M2, BX10_stock_125 (DX10_stock_125 N) v2 0 (nI c) (nI i) M = _ ∧ _
    unfold BX10_stock_125
    rw [show gI M 58 6 = nI s by rw [cc.I rfl]; exact J.1.2.2.2.2.1]
    cases f with
    | zero =>
      have e : i = s := by omega
      subst e
      rw [if_pos (Int32.le_refl _)]
      exact ⟨M, rfl, cc, fun g hg => by show _ = _ - 0; omega⟩
    | succ f =>
      have his : i < s := by omega
      have jk := J.2.2.1 i his
      have r4 : 0 ≤ (TT m 4 i).toInt ∧ (TT m 4 i).toInt ≤ 5 := jk.1.2
      obtain ⟨q, hq⟩ : ∃ q : Nat, (TT m 4 i).toInt = q := ⟨(TT m 4 i).toInt.toNat, by omega⟩
      have fq := nI_of_toInt hq
      have iq : inB (nI q) 6 := inB_nI (by omega) (by omega)
      have ii : inB (nI i) 10 := inB_nI (by omega) (by omega)
      have e24 : (24 : Int32) + nI i = nI (24 + i) := by rw [show (24 : Int32) = nI 24 from rfl, nI_add]
      have i24 : inB (nI (24 + i)) 62 := inB_nI (by omega) (by omega)
      have g24 : gI M 59 (24 + i) = nI q := by rw [cc.I rfl, ← fq]; exact jk.1.1
      have g64 : gI M 64 i = TT m 10 i := by rw [cc.I rfl]; exact jk.2.2.2.1
      have e01 : TT m 10 i = 0 ∨ TT m 10 i = 1 := jk.2.2.2.2
      have h4q := h4 q (by omega)
      have z1 : (1 : Int32).toInt = 1 := rfl
      have z0 : (0 : Int32).toInt = 0 := rfl
      have w64 : ∀ x, gI (sI M 71 q x) 64 i = TT m 10 i := fun x => by rw [gI_o (by omega)]; exact g64
      rw [if_neg (nI_ge his (by omega)), e24, if_pos i24]
      simp only [nI_clamp (show 24 + i < 2 ^ 31 by omega), g24, if_pos iq, if_pos ii, nI_clamp (show i < 2 ^ 31 by omega), nI_clamp (show q < 2 ^ 31 by omega), g64]
      unfold DX10_stock_165 DX10_stock_184
      simp only [if_pos iq, if_pos ii, nI_clamp (show i < 2 ^ 31 by omega), nI_clamp (show q < 2 ^ 31 by omega), w64, nI_1]
      unfold tdF
      rcases e01 with ho | ho
      · have hn1 : ¬ TT m 10 i = 1 := by rw [ho]; decide
        rw [if_pos ho, if_pos ho, if_neg hn1]
        have ed : (gI M 71 q - 0).toInt = (gI M 71 q).toInt := by rw [Int32.sub_zero]
        obtain ⟨M2, x1, x2, x3⟩ := ih f (i + 1) (c + 1) (sI M 71 q (gI M 71 q - 0)) (by omega) (by omega) (cc.tr (ch.sI rfl)) (fun g hg => by
          have := h4 g hg
          rw [gI_at]
          by_cases e : g = q
          · rw [if_pos e, ed]; omega
          · rw [if_neg e]; omega)
        refine ⟨M2, by rw [x1, Nat.add_assoc], x2, fun g hg => ?_⟩
        rw [x3 g hg, gI_at]
        show _ = _ - ((if TT m 10 i = 1 ∧ TT m 4 i = nI g then (1 : Int) else 0) + opF (TT m) g f (i + 1))
        rw [if_neg (show ¬ (TT m 10 i = 1 ∧ TT m 4 i = nI g) from fun z => hn1 z.1)]
        by_cases e : g = q
        · subst e; rw [if_pos rfl, ed]; omega
        · rw [if_neg e]; omega
      · have hn0 : ¬ TT m 10 i = 0 := by rw [ho]; decide
        rw [if_neg hn0, if_neg hn0, if_pos ho, Int32.add_zero, Nat.zero_add]
        have ed : (gI M 71 q - 1).toInt = (gI M 71 q).toInt - 1 := by rw [iSub (by rw [z1]; omega) (by rw [z1]; omega), z1]
        obtain ⟨M2, x1, x2, x3⟩ := ih f (i + 1) c (sI M 71 q (gI M 71 q - 1)) (by omega) (by omega) (cc.tr (ch.sI rfl)) (fun g hg => by
          have := h4 g hg
          rw [gI_at]
          by_cases e : g = q
          · rw [if_pos e, ed]; omega
          · rw [if_neg e]; omega)
        refine ⟨M2, x1, x2, fun g hg => ?_⟩
        rw [x3 g hg, gI_at]
        show _ = _ - ((if TT m 10 i = 1 ∧ TT m 4 i = nI g then (1 : Int) else 0) + opF (TT m) g f (i + 1))
        by_cases e : g = q
        · subst e; rw [if_pos rfl, ed, if_pos ⟨ho, fq⟩]; omega
        · rw [if_neg e, if_neg (fun z => e (by have := z.2; rw [fq] at this; exact ((nI_eq (by omega) (by omega)).mp this).symm))]; omega
theorem nnS_dec : ∀ f g, nnS l f g ∨ ¬ nnS l f g := fun f g => Classical.em _
theorem smr_3 (hl : ∀ g, g < 6 → (gI m 71 g).toInt = l g) (hb : ∀ g, g < 6 → l g ≤ 9) {cl : Nat} (hcl : cl ≤ 10) : ∀ (N f g a : Nat), g + f = 6 → f < N → a ≤ 9 * g → ∃ r, DX10_stock_196 N v2 (nI a) (nI cl) (nI g) m = r ∧ ((nnS l f g ∧ (a : Int) + smS l f g = cl) → r = DX10_stock_248 FU v2 (nI cl) 1 0 0 m) ∧ (¬ (nnS l f g ∧ (a : Int) + smS l f g = cl) → r = some (0, m)) := by
  have z0 : (0 : Int32).toInt = 0 := rfl
  intro N
  induction N with
  | zero => intro f g a h1 h2; omega
  | succ N ih =>
    intro f g a h1 h2 ha
    show ∃ r, BX10_stock_196 (DX10_stock_196 N) v2 (nI a) (nI cl) (nI g) m = r ∧ _
    unfold BX10_stock_196
    cases f with
    | zero =>
      have e : g = 6 := by omega
      subst e
      rw [if_pos (show (6 : Int32) ≤ nI 6 by decide)]
      by_cases h : a = cl
      · subst h
        rw [if_pos rfl]
        exact ⟨_, rfl, fun _ => rfl, fun z => absurd ⟨trivial, by show (a : Int) + 0 = a; omega⟩ z⟩
      · rw [if_neg (fun z => h ((nI_eq (by omega) (by omega)).mp z))]
        exact ⟨_, rfl, fun z => absurd z.2 (by show ¬ ((a : Int) + 0 = cl); omega), fun _ => rfl⟩
    | succ f =>
      have hg : g < 6 := by omega
      have ig : inB (nI g) 6 := inB_nI hg (by omega)
      have hlg := hl g hg
      have hbg := hb g hg
      rw [if_neg (show ¬ (6 : Int32) ≤ nI g from nI_ge (b := 6) hg (by omega)), if_pos ig, if_pos ig, nI_clamp (by omega)]
      simp only [toI_le, hlg, z0]
      by_cases q : 0 ≤ l g
      · obtain ⟨ln, hln⟩ : ∃ x : Nat, l g = x := ⟨(l g).toNat, by omega⟩
        have e71 : gI m 71 g = nI ln := nI_of_toInt (by rw [hlg, hln])
        obtain ⟨r, x1, x2, x3⟩ := ih f (g + 1) (a + ln) (by omega) (by omega) (by omega)
        rw [if_pos q, e71, nI_add, nI_1]
        refine ⟨r, x1, fun z => x2 ⟨z.1.2, ?_⟩, fun z => x3 (fun w => z ⟨⟨q, w.1⟩, ?_⟩)⟩
        · have := z.2
          have e : smS l (f + 1) g = l g + smS l f (g + 1) := rfl
          rw [e] at this
          omega
        · have := w.2
          show (a : Int) + (l g + smS l f (g + 1)) = cl
          omega
      · rw [if_neg q]
        exact ⟨_, rfl, fun z => absurd z.1.1 q, fun _ => rfl⟩
theorem smr_in {k248 : Int32 → Int32 → Int64 → Int32 → Int32 → Mm → Option (Int64 × Mm)} {w n0 g ln : Nat} (hg : g < 6) (hl : gI m 71 g = nI ln) (hn : n0 + ln ≤ 10) (hw : w ≤ fct n0) : ∀ (N f k : Nat), k + f = ln → f < N → DX10_stock_258 k248 N v2 v4 (LN (w * chs (n0 + k) k)) (nI (n0 + k)) (nI g) (nI (k + 1)) m = k248 v2 v4 (LN (w * chs (n0 + ln) ln)) (nI (n0 + ln)) (nI (g + 1)) m := by
  intro N
  induction N with
  | zero => intro f k h1 h2; omega
  | succ N ih =>
    intro f k h1 h2
    have ig : inB (nI g) 6 := inB_nI hg (by omega)
    show BX10_stock_258 k248 (DX10_stock_258 k248 N) _ _ _ _ _ _ m = _
    unfold BX10_stock_258
    rw [if_pos ig]
    simp only [nI_clamp (show g < 2 ^ 31 by omega), hl]
    cases f with
    | zero =>
      have e : k = ln := by omega
      subst e
      rw [if_pos (nI_lt (by omega) (by omega)), nI_1]
    | succ f =>
      have hc := chs_le (n0 + k) k
      have h2f : 2 ^ (n0 + k) ≤ 2 ^ 10 := Nat.pow_le_pow_right (by omega) (by omega)
      have hc2 : chs (n0 + k) k ≤ 1024 := Nat.le_trans hc h2f
      have hw1 : w ≤ 3628800 := Nat.le_trans hw (fct_10 (by omega))
      have hwc : w * chs (n0 + k) k ≤ 3628800 * 1024 := Nat.mul_le_mul hw1 hc2
      have hwf : w * chs (n0 + k) k * (n0 + k + 1) ≤ 3628800 * 1024 * 11 := Nat.mul_le_mul hwc (by omega)
      have nz : ¬ LN (k + 1) = 0 := fun z => by have := (LN_0 (a := k + 1) (by omega)).mp z; omega
      have hA := chs_A (n0 + k) k
      have ediv : w * chs (n0 + k) k * (n0 + k + 1) / (k + 1) = w * chs (n0 + (k + 1)) (k + 1) := by
        refine Nat.div_eq_of_eq_mul_right (by omega) ?_
        rw [show (k + 1) * (w * chs (n0 + (k + 1)) (k + 1)) = w * ((k + 1) * chs (n0 + k + 1) (k + 1)) by rw [show n0 + (k + 1) = n0 + k + 1 by omega]; ac_rfl, ← hA]; ac_rfl
      rw [if_neg (nI_nlt (by omega) (by omega)), nI_1, nI_64 (by omega), nI_64 (by omega), if_neg nz, LN_mul (by omega) (by omega) (by omega), LN_div (by omega) (by omega) (by omega), ediv, nI_1, Nat.add_assoc n0 k 1]
      exact ih f (k + 1) (by omega) (by omega)
theorem smr_4 (hl : ∀ g, g < 6 → (gI m 71 g).toInt = l g) : ∀ (N f g n0 w : Nat), g + f = 6 → f < N → nnS l f g → (n0 : Int) + smS l f g ≤ 10 → w ≤ fct n0 → ∃ r, DX10_stock_248 N v2 v4 (LN w) (nI n0) (nI g) m = r ∧ wrS l f g n0 w ≤ 3628800 ∧ r = (if v2 = (-1) then some (LN (wrS l f g n0 w), m) else (if inB (v2 / 10) 10 then (if (gI m 64 (Int32.toNatClampNeg (v2 / 10))) = 0 then (if inB (iRem v2 10) 6 then (if (Int32.toInt64 v4) = 0 then none else some (((LN (wrS l f g n0 w) * (Int32.toInt64 (gI m 71 (Int32.toNatClampNeg (iRem v2 10))))) / (Int32.toInt64 v4)), m)) else none) else (if inB (24 + (v2 / 10)) 62 then (if (gI m 59 (Int32.toNatClampNeg (24 + (v2 / 10)))) = (iRem v2 10) then some (LN (wrS l f g n0 w), m) else some (0, m)) else none)) else none)) := by
  intro N
  induction N with
  | zero => intro f g n0 w h1 h2; omega
  | succ N ih =>
    intro f g n0 w h1 h2 hn hsum hw
    show ∃ r, BX10_stock_248 (DX10_stock_248 N) _ _ _ _ _ m = r ∧ _
    unfold BX10_stock_248
    cases f with
    | zero =>
      have e : g = 6 := by omega
      subst e
      rw [if_pos (show (6 : Int32) ≤ nI 6 by decide)]
      have hz : smS l 0 6 = 0 := rfl
      exact ⟨_, rfl, Nat.le_trans hw (fct_10 (by omega)), rfl⟩
    | succ f =>
      have hg : g < 6 := by omega
      have h0 := hn.1
      have hs := smS_nn f (g + 1) hn.2
      have es : smS l (f + 1) g = l g + smS l f (g + 1) := rfl
      obtain ⟨ln, hln⟩ : ∃ x : Nat, l g = x := ⟨(l g).toNat, by omega⟩
      have e71 : gI m 71 g = nI ln := nI_of_toInt (by rw [hl g hg, hln])
      have inn := smr_in (v2 := v2) (v4 := v4) (k248 := DX10_stock_248 N) (w := w) (n0 := n0) hg e71 (by omega) hw FU ln 0 (by omega) (by unfold FU; omega)
      rw [chs_0, Nat.mul_one, Nat.add_zero, show nI (0 + 1) = 1 from rfl] at inn
      rw [if_neg (show ¬ (6 : Int32) ≤ nI g from nI_ge (b := 6) hg (by omega)), inn]
      unfold wrS
      rw [hln, Int.toNat_natCast]
      have hF := chs_F (n := n0 + ln) ln (by omega)
      rw [show n0 + ln - ln = n0 by omega] at hF
      refine ih f (g + 1) (n0 + ln) (w * chs (n0 + ln) ln) (by omega) (by omega) hn.2 (by omega) ?_
      rw [← hF]
      refine Nat.le_trans (Nat.mul_le_mul hw (Nat.le_refl _)) ?_
      rw [show chs (n0 + ln) ln * fct ln * fct n0 = fct n0 * chs (n0 + ln) ln * fct ln by ac_rfl]
      exact Nat.le_mul_of_pos_right _ (fct_pos ln)
theorem stock_m (k : K m s b kn lv) : ∃ m1, dX10_stock v1 v2 m = some (stkQ m s v1 v2, m1) ∧ ch Sc m m1 := by
  have J := k.1
  have s10 := J.1.s10
  have z0 : (0 : Int32).toInt = 0 := rfl
  unfold dX10_stock DX10_stock_51
  simp only [bytesIs_q k.2.2.2, Option.bind_some, biS_neg]
  by_cases h1 : okD v1 ∧ brS m (dN v1) = 0
  · obtain ⟨e1, d6⟩ := d_n h1.1
    obtain ⟨n0, B0⟩ := BR_of k.2.2.2 d6 h1.2
    have e80 : gI m 80 (dN v1) = gI m (38 + dN v1) 4 := by rw [B0.2.2.2.2.2.1, B0.2.2.1]
    rw [if_neg (fun q => q h1)]
    simp only [if_pos (okD_i h1.1), clE h1.1, e80]
    by_cases h6 : gI m (38 + dN v1) 4 = 6
    · have B := BR_6 B0 h6
      rw [if_pos h6]
      have go : (v2 = -1 ∨ okG s v2) → ∃ m1, DX10_stock_55 v1 v2 m = some (stkQ m s v1 v2, m1) ∧ ch Sc m m1 := by
        intro hv
        unfold DX10_stock_55 stkQ
        obtain ⟨M1, x1, x2, x3⟩ := smr_1 (v2 := v2) d6 B FU 6 0 m (by omega) (by unfold FU; omega) ch.rf
        rw [nI_0, ← e1] at x1
        rw [x1]
        by_cases hb : bkS (byV m (dN v1) 6) 6 0 = true
        · have rb := bkS_get 6 0 hb
          have g1 := x3 hb
          have r1 : ∀ g, g < 6 → gI M1 71 g = byV m (dN v1) 6 (g : Int) := fun g hg => by rw [g1 g, if_pos ⟨Nat.zero_le _, hg⟩]
          obtain ⟨M2, y1, y2, y3⟩ := smr_2 (v2 := v2) J FU s 0 0 M1 (by omega) (by unfold FU; omega) x2 (fun g hg => by
            have := rb g (Nat.zero_le _) (by omega)
            rw [r1 g hg]; omega)
          rw [nI_0, Nat.zero_add] at y1
          have l2 : ∀ g, g < 6 → (gI M2 71 g).toInt = lfS m s (dN v1) g := fun g hg => by rw [y3 g hg, r1 g hg]; rfl
          have lb : ∀ g, g < 6 → lfS m s (dN v1) g ≤ 9 := fun g hg => by
            have := rb g (Nat.zero_le _) (by omega)
            have := opF_r (T := TT m) (g := g) s 0
            unfold lfS; omega
          have t10 := tdF_r (T := TT m) s 0
          have cS := y2.up (P1_Sc (by omega))
          obtain ⟨r, w1, w2, w3⟩ := smr_3 (v2 := v2) l2 lb (cl := tdF (TT m) s 0) (by omega) FU 6 0 0 (by omega) (by unfold FU; omega) (by omega)
          rw [nI_0] at w1
          rw [if_pos hb, y1, w1, if_pos (show okD v1 ∧ brS m (dN v1) = 0 ∧ gI m (38 + dN v1) 4 = 6 ∧ (v2 = -1 ∨ okG s v2) ∧ bkS (byV m (dN v1) 6) 6 0 = true from ⟨h1.1, h1.2, h6, hv, hb⟩)]
          by_cases hs : nnS (lfS m s (dN v1)) 6 0 ∧ smS (lfS m s (dN v1)) 6 0 = (tdF (TT m) s 0 : Int)
          · rw [w2 ⟨hs.1, by have := hs.2; omega⟩]
            obtain ⟨r', p1, p2, p3⟩ := smr_4 (v2 := v2) (v4 := nI (tdF (TT m) s 0)) l2 FU 6 0 0 1 (by omega) (by unfold FU; omega) hs.1 (by have := hs.2; omega) (by show 1 ≤ 1; omega)
            rw [nI_0, show LN 1 = 1 from rfl] at p1
            rw [p1, p3, ways_eq hs.1 hs.2]
            have pb : wcS (lfS m s (dN v1)) 6 0 (tdF (TT m) s 0) 1 ≤ 3628800 := by rw [← ways_eq hs.1 hs.2]; exact p2
            by_cases hm1 : v2 = -1
            · rw [if_pos hm1, if_pos hm1]; exact ⟨M2, rfl, cS⟩
            · have hg := hv.resolve_left hm1
              obtain ⟨f1, f2, f3, f4⟩ := sg_n s10 hg
              have jk := J.2.2.1 (bN v2) f3
              have g64 : gI M2 64 (bN v2) = TT m 10 (bN v2) := by rw [y2.I rfl]; exact jk.2.2.2.1
              have g24 : gI M2 59 (24 + bN v2) = TT m 4 (bN v2) := by rw [y2.I rfl]; exact jk.1.1
              have e01 : TT m 10 (bN v2) = 0 ∨ TT m 10 (bN v2) = 1 := jk.2.2.2.2
              have e24 : (24 : Int32) + nI (bN v2) = nI (24 + bN v2) := by rw [show (24 : Int32) = nI 24 from rfl, nI_add]
              rw [if_neg hm1, if_neg hm1, f1, f2, if_pos (inB_nI (by omega) (by omega)), nI_clamp (by omega), g64]
              rcases e01 with ho | ho
              · have hn1 : ¬ TT m 10 (bN v2) = 1 := by rw [ho]; decide
                have t1 := tdF_1 (T := TT m) s 0 (bN v2) (Nat.zero_le _) (by omega) hn1
                have nz : ¬ LN (tdF (TT m) s 0) = 0 := fun z => by have := (LN_0 (a := tdF (TT m) s 0) (by omega)).mp z; omega
                have hnn : 0 ≤ lfS m s (dN v1) (sN v2) := by
                  have h6' := (six (l := lfS m s (dN v1))).1.mp hs.1
                  have : sN v2 = 0 ∨ sN v2 = 1 ∨ sN v2 = 2 ∨ sN v2 = 3 ∨ sN v2 = 4 ∨ sN v2 = 5 := by omega
                  rcases this with e | e | e | e | e | e <;> rw [e] <;> omega
                obtain ⟨ln, hln⟩ : ∃ x : Nat, lfS m s (dN v1) (sN v2) = x := ⟨(lfS m s (dN v1) (sN v2)).toNat, by omega⟩
                have e71 : gI M2 71 (sN v2) = nI ln := nI_of_toInt (by rw [l2 _ f4, hln])
                have lb9 := lb (sN v2) f4
                have hm : wcS (lfS m s (dN v1)) 6 0 (tdF (TT m) s 0) 1 * ln ≤ 3628800 * 9 := Nat.mul_le_mul pb (by omega)
                have ww := ways_with (l := lfS m s (dN v1)) (g := sN v2) f4 t1 hs.1 hs.2
                rw [hln, Int.toNat_natCast] at ww
                rw [if_pos ho, if_neg hn1, if_pos (inB_nI f4 (by omega)), nI_64 (by omega), if_neg nz, nI_clamp (by omega), e71, nI_64 (by omega), LN_mul (by omega) (by omega) (by omega), LN_div (by omega) (by omega) (by omega), ww]
                exact ⟨M2, rfl, cS⟩
              · rw [if_neg (by rw [ho]; decide), if_pos ho, e24, if_pos (inB_nI (by omega) (by omega)), nI_clamp (by omega), g24]
                by_cases h4 : TT m 4 (bN v2) = nI (sN v2)
                · rw [if_pos h4, if_pos h4]; exact ⟨M2, rfl, cS⟩
                · rw [if_neg h4, if_neg h4]; exact ⟨M2, rfl, cS⟩
          · rw [w3 (fun z => hs ⟨z.1, by have := z.2; omega⟩)]
            have e0 := wcS_0 (l := lfS m s (dN v1)) 6 0 (tdF (TT m) s 0) 1 hs
            rw [e0]
            refine ⟨M2, ?_, cS⟩
            by_cases hm1 : v2 = -1
            · rw [if_pos hm1]; rfl
            · have hg := hv.resolve_left hm1
              obtain ⟨f1, f2, f3, f4⟩ := sg_n s10 hg
              rw [if_neg hm1]
              by_cases ho : TT m 10 (bN v2) = 1
              · rw [if_pos ho]
                split <;> rfl
              · have t1 := tdF_1 (T := TT m) s 0 (bN v2) (Nat.zero_le _) (by omega) ho
                obtain ⟨d1, d2⟩ := nn_dec (l := lfS m s (dN v1)) f4
                rw [if_neg ho, wcS_0 (l := decL (lfS m s (dN v1)) (sN v2)) 6 0 (tdF (TT m) s 0 - 1) 1 (fun z => hs ⟨(d1.mp z.1).1, by have := z.2; omega⟩)]
                rfl
        · rw [if_neg hb, if_neg (fun q => hb q.2.2.2.2)]
          exact ⟨M1, rfl, x2.up (P1_Sc (by omega))⟩
      by_cases hm1 : v2 = -1
      · rw [if_pos hm1]; exact go (Or.inl hm1)
      · rw [if_neg hm1]
        by_cases hg : okG s v2
        · have h0 := hg.1
          have hq1 := dv10 h0
          have hq2 := rm10 h0
          rw [if_neg (by rw [toI_lt, z0]; omega), isSack_m J.1, Option.bind_some, i64, b01_t (by omega)]
          simp only [if_neg (show ¬ (1 : Int32) = 0 by decide), isGood_m, Option.bind_some, i64, b01_t (show 0 ≤ (iRem v2 10).toInt ∧ (iRem v2 10).toInt ≤ 5 by omega)]
          exact go (Or.inr hg)
        · unfold stkQ
          rw [if_neg (show ¬ (okD v1 ∧ brS m (dN v1) = 0 ∧ gI m (38 + dN v1) 4 = 6 ∧ (v2 = -1 ∨ okG s v2) ∧ bkS (byV m (dN v1) 6) 6 0 = true) from fun q => q.2.2.2.1.elim hm1 hg)]
          refine ⟨m, ?_, ch.rf⟩
          by_cases h0 : v2.toInt < 0
          · rw [if_pos (by rw [toI_lt, z0]; exact h0)]
          · have hq1 := dv10 (v := v2) (by omega)
            have hq2 := rm10 (v := v2) (by omega)
            rw [if_neg (by rw [toI_lt, z0]; exact h0), isSack_m J.1, Option.bind_some, i64]
            simp only [b01_0, isGood_m, Option.bind_some, i64]
            by_cases h3 : 0 ≤ (v2 / 10).toInt ∧ (v2 / 10).toInt < (s : Int)
            · rw [if_neg (fun q => q h3), if_pos (fun q => hg ⟨by omega, by omega, by omega⟩)]
            · rw [if_pos h3]
    · rw [if_neg h6]
      unfold stkQ
      rw [if_neg (fun q => h6 q.2.2.1)]
      exact ⟨m, rfl, ch.rf⟩
  · rw [if_pos h1]
    unfold stkQ
    rw [if_neg (fun q => h1 ⟨q.1, q.2.1⟩)]
    exact ⟨m, rfl, ch.rf⟩
theorem stock_j (J : JA m s b kn n t lv) : Ans (dX9_stock v1 v2) (dX10_stock v1 v2) m := Ans_sc J (pairQ (fun _ k => stock_x k) (fun _ k => stock_m k) (fun _ _ h => stkQ_ch h) J.1)
end STOCKM
