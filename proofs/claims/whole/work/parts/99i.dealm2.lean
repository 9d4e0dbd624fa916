/-! ===== dealt: the reference's answer ===== -/
section DEALI
variable {m : Mm} {s b kn n : Nat} {t : Nat → Nat} {lv : Option LF} {v1 v2 v3 v4 : Int32}
theorem tb7_ch {M M' : Mm} {fr : Nat → Bool} {gn : Nat → Nat → Int} {bb : Nat} (h : tb7 M fr gn s b bb) (c : ch Pbt M M') : tb7 M' fr gn s b bb := fun j h1 h2 x hx => by rw [c.I rfl]; exact h j h1 h2 x hx
def hasS (x : Nat) : Int32 := if x = 10 then -2 else nI x
/-- which sack, of one buyer -/
theorem dlm_6 (k : K m s b kn lv) {k253 : Int32 → Int32 → Int32 → Int32 → Mm → Option (Int32 × Mm)} {j go : Nat} (hj : j < b) (hgo : go < 2 ^ s) : ∀ (N f i : Nat) (M : Mm), i + f = s → f < N → ch Pdr m M → tb7 M (frD (TT m)) (gnD (TT m) s lv) s b 0 → ∃ M2, DX10_dealt_265 k253 N v1 (nI go) (-2) (nI j) (nI i) M = DX10_dealt_375 k253 v1 (nI go) (hasS (fsS (grP (frD (TT m)) (gnD (TT m) s lv) s (b - (j + 1)) j go) f i)) (nI j) M2 ∧ ch Pdr m M2 ∧ tb7 M2 (frD (TT m)) (gnD (TT m) s lv) s b 0 := by
  have s10 := k.1.1.s10
  have b6 := k.1.1.b6
  have p10 : 2 ^ s ≤ 2 ^ 10 := Nat.pow_le_pow_right (by omega) s10
  intro N
  induction N with
  | zero => intro f i M h1 h2; omega
  | succ N ih =>
    intro f i M h1 h2 c hT
    show ∃ M2, BX10_dealt_265 k253 (DX10_dealt_265 k253 N) v1 (nI go) (-2) (nI j) (nI i) M = _ ∧ _
    unfold BX10_dealt_265 DX10_dealt_353 DX10_dealt_354 DX10_dealt_368
    rw [show gI M 58 6 = nI s by rw [c.I rfl]; exact k.1.1.2.2.2.2.1]
    cases f with
    | zero =>
      have e : i = s := by omega
      subst e
      rw [if_pos (Int32.le_refl _)]
      exact ⟨M, rfl, c, hT⟩
    | succ f =>
      have his : i < s := by omega
      obtain ⟨r, M1, x1, x2, x3⟩ := gain_n k hj his c
      have c1 := c.tr (x2.up Pbt_dr)
      have cS := c1.up Pdr_Sc
      have KM := k.ch cS
      have hT1 := tb7_ch hT x2
      rw [if_neg (nI_ge his (by omega)), if_neg (show ¬ (0 : Int32) ≤ -2 by decide), x1, Option.bind_some]
      simp only []
      rw [free_m KM.1 his, Option.bind_some, TT_Sc cS]
      simp only [b01_0, nI_1]
      simp only [if_true, if_neg (show ¬ (1 : Int32) = 0 by decide)]
      have skip : ¬ grP (frD (TT m)) (gnD (TT m) s lv) s (b - (j + 1)) j go i = true → ∃ M2, DX10_dealt_265 k253 N v1 (nI go) (-2) (nI j) (nI (i + 1)) M1 = DX10_dealt_375 k253 v1 (nI go) (hasS (fsS (grP (frD (TT m)) (gnD (TT m) s lv) s (b - (j + 1)) j go) (f + 1) i)) (nI j) M2 ∧ ch Pdr m M2 ∧ tb7 M2 (frD (TT m)) (gnD (TT m) s lv) s b 0 := fun q => by
        obtain ⟨M2, e1, e2⟩ := ih f (i + 1) M1 (by omega) (by omega) c1 hT1
        refine ⟨M2, ?_, e2⟩
        rw [e1]
        conv => rhs; unfold fsS
        rw [if_neg q]
      by_cases hf : (TT m 9 i).toInt < 0 ∧ ¬ TT m 10 i = 1
      · have g9 := x3 hf.2
        have rr := gnD_r (lv := lv) k.1 (bn := j) his
        rw [if_neg (fun z => z hf), isIn_m (by omega) (by omega), Option.bind_some]
        simp only []
        by_cases hbit : btS go i = 0
        · have hbit' : go / 2 ^ i % 2 = 0 := hbit
          rw [hbit', if_pos (show (if (0 : Nat) = 1 then (1 : Int32) else 0) = 0 by decide)]
          by_cases hg : 0 ≤ gnD (TT m) s lv j i
          · have up := btS_up hbit hgo his
            have hA := hT1 (j + 1) (Nat.zero_le _) (by omega) (go + 2 ^ i) up
            have hB := hT1 j (Nat.zero_le _) (by omega) go hgo
            have mr := Mo_r (fr := frD (TT m)) (gn := gnD (TT m) s lv) (fun bb kk hk => (gnD_r k.1 hk).2) s10 (b - (j + 1)) (j + 1) (go + 2 ^ i)
            rw [if_neg (fun z => by have := toI_lt.mp z; rw [g9] at this; exact absurd this (by have : (0 : Int32).toInt = 0 := rfl; omega)), or_l (by omega) (by omega) hbit', dAt (by omega), Option.bind_some]
            simp only [if_pos (inB_nI (show 1024 * (j + 1) + (go + 2 ^ i) < 7168 by omega) (by omega)), nI_clamp (show 1024 * (j + 1) + (go + 2 ^ i) < 2 ^ 31 by omega)]
            rw [dAt (by omega), Option.bind_some]
            simp only [if_pos (inB_nI (show 1024 * j + go < 7168 by omega) (by omega)), nI_clamp (show 1024 * j + go < 2 ^ 31 by omega)]
            have es : (r + gI M1 70 (1024 * (j + 1) + (go + 2 ^ i))).toInt = gnD (TT m) s lv j i + Mo (frD (TT m)) (gnD (TT m) s lv) s (b - (j + 1)) (j + 1) (go + 2 ^ i) := by
              have l1 : (Mo (frD (TT m)) (gnD (TT m) s lv) s (b - (j + 1)) (j + 1) (go + 2 ^ i)) ≤ 5994 := by omega
              rw [iAdd (by rw [g9, hA]; omega) (by rw [g9, hA]; omega), g9, hA]
            rw [show b - j = b - (j + 1) + 1 by omega] at hB
            by_cases hq : r + gI M1 70 (1024 * (j + 1) + (go + 2 ^ i)) = gI M1 70 (1024 * j + go)
            · rw [if_pos hq]
              have ev : gnD (TT m) s lv j i + Mo (frD (TT m)) (gnD (TT m) s lv) s (b - (j + 1)) (j + 1) (go + 2 ^ i) = Mo (frD (TT m)) (gnD (TT m) s lv) s (b - (j + 1) + 1) j go := by rw [← es, ← hB, hq]
              have ok : grP (frD (TT m)) (gnD (TT m) s lv) s (b - (j + 1)) j go i = true := by
                have ok0 : okW (frD (TT m)) (gnD (TT m) s lv) j i = true := by
                  unfold okW frD
                  rw [decide_eq_true hf, decide_eq_true hg]; rfl
                unfold grP
                rw [ok0, decide_eq_true hbit, decide_eq_true ev]; rfl
              have efs : fsS (grP (frD (TT m)) (gnD (TT m) s lv) s (b - (j + 1)) j go) (f + 1) i = i := by
                unfold fsS; rw [if_pos ok]
              have ehs : hasS i = nI i := if_neg (by omega)
              rw [efs, ehs]
              refine ⟨M1, ?_, c1, hT1⟩
              obtain ⟨N, rfl⟩ : ∃ q, N = q + 1 := ⟨N - 1, by omega⟩
              show BX10_dealt_265 k253 (DX10_dealt_265 k253 N) v1 (nI go) (nI i) (nI j) (nI (i + 1)) M1 = _
              unfold BX10_dealt_265
              rw [if_pos (show (0 : Int32) ≤ nI i from toI_le.mpr (by rw [nI_toInt (by omega)]; have : (0 : Int32).toInt = 0 := rfl; omega))]
              split <;> rfl
            · rw [if_neg hq]
              exact skip (fun z => by
                unfold grP at z
                rw [Bool.and_eq_true, decide_eq_true_eq] at z
                exact hq (Int32.toInt_inj.mp (by rw [es, hB]; exact z.2)))
          · rw [if_pos (toI_lt.mpr (by rw [g9]; have : (0 : Int32).toInt = 0 := rfl; omega))]
            exact skip (fun z => by
              unfold grP okW at z
              rw [decide_eq_false hg, Bool.and_false, Bool.false_and, Bool.false_and] at z
              exact absurd z (by decide))
        · have hb1 : go / 2 ^ i % 2 = 1 := by
            have h1 : ¬ go / 2 ^ i % 2 = 0 := hbit
            have h2 : go / 2 ^ i % 2 < 2 := Nat.mod_lt _ (by omega)
            generalize go / 2 ^ i % 2 = z at h1 h2 ⊢
            omega
          rw [hb1, if_neg (show ¬ (if (1 : Nat) = 1 then (1 : Int32) else 0) = 0 by decide)]
          exact skip (fun z => by
            unfold grP at z
            rw [decide_eq_false hbit, Bool.and_false, Bool.false_and] at z
            exact absurd z (by decide))
      · rw [if_pos hf]
        exact skip (fun z => by
          unfold grP okW frD at z
          rw [decide_eq_false hf, Bool.false_and, Bool.false_and, Bool.false_and] at z
          exact absurd z (by decide))
/-- buyer by buyer -/
theorem dlm_7 (k : K m s b kn lv) {bn : Nat} (hbn : bn < b) : ∀ (N n j go : Nat) (h : Int32) (M : Mm), j + n = bn → n + 1 < N → go < 2 ^ s → ch Pdr m M → tb7 M (frD (TT m)) (gnD (TT m) s lv) s b 0 → ∃ M2, DX10_dealt_253 N (nI bn) (nI go) h (nI j) M = some (hasS (rdD (frD (TT m)) (gnD (TT m) s lv) s n (b - j) j go), M2) ∧ ch Pdr m M2 := by
  have s10 := k.1.1.s10
  have b6 := k.1.1.b6
  have p10 : 2 ^ s ≤ 2 ^ 10 := Nat.pow_le_pow_right (by omega) s10
  intro N
  induction N with
  | zero => intro n j go h M h1 h2; omega
  | succ N ih =>
    intro n j go h M h1 h2 hgo c hT
    show ∃ M2, BX10_dealt_253 (DX10_dealt_253 N) (nI bn) (nI go) h (nI j) M = _ ∧ _
    unfold BX10_dealt_253
    obtain ⟨M1, x1, x2, x3⟩ := dlm_6 (v1 := nI bn) (k253 := DX10_dealt_253 N) k (j := j) (by omega) hgo FU s 0 M (by omega) (by unfold FU; omega) c hT
    rw [nI_0] at x1
    rw [if_neg (fun z => by have := toI_lt.mp z; rw [nI_toInt (by omega), nI_toInt (by omega)] at this; omega), x1]
    obtain ⟨g1, g2⟩ := greedy (fr := frD (TT m)) (gn := gnD (TT m) s lv) (f := b - (j + 1)) (b := j) (go := go) s10 (by omega)
    unfold grD at g1
    generalize hx : fsS (grP (frD (TT m)) (gnD (TT m) s lv) s (b - (j + 1)) j go) s 0 = x at g1
    have eg : grD (frD (TT m)) (gnD (TT m) s lv) s (b - j - 1) j go = x := by rw [show b - j - 1 = b - (j + 1) by omega]; exact hx
    have step : DX10_dealt_375 (DX10_dealt_253 N) (nI bn) (nI go) (hasS x) (nI j) M1 = DX10_dealt_253 N (nI bn) (nI (nxD go x)) (hasS x) (nI (j + 1)) M1 ∧ nxD go x < 2 ^ s := by
      unfold DX10_dealt_375 DX10_dealt_387 hasS nxD
      rw [nI_1]
      rcases g1 with ⟨q1, q2⟩ | ⟨q1, q2, q3, q4⟩
      · rw [if_pos q1, if_pos q1, if_neg (show ¬ (0 : Int32) ≤ -2 by decide), Int32.or_zero]
        exact ⟨rfl, hgo⟩
      · rw [if_neg (show ¬ x = 10 by omega), if_neg (show ¬ x = 10 by omega), if_pos (show (0 : Int32) ≤ nI x from toI_le.mpr (by rw [nI_toInt (by omega)]; have : (0 : Int32).toInt = 0 := rfl; omega)), or_l (by omega) (by omega) q3]
        exact ⟨rfl, btS_up q3 hgo q1⟩
    rw [step.1]
    cases n with
    | zero =>
      have e : j = bn := by omega
      subst e
      obtain ⟨N, rfl⟩ : ∃ q, N = q + 1 := ⟨N - 1, by omega⟩
      refine ⟨M1, ?_, x2⟩
      show BX10_dealt_253 (DX10_dealt_253 N) (nI j) (nI (nxD go x)) (hasS x) (nI (j + 1)) M1 = some (hasS (grD (frD (TT m)) (gnD (TT m) s lv) s (b - j - 1) j go), M1)
      unfold BX10_dealt_253
      rw [eg, if_pos (toI_lt.mpr (by rw [nI_toInt (by omega), nI_toInt (by omega)]; omega))]
    | succ n =>
      obtain ⟨M2, y1, y2⟩ := ih n (j + 1) (nxD go x) (hasS x) M1 (by omega) (by omega) step.2 x2 x3
      refine ⟨M2, ?_, y2⟩
      rw [y1]
      show _ = some (hasS (rdD (frD (TT m)) (gnD (TT m) s lv) s n (b - j - 1) (j + 1) (nxD go (grD (frD (TT m)) (gnD (TT m) s lv) s (b - j - 1) j go))), M2)
      rw [eg, show b - j - 1 = b - (j + 1) by omega]
theorem dealt_m (k : K m s b kn lv) : ∃ m1, dX10_dealt v1 m = some (dlQ m s b lv v1, m1) ∧ ch Sc m m1 := by
  have s10 := k.1.1.s10
  have b6 := k.1.1.b6
  have pw : 0 < 2 ^ s := Nat.pow_pos (by omega)
  have p10 : 2 ^ s ≤ 2 ^ 10 := Nat.pow_le_pow_right (by omega) s10
  have r := Mx_r k
  have tab : ∃ M2, DX10_dealt_16 v1 m = dEnd v1 M2 ∧ ch Pdr m M2 ∧ tb7 M2 (frD (TT m)) (gnD (TT m) s lv) s b 0 := by
    obtain ⟨M1, x1, x2, x3⟩ := dlm_1 (v1 := v1) k.1 FU 1024 0 m (by omega) (by unfold FU; omega) ch.rf (fun j hj => absurd hj (by omega))
    unfold DX10_dealt_16
    rw [nI_0] at x1
    rw [x1]
    refine dlm_5 k FU b M1 (Nat.le_refl _) (by unfold FU; omega) x2 (fun j j1 j2 x hx => ?_)
    have e : j = b := by omega
    subst e
    rw [x3 x (by omega), Nat.sub_self]; rfl
  obtain ⟨M2, y1, y2, y3⟩ := tab
  unfold dX10_dealt dlQ
  by_cases h1 : v1 = -1
  · rw [if_pos h1, if_pos h1, y1]
    unfold dEnd
    rw [if_pos h1]
    refine ⟨M2, ?_, y2.up Pdr_Sc⟩
    have z := y3 0 (Nat.le_refl _) (Nat.zero_le _) 0 pw
    rw [show 1024 * 0 + 0 = 0 from rfl, Nat.sub_zero] at z
    have e : (gI M2 70 0).toInt = ((Mo (frD (TT m)) (gnD (TT m) s lv) s b 0 0).toNat : Int) := by rw [z]; omega
    rw [nI_of_toInt e]
  · rw [if_neg h1, if_neg h1, isBuyer_m k.1.1, Option.bind_some]
    simp only [b01_0, i64]
    by_cases h2 : 0 ≤ v1.toInt ∧ v1.toInt < (b : Int)
    · obtain ⟨bn, hbn⟩ : ∃ q : Nat, v1.toInt = q := ⟨v1.toInt.toNat, by omega⟩
      rw [if_neg (fun q => q h2), if_pos h2, y1]
      unfold dEnd
      rw [if_neg h1]
      obtain ⟨M3, z1, z2⟩ := dlm_7 k (bn := bn) (by omega) FU bn 0 0 (-2) M2 (by omega) (by unfold FU; omega) pw y2 y3
      rw [nI_0, ← nI_of_toInt hbn] at z1
      rw [z1, hbn, Int.toNat_natCast, Nat.sub_zero]
      exact ⟨M3, rfl, z2.up Pdr_Sc⟩
    · rw [if_pos h2, if_neg h2]
      exact ⟨m, rfl, ch.rf⟩
theorem dealt_j (J : JA m s b kn n t lv) : Ans (dX9_dealt v1) (dX10_dealt v1) m := Ans_sc J (pairQ (fun _ k => dealt_x k) (fun _ k => dealt_m k) (fun _ _ h => dlQ_ch h) J.1)
end DEALI
