/-! ===== dealt: the class's answer ===== -/
section DEALG
variable {m : Mm} {s b kn n : Nat} {t : Nat → Nat} {lv : Option LF} {v1 v2 v3 v4 : Int32} {O g w : Nat → Int}
theorem dlx_4 (k : K m s b kn lv) : ∀ (N f i : Nat) (M : Mm) (D : Nat → Int), i + f = s → f < N → ch Pd m M → tbD M D → (∀ x, x < 64 → -1 ≤ D x ∧ D x ≤ 2000000000 * (i : Int)) → ∃ M2, DX2_bestDeal_19 N (nI i) M = DX2_bestDeal_56 FU 0 0 M2 ∧ ch Pd m M2 ∧ tbD M2 (Dk (frD (TT m)) (gnD (TT m) s lv) b f i D) := by
  have s10 := k.1.1.s10
  intro N
  induction N with
  | zero => intro f i M D h1 h2; omega
  | succ N ih =>
    intro f i M D h1 h2 c hD hB
    have cS := c.up Pd_Sc
    have KM := k.ch cS
    show ∃ M2, BX2_bestDeal_19 (DX2_bestDeal_19 N) (nI i) M = _ ∧ _
    unfold BX2_bestDeal_19 DX2_bestDeal_46
    rw [KM.1.1.2.2.1]
    cases f with
    | zero =>
      have e : i = s := by omega
      subst e
      rw [if_pos (Int32.le_refl _)]
      exact ⟨M, rfl, c, hD⟩
    | succ f =>
      have his : i < s := by omega
      have ei : (nI i).toInt = i := nI_toInt (by omega)
      rw [if_neg (nI_ge his (by omega)), free_x KM.1 his, Option.bind_some, TT_Sc cS]
      simp only [b01_0, nI_1]
      by_cases hf : (TT m 9 i).toInt < 0 ∧ ¬ TT m 10 i = 1
      · rw [if_neg (fun z => z hf)]
        have e5 : gI M 8 i = TT m 5 i := by rw [← TT_Sc cS]; rfl
        have hO : ∀ x, x < 64 → -1 ≤ D x ∧ D x ≤ 20000000000 := fun x hx => by have := hB x hx; omega
        obtain ⟨M1, x1, x2, x3⟩ := dlx_3 k his hO FU b 0 M (by omega) (by have := k.1.1.b6; unfold FU; omega) c hD (fun j hj => absurd hj (by omega))
        have one : dX2_dealOne (nI i) M = some ((), M1) := by
          unfold dX2_dealOne
          rw [told_x KM.1.1 (wn := 5) (by simp) ei (by unfold hd; omega), Option.bind_some]
          dsimp only [Nat.reduceAdd]
          rw [e5, ← x1, nI_0]
        rw [one, Option.bind_some]
        have e : Dk (frD (TT m)) (gnD (TT m) s lv) b (f + 1) i D = Dk (frD (TT m)) (gnD (TT m) s lv) b f (i + 1) (stS (fun b => gnD (TT m) s lv b i) (fun b => wS (gnD (TT m) s lv) b i) b 64 D) := by
          show Dk (frD (TT m)) (gnD (TT m) s lv) b f (i + 1) (if frD (TT m) i then _ else D) = _
          rw [if_pos (show frD (TT m) i = true from decide_eq_true hf)]
        rw [e]
        refine ih f (i + 1) M1 _ (by omega) (by omega) x2 x3 (fun x hx => ?_)
        have := stS_r (lv := lv) k his (B := 2000000000 * (i : Int)) hB x hx
        exact ⟨this.1, by omega⟩
      · rw [if_pos hf]
        have e : Dk (frD (TT m)) (gnD (TT m) s lv) b (f + 1) i D = Dk (frD (TT m)) (gnD (TT m) s lv) b f (i + 1) D := by
          show Dk (frD (TT m)) (gnD (TT m) s lv) b f (i + 1) (if frD (TT m) i then _ else D) = _
          rw [if_neg (show ¬ frD (TT m) i = true from fun z => hf (of_decide_eq_true z))]
        rw [e]
        exact ih f (i + 1) M D (by omega) (by omega) c hD (fun x hx => by have := hB x hx; omega)
theorem dlx_5 {M : Mm} {D : Nat → Int} (hD : tbD M D) : ∀ (N f x : Nat) (Y : Int64), x + f = 64 → f < N → ∃ Y2, DX2_bestDeal_56 N Y (nI x) M = some (Y2, M) ∧ Y2.toInt = bsD D f x Y.toInt := by
  intro N
  induction N with
  | zero => intro f x Y h1 h2; omega
  | succ N ih =>
    intro f x Y h1 h2
    show ∃ Y2, BX2_bestDeal_56 (DX2_bestDeal_56 N) Y (nI x) M = _ ∧ _
    unfold BX2_bestDeal_56
    cases f with
    | zero =>
      have e : x = 64 := by omega
      subst e
      rw [if_pos (show (64 : Int32) ≤ nI 64 by decide)]
      exact ⟨Y, rfl, rfl⟩
    | succ f =>
      rw [if_neg (show ¬ (64 : Int32) ≤ nI x from nI_ge (b := 64) (by omega) (by omega)), if_pos (inB_nI (by omega) (by omega)), nI_clamp (by omega), nI_1]
      obtain ⟨Y2, y1, y2⟩ := ih f (x + 1) (lMax Y (gL M 21 x)) (by omega) (by omega)
      refine ⟨Y2, y1, ?_⟩
      rw [y2, lMax_i, hD x (by omega)]; rfl
theorem bestDeal_x (k : K m s b kn lv) : ∃ X M2, dX2_bestDeal m = some (X, M2) ∧ X.toInt = Mx (frD (TT m)) (gnD (TT m) s lv) s b 0 0 ∧ ch Pd m M2 := by
  have s10 := k.1.1.s10
  have b6 := k.1.1.b6
  have c0 : ch Pd m (sL (flL m 21 64 (-1)) 21 0 0) := (ch.flL (fun _ _ => rfl)).tr (ch.sL rfl)
  have h0 : tbD (sL (flL m 21 64 (-1)) 21 0 0) D0 := fun x hx => by
    rw [gL_sL, gL_flL]
    unfold D0
    by_cases e : x = 0
    · rw [if_pos ⟨rfl, e⟩, if_pos e]; rfl
    · rw [if_neg (fun z => e z.2), if_neg e, if_pos rfl, if_pos hx]; rfl
  obtain ⟨M1, x1, x2, x3⟩ := dlx_4 k FU s 0 _ D0 (by omega) (by unfold FU; omega) c0 h0 (fun x _ => by unfold D0; split <;> omega)
  obtain ⟨Y, y1, y2⟩ := dlx_5 x3 FU 64 0 0 (by omega) (by unfold FU; omega)
  unfold dX2_bestDeal
  rw [nI_0] at x1 y1
  rw [x1, y1]
  refine ⟨Y, M1, rfl, ?_, x2⟩
  rw [y2, show (0 : Int64).toInt = 0 from rfl]
  exact deal_eq s10 b6
theorem Mx_r (k : K m s b kn lv) : 0 ≤ Mo (frD (TT m)) (gnD (TT m) s lv) s b 0 0 ∧ Mo (frD (TT m)) (gnD (TT m) s lv) s b 0 0 ≤ 5994 ∧ 0 ≤ Mx (frD (TT m)) (gnD (TT m) s lv) s b 0 0 ∧ Mx (frD (TT m)) (gnD (TT m) s lv) s b 0 0 / 1771561 = Mo (frD (TT m)) (gnD (TT m) s lv) s b 0 0 := by
  have s10 := k.1.1.s10
  have b6 := k.1.1.b6
  have r := Mo_r (fr := frD (TT m)) (gn := gnD (TT m) s lv) (fun bb kk hk => (gnD_r k.1 hk).2) s10 b 0 0
  obtain ⟨dg, l1, l2, l3⟩ := link (fr := frD (TT m)) (gn := gnD (TT m) s lv) s10 b 0 0 (by omega)
  have l3' : dg < 1771561 := by
    have e : (11 : Int) ^ (6 - 0) = 1771561 := by decide
    rw [e] at l3; exact l3
  rw [l1]
  generalize Mo (frD (TT m)) (gnD (TT m) s lv) s b 0 0 = V at *
  exact ⟨r.1, by omega, by omega, by omega⟩
def dlQ (m : Mm) (s b : Nat) (lv : Option LF) (v1 : Int32) : Int32 := if v1 = -1 then nI (Mo (frD (TT m)) (gnD (TT m) s lv) s b 0 0).toNat else if 0 ≤ v1.toInt ∧ v1.toInt < (b : Int) then (if rdD (frD (TT m)) (gnD (TT m) s lv) s v1.toInt.toNat b 0 0 = 10 then -2 else nI (rdD (frD (TT m)) (gnD (TT m) s lv) s v1.toInt.toNat b 0 0)) else -1
theorem dlQ_ch {m m' : Mm} (c : ch Sc m m') : dlQ m' s b lv v1 = dlQ m s b lv v1 := by unfold dlQ; rw [TT_Sc c]
theorem sk_l {r : Nat} {M : Mm} (hr : r ≤ 10) : ∀ (N f i : Nat) (X : Int64), i + f = 6 → f < N → 0 ≤ X.toInt → (X.toInt / (11 : Int) ^ f) % 11 = 10 - (r : Int) → DX2_dealtSack_8 N X (nI i) M = some (if r = 10 then -2 else nI r, M) := by
  intro N
  induction N with
  | zero => intro f i X h1 h2; omega
  | succ N ih =>
    intro f i X h1 h2 hX h
    show BX2_dealtSack_8 (DX2_dealtSack_8 N) X (nI i) M = _
    unfold BX2_dealtSack_8
    have z11 : (11 : Int64).toInt = 11 := rfl
    cases f with
    | zero =>
      have e : i = 6 := by omega
      subst e
      rw [if_pos (show (6 : Int32) ≤ nI 6 by decide)]
      have h' : X.toInt % 11 = 10 - (r : Int) := by
        rw [show (11 : Int) ^ 0 = 1 from rfl, Int.ediv_one] at h; exact h
      have d2 : (lRem X 11).toInt = 10 - (r : Int) := by
        rw [lRem_toInt hX (by decide), z11]; exact h'
      have d3 : (Int64.toInt32 (lRem X 11)).toInt = 10 - (r : Int) := by
        rw [Int64.toInt_toInt32, d2, Int.bmod_eq_of_le (by omega) (by omega)]
      generalize Int64.toInt32 (lRem X 11) = y at d3
      by_cases e : r = 10
      · have : y = 0 := Int32.toInt_inj.mp (by rw [d3, e]; rfl)
        rw [if_pos this, if_pos e]
      · have z10 : (10 : Int32).toInt = 10 := rfl
        have : ¬ y = 0 := fun z => by rw [z] at d3; have : (0 : Int32).toInt = 0 := rfl; omega
        rw [if_neg this, if_neg e]
        have : (10 : Int32) - y = nI r := nI_of_toInt (by rw [iSub (by rw [z10, d3]; omega) (by rw [z10, d3]; omega), z10, d3]; omega)
        rw [this]
    | succ f =>
      have d1 : (X / 11).toInt = X.toInt / 11 := by rw [lDiv hX (by decide), z11]
      rw [if_neg (show ¬ (6 : Int32) ≤ nI i from nI_ge (b := 6) (by omega) (by omega)), nI_1]
      refine ih f (i + 1) (X / 11) (by omega) (by omega) (by rw [d1]; exact Int.ediv_nonneg hX (by decide)) ?_
      rw [d1, Int.ediv_ediv_of_nonneg (by decide), Int.mul_comm, ← Int.pow_succ]
      exact h
theorem sack_x {X : Int64} {bn r : Nat} (hb : bn < 6) (hX : 0 ≤ X.toInt) (h : (X.toInt / (11 : Int) ^ (5 - bn)) % 11 = 10 - (r : Int)) (hr : r ≤ 10) {M : Mm} : dX2_dealtSack X (nI bn) M = some (if r = 10 then -2 else nI r, M) := by
  unfold dX2_dealtSack
  rw [nI_1]
  exact sk_l hr FU (5 - bn) (bn + 1) X (by omega) (by unfold FU; omega) hX h
theorem dealt_x (k : K m s b kn lv) : ∃ m1, dX9_dealt v1 m = some (dlQ m s b lv v1, m1) ∧ ch Sc m m1 := by
  have s10 := k.1.1.s10
  have b6 := k.1.1.b6
  obtain ⟨X, M1, x1, x2, x3⟩ := bestDeal_x k
  have r := Mx_r k
  unfold dX9_dealt DX9_dealt_20 dlQ
  by_cases h1 : v1 = -1
  · rw [if_pos h1, if_pos h1, x1, Option.bind_some]
    simp only [if_pos h1]
    refine ⟨M1, ?_, x3.up Pd_Sc⟩
    unfold dX2_dealtWorth
    rw [Option.bind_some]
    have zM : (1771561 : Int64).toInt = 1771561 := rfl
    have e : (Int64.toInt32 (X / 1771561)).toInt = ((Mo (frD (TT m)) (gnD (TT m) s lv) s b 0 0).toNat : Int) := by
      rw [Int64.toInt_toInt32, lDiv (by rw [x2]; exact r.2.2.1) (by decide), zM, x2, r.2.2.2, Int.bmod_eq_of_le (by omega) (by omega)]
      omega
    rw [nI_of_toInt e]
  · rw [if_neg h1, if_neg h1, holds_x k.1.1, Option.bind_some]
    simp only [b01_0, if_neg h1]
    by_cases h2 : 0 ≤ v1.toInt ∧ v1.toInt < (b : Int)
    · obtain ⟨bn, hbn⟩ : ∃ q : Nat, v1.toInt = q := ⟨v1.toInt.toNat, by omega⟩
      have z6 : (6 : Int32).toInt = 6 := rfl
      rw [if_neg (fun q => q (by unfold hd; rw [z6]; omega)), if_pos h2, x1, Option.bind_some]
      refine ⟨M1, ?_, x3.up Pd_Sc⟩
      have dg := digit (fr := frD (TT m)) (gn := gnD (TT m) s lv) s10 bn b 0 0 0 X.toInt (by rw [x2, Int.mul_zero, Int.zero_add]) (by omega) (by omega)
      rw [Nat.zero_add] at dg
      simp only []
      rw [nI_of_toInt hbn, sack_x (r := rdD (frD (TT m)) (gnD (TT m) s lv) s bn b 0 0) (by omega) (by rw [x2]; exact r.2.2.1) dg.1 dg.2, Option.bind_some, nI_toInt (by omega), Int.toNat_natCast]
    · have z6 : (6 : Int32).toInt = 6 := rfl
      rw [if_pos (fun q => h2 (by unfold hd at q; rw [z6] at q; omega)), if_neg h2]
      exact ⟨m, rfl, ch.rf⟩
end DEALG
