/-! ===== buys, the reference's side ===== -/
section BUYSM
variable {m : Mm} {s b kn n d ln : Nat} {t : Nat → Nat} {lv : Option LF} {v1 v2 v3 v4 : Int32} {g a gr : Nat → Int} {fr : Nat → Bool}
theorem vS_z : ∀ f k, vS g f k 0 = 0
  | 0, _ => rfl
  | f + 1, k => by
    show (if 0 % 2 = 1 then g k else 0) + vS g f (k + 1) (0 / 2) = 0
    rw [show 0 / 2 = 0 from rfl, vS_z f (k + 1)]; rfl
theorem frB_z : ∀ f k, frB fr f k 0 = true
  | 0, _ => rfl
  | f + 1, k => by
    show ((if 0 % 2 = 1 then fr k else true) && frB fr f (k + 1) (0 / 2)) = true
    rw [show 0 / 2 = 0 from rfl, frB_z f (k + 1)]; rfl
theorem vS_cut (j : Nat) : ∀ f k y, y < 2 ^ f → vS g (f + j) k y = vS g f k y
  | 0, k, y, h => by
    have e : y = 0 := by rw [Nat.pow_zero] at h; omega
    subst e
    rw [vS_z, vS_z]
  | f + 1, k, y, h => by
    rw [Nat.pow_succ] at h
    rw [show f + 1 + j = f + j + 1 by omega]
    show (if y % 2 = 1 then g k else 0) + vS g (f + j) (k + 1) (y / 2) = (if y % 2 = 1 then g k else 0) + vS g f (k + 1) (y / 2)
    rw [vS_cut j f (k + 1) (y / 2) (by omega)]
theorem frB_cut (j : Nat) : ∀ f k y, y < 2 ^ f → frB fr (f + j) k y = frB fr f k y
  | 0, k, y, h => by
    have e : y = 0 := by rw [Nat.pow_zero] at h; omega
    subst e
    rw [frB_z, frB_z]
  | f + 1, k, y, h => by
    rw [Nat.pow_succ] at h
    rw [show f + 1 + j = f + j + 1 by omega]
    show ((if y % 2 = 1 then fr k else true) && frB fr (f + j) (k + 1) (y / 2)) = ((if y % 2 = 1 then fr k else true) && frB fr f (k + 1) (y / 2))
    rw [frB_cut j f (k + 1) (y / 2) (by omega)]
def Pbg (o k : Nat) : Bool := o == 69 || o == 68 || o == 67 || (o == 58 && (decide (14 ≤ k) && decide (k ≤ 18)))
theorem Pbg_Sc : ∀ o k, Sc o k = false → Pbg o k = false := up_of fun o k h => by unfold Pbg at h; unfold Sc; simp at h ⊢; omega
theorem Pbt_bg : ∀ o k, Pbg o k = false → Pbt o k = false := up_of fun o k h => by unfold Pbt at h; unfold Pbg; simp at h ⊢; omega
theorem gainOf_m (k : K m s b kn lv) {bn i : Nat} (hb : bn < b) (hi : i < s) (hd' : d < 6) (B : BR m d ln) {M : Mm} (c : ch Pbg m M) : ∃ M2, dX10_gainOf (nI d) (nI bn) (nI i) M = some (ctS (TT m) s lv (fun i => byV m d ln i) bn i - TT m 5 i, M2) ∧ ch Pbt M M2 := by
  have s10 := k.1.1.s10
  have cS := c.up Pbg_Sc
  have KM := k.ch cS
  have eT := TT_Sc cS
  have B1 := B.ch hd' cS
  have eB : byV M d ln = byV m d ln := byV_c cS (fun k => Sc_el hd')
  obtain ⟨M1, x1, x2, x3⟩ := weighs_m KM.1 hb hi hd' B1
  rw [eB, eT] at x3
  have c1 := x2.up bt_8
  have cS1 := cS.tr (c1.up Pbt_Sc)
  have KM1 := k.ch cS1
  have wb := wghS_b k.1 (B := fun i => byV m d ln i) hb hi
  have tb := total_b wb
  have e34 : (34 : Int32) + nI i = nI (34 + i) := by rw [show (34 : Int32) = nI 34 from rfl, nI_add]
  have g34 : gI M1 59 (34 + i) = TT m 5 i := by rw [cS1.I (o := 59) rfl]; exact (k.1.2.2.1 i hi).2.1.1
  obtain ⟨M2, y1, y2⟩ := worthAll_m KM1.1 KM1.2.2.1 (v2 := nI i) hb x3 (asked := TT m 5 i)
  rw [TT_Sc cS1] at y1
  have w2 := x3.ch y2 (fun _ => rfl)
  have n0 : ¬ sumL (wghS (fun i => byV m d ln i) (TT m) s bn i) 6 = 0 := fun z => by have := tb.1; rw [z] at this; exact absurd this (by decide)
  unfold dX10_gainOf
  rw [x1, Option.bind_some]
  simp only [e34, if_pos (inB_nI (show 34 + i < 62 by omega) (by omega)), nI_clamp (show 34 + i < 2 ^ 31 by omega), g34]
  rw [y1, Option.bind_some]
  simp only []
  rw [weightAll_m w2, Option.bind_some]
  simp only [if_neg n0]
  exact ⟨M2, rfl, c1.tr (y2.up bt_w)⟩
def rvS (T : Nat → Nat → Int32) (s : Nat) (lv : Option LF) (B : Nat → Int32) (b k : Nat) : Int32 := ctS T s lv B b k - T 5 k
theorem buysm_1 (k : K m s b kn lv) {bn : Nat} (hb : bn < b) (hd' : d < 6) (B : BR m d ln) : ∀ (N f i : Nat) (M : Mm), i + f = s → f < N → ch Pbg m M → (∀ j, j < i → gI M 69 j = rvS (TT m) s lv (fun i => byV m d ln i) bn j) → ∃ M2, DX10_buys_47 N (nI d) (nI bn) v3 (nI i) M = DX10_buys_86 FU (nI bn) v3 0 0 1 M2 ∧ ch Pbg m M2 ∧ ∀ j, j < s → gI M2 69 j = rvS (TT m) s lv (fun i => byV m d ln i) bn j := by
  have s10 := k.1.1.s10
  intro N
  induction N with
  | zero => intro f i M h1 h2; omega
  | succ N ih =>
    intro f i M h1 h2 c h69
    show ∃ M2, BX10_buys_47 (DX10_buys_47 N) (nI d) (nI bn) v3 (nI i) M = _ ∧ _
    unfold BX10_buys_47
    rw [show gI M 58 6 = nI s by rw [c.I rfl]; exact k.1.1.2.2.2.2.1]
    cases f with
    | zero =>
      have e : i = s := by omega
      subst e
      rw [if_pos (Int32.le_refl _)]
      exact ⟨M, rfl, c, h69⟩
    | succ f =>
      have his : i < s := by omega
      obtain ⟨M1, x1, x2⟩ := gainOf_m k hb his hd' B c
      rw [if_neg (nI_ge his (by omega)), x1, Option.bind_some, if_pos (inB_nI (by omega) (by omega)), nI_1]
      simp only []
      rw [nI_clamp (by omega)]
      refine ih f (i + 1) _ (by omega) (by omega) ((c.tr (x2.up Pbt_bg)).tr (ch.sI rfl)) (fun j hj => ?_)
      rw [gI_at]
      by_cases e : j = i
      · subst e; rw [if_pos rfl]; rfl
      · rw [if_neg e, x2.I rfl]; exact h69 j (by omega)
/-- behind the sacks of a set -/
def bEnd (k86 : Int32 → Int32 → Int32 → Int32 → Int32 → Mm → Option (Int32 × Mm)) (v2 v3 best most set A V : Int32) (I : Bool) (M : Mm) : Option (Int32 × Mm) :=
  if I = false then k86 v2 v3 best most (set + 1) M else (if inB (44 + v2) 62 then (if (gI M 59 (Int32.toNatClampNeg (44 + v2))) < A then k86 v2 v3 best most (set + 1) M else (if most < V then k86 v2 v3 set V (set + 1) M else (if V = most then ((dX10_bitsOf set M).bind fun q217 => ((dX10_bitsOf best q217.2).bind fun q222 => (if q222.1 ≤ q217.1 then k86 v2 v3 best most (set + 1) q222.2 else k86 v2 v3 set V (set + 1) q222.2))) else k86 v2 v3 best most (set + 1) M))) else none)
theorem buysm_2 (J : Jt m s b) {k86 : Int32 → Int32 → Int32 → Int32 → Int32 → Mm → Option (Int32 × Mm)} {best most : Int32} {set : Nat} (hset : set < 1024) {M : Mm} (c : ch Pbg m M) (h69 : ∀ j, j < s → (gI M 69 j).toInt = gr j ∧ -99 ≤ gr j ∧ gr j ≤ 999) (ha : ∀ j, j < s → (TT m 5 j).toInt = a j) (hfr : ∀ j, j < s → fr j = decide ((TT m 9 j).toInt < 0 ∧ ¬ TT m 10 j = 1)) : ∀ (N f k : Nat) (A V : Int32) (I : Bool), k + f = s → f < N → 0 ≤ A.toInt → A.toInt ≤ 99 * k → -99 * (k : Int) ≤ V.toInt → V.toInt ≤ 999 * k → ∃ A' V', A'.toInt = A.toInt + vS a f k (set / 2 ^ k) ∧ V'.toInt = V.toInt + vS gr f k (set / 2 ^ k) ∧ DX10_buys_109 k86 N v2 v3 best most (nI set) A V (if I then 1 else 0) (nI k) M = bEnd k86 v2 v3 best most (nI set) A' V' (I && frB fr f k (set / 2 ^ k)) M := by
  have s10 := J.1.s10
  intro N
  induction N with
  | zero => intro f k A V I h1 h2; omega
  | succ N ih =>
    intro f k A V I h1 h2 a1 a2 a3 a4
    show ∃ A' V', _ ∧ _ ∧ BX10_buys_109 k86 (DX10_buys_109 k86 N) v2 v3 best most (nI set) A V (if I then 1 else 0) (nI k) M = _
    unfold BX10_buys_109 DX10_buys_228 DX10_buys_236 DX10_buys_146 DX10_buys_147 DX10_buys_176
    rw [show gI M 58 6 = nI s by rw [c.I rfl]; exact J.1.2.2.2.2.1]
    cases f with
    | zero =>
      have e : k = s := by omega
      subst e
      refine ⟨A, V, by show _ = _ + 0; omega, by show _ = _ + 0; omega, ?_⟩
      rw [if_pos (Int32.le_refl _), show frB fr 0 k (set / 2 ^ k) = true from rfl, Bool.and_true]
      unfold bEnd
      cases I
      · rw [if_pos rfl]; rfl
      · rw [if_neg (show ¬ ((if true = true then (1 : Int32) else 0) = 0) by decide)]; rfl
    | succ f =>
      have hks : k < s := by omega
      have KM := J.ch (c.up Pbg_Sc)
      have eT := TT_Sc (c.up Pbg_Sc)
      have ik : inB (nI k) 10 := inB_nI (by omega) (by omega)
      have e34 : (34 : Int32) + nI k = nI (34 + k) := by rw [show (34 : Int32) = nI 34 from rfl, nI_add]
      have i34 : inB (nI (34 + k)) 62 := inB_nI (by omega) (by omega)
      have g34 : gI M 59 (34 + k) = TT m 5 k := by rw [c.I rfl]; exact (J.2.2.1 k hks).2.1.1
      have r5 : 0 ≤ (TT m 5 k).toInt ∧ (TT m 5 k).toInt ≤ 99 := (J.2.2.1 k hks).2.1.2
      have g69 := h69 k hks
      have hak := ha k hks
      have hfk := hfr k hks
      have h2 : set / 2 ^ k / 2 = set / 2 ^ (k + 1) := by rw [Nat.div_div_eq_div_mul, ← Nat.pow_succ]
      have eA : (A + TT m 5 k).toInt = A.toInt + a k := by rw [iAdd (by omega) (by omega), hak]
      have eV : (V + gI M 69 k).toInt = V.toInt + gr k := by rw [iAdd (by rw [g69.1]; omega) (by rw [g69.1]; omega), g69.1]
      rw [if_neg (nI_ge hks (by omega)), isIn_m hset (by omega), Option.bind_some]
      simp only [e34, if_pos i34, if_pos ik, nI_clamp (show 34 + k < 2 ^ 31 by omega), nI_clamp (show k < 2 ^ 31 by omega), g34, nI_1]
      have eS : ∀ q : Nat → Int, vS q (f + 1) k (set / 2 ^ k) = (if set / 2 ^ k % 2 = 1 then q k else 0) + vS q f (k + 1) (set / 2 ^ (k + 1)) := fun q => by
        show (if set / 2 ^ k % 2 = 1 then q k else 0) + vS q f (k + 1) (set / 2 ^ k / 2) = _
        rw [h2]
      have eF : frB fr (f + 1) k (set / 2 ^ k) = ((if set / 2 ^ k % 2 = 1 then fr k else true) && frB fr f (k + 1) (set / 2 ^ (k + 1))) := by
        show ((if set / 2 ^ k % 2 = 1 then fr k else true) && frB fr f (k + 1) (set / 2 ^ k / 2)) = _
        rw [h2]
      rw [eS, eS, eF]
      by_cases hbit : set / 2 ^ k % 2 = 1
      · simp only [if_pos hbit]
        rw [if_neg (show ¬ (1 : Int32) = 0 by decide)]
        have fin : ∀ I' : Bool, I' = (I && fr k) → ∃ A' V', A'.toInt = A.toInt + (a k + vS a f (k + 1) (set / 2 ^ (k + 1))) ∧ V'.toInt = V.toInt + (gr k + vS gr f (k + 1) (set / 2 ^ (k + 1))) ∧ DX10_buys_109 k86 N v2 v3 best most (nI set) (A + TT m 5 k) (V + gI M 69 k) (if I' then 1 else 0) (nI (k + 1)) M = bEnd k86 v2 v3 best most (nI set) A' V' (I && (fr k && frB fr f (k + 1) (set / 2 ^ (k + 1)))) M := by
          intro I' hI
          obtain ⟨A', V', i1, i2, i3⟩ := ih f (k + 1) (A + TT m 5 k) (V + gI M 69 k) I' (by omega) (by omega) (by omega) (by omega) (by omega) (by omega)
          refine ⟨A', V', by rw [i1, eA]; omega, by rw [i2, eV]; omega, ?_⟩
          rw [i3, hI, Bool.and_assoc]
        cases I
        · have f0 := fin false rfl
          simp only [Bool.false_eq_true, if_false, Bool.false_and] at f0 ⊢
          rw [if_pos trivial]; exact f0
        · simp only [if_true]
          rw [if_neg (show ¬ (1 : Int32) = 0 by decide), free_m KM hks, Option.bind_some, eT]
          simp only [b01_0, g34]
          by_cases hf : (TT m 9 k).toInt < 0 ∧ ¬ TT m 10 k = 1
          · have f1 := fin true (by rw [hfk, decide_eq_true hf]; rfl)
            rw [if_neg (fun z => z hf)]
            simpa using f1
          · have f1 := fin false (by rw [hfk, decide_eq_false hf]; rfl)
            rw [if_pos hf]
            simpa using f1
      · simp only [if_neg hbit]
        rw [if_pos trivial, Bool.true_and]
        obtain ⟨A', V', i1, i2, i3⟩ := ih f (k + 1) A V I (by omega) (by omega) a1 (by omega) (by omega) (by omega)
        exact ⟨A', V', by rw [i1]; omega, by rw [i2]; omega, i3⟩
theorem vS_b {q : Nat → Int} {lo hi : Int} (h0 : lo ≤ 0) (h1 : 0 ≤ hi) : ∀ f k y, (∀ j, k ≤ j → j < k + f → lo ≤ q j ∧ q j ≤ hi) → lo * f ≤ vS q f k y ∧ vS q f k y ≤ hi * f
  | 0, _, _, _ => by show lo * ((0 : Nat) : Int) ≤ 0 ∧ 0 ≤ hi * ((0 : Nat) : Int); simp
  | f + 1, k, y, h => by
    have ih := vS_b h0 h1 f (k + 1) (y / 2) (fun j j1 j2 => h j (by omega) (by omega))
    have hk := h k (Nat.le_refl _) (by omega)
    have e1 : lo * ((f + 1 : Nat) : Int) = lo * f + lo := by rw [Int.natCast_add, Int.mul_add]; simp
    have e2 : hi * ((f + 1 : Nat) : Int) = hi * f + hi := by rw [Int.natCast_add, Int.mul_add]; simp
    show lo * ((f + 1 : Nat) : Int) ≤ (if y % 2 = 1 then q k else 0) + vS q f (k + 1) (y / 2) ∧ (if y % 2 = 1 then q k else 0) + vS q f (k + 1) (y / 2) ≤ hi * ((f + 1 : Nat) : Int)
    rw [e1, e2]
    split <;> omega
theorem buysm_3 (J : Jt m s b) {bn : Nat} (hb : bn < b) {M : Mm} (c : ch Pbg m M) (h69 : ∀ j, j < s → (gI M 69 j).toInt = gr j ∧ -99 ≤ gr j ∧ gr j ≤ 999) (ha : ∀ j, j < s → (TT m 5 j).toInt = a j) (hfr : ∀ j, j < s → fr j = decide ((TT m 9 j).toInt < 0 ∧ ¬ TT m 10 j = 1)) : ∀ (N f set best : Nat) (most : Int32), set + f = 2 ^ s → f < N → 1 ≤ set → best < set → 0 ≤ most.toInt → most.toInt ≤ 9990 → DX10_buys_86 N (nI bn) v3 (nI best) most (nI set) M = some (if v3 = 0 then nI (bstR fr gr a (TT m 6 bn).toInt f set (ky most.toInt best) / 16384).toNat else nI (1023 - bstR fr gr a (TT m 6 bn).toInt f set (ky most.toInt best) % 1024).toNat, M) := by
  have s10 := J.1.s10
  have b6 := J.1.b6
  have pw : 2 ^ s ≤ 2 ^ 10 := Nat.pow_le_pow_right (by omega) s10
  intro N
  induction N with
  | zero => intro f set best most h1 h2; omega
  | succ N ih =>
    intro f set best most h1 h2 h3 h4 h5 h6
    show BX10_buys_86 (DX10_buys_86 N) (nI bn) v3 (nI best) most (nI set) M = _
    unfold BX10_buys_86
    rw [show gI M 58 6 = nI s by rw [c.I rfl]; exact J.1.2.2.2.2.1, shl_l s10]
    have cb := cntB_le 10 best
    cases f with
    | zero =>
      have e : set = 2 ^ s := by omega
      rw [if_pos (nI_le (by omega) (by omega))]
      have o1 : ky most.toInt best / 16384 = most.toInt := by unfold ky; omega
      have o2 : 1023 - ky most.toInt best % 1024 = best := by unfold ky; omega
      rw [show bstR fr gr a (TT m 6 bn).toInt 0 set (ky most.toInt best) = ky most.toInt best from rfl, o1, o2, Int.toNat_natCast, ← nI_of_toInt (show most.toInt = (most.toInt.toNat : Int) by omega)]
      split <;> rfl
    | succ f =>
      have hset : set < 1024 := by omega
      have e44 : (44 : Int32) + nI bn = nI (44 + bn) := by rw [show (44 : Int32) = nI 44 from rfl, nI_add]
      have g44 : gI M 59 (44 + bn) = TT m 6 bn := by rw [c.I rfl]; exact (J.2.2.2.2 bn hb).1.1
      obtain ⟨A', V', i1, i2, i3⟩ := buysm_2 (v2 := nI bn) (v3 := v3) (k86 := DX10_buys_86 N) (best := nI best) (most := most) J hset c h69 ha hfr FU s 0 0 0 true (by omega) (by unfold FU; omega) (by decide) (by decide) (by decide) (by decide)
      rw [nI_0, Nat.pow_zero, Nat.div_one] at i3
      rw [Nat.pow_zero, Nat.div_one] at i1 i2
      have z0 : (0 : Int32).toInt = 0 := rfl
      rw [z0, Int.zero_add] at i1 i2
      simp only [if_true, Bool.true_and] at i3
      have cut := vS_cut (g := a) (10 - s) s 0 set (by omega)
      have cut2 := vS_cut (g := gr) (10 - s) s 0 set (by omega)
      have cut3 := frB_cut (fr := fr) (10 - s) s 0 set (by omega)
      rw [show s + (10 - s) = 10 by omega] at cut cut2 cut3
      rw [← cut] at i1
      rw [← cut2] at i2
      rw [← cut3] at i3
      have vb := vS_b (q := gr) (lo := -99) (hi := 999) (by omega) (by omega) s 0 set (fun j _ j2 => (h69 j (by omega)).2)
      rw [← cut2] at vb
      have hV : V'.toInt ≤ 9990 := by
        rw [i2]
        omega
      have nxt : nI set + 1 = nI (set + 1) := nI_1 set
      rw [if_neg (nI_ge (by omega) (by omega)), i3]
      unfold bEnd bstR feS
      rw [nxt, e44, if_pos (inB_nI (by omega) (by omega)), nI_clamp (by omega), g44]
      have stay : DX10_buys_86 N (nI bn) v3 (nI best) most (nI (set + 1)) M = some (if v3 = 0 then nI (bstR fr gr a (TT m 6 bn).toInt f (set + 1) (ky most.toInt best) / 16384).toNat else nI (1023 - bstR fr gr a (TT m 6 bn).toInt f (set + 1) (ky most.toInt best) % 1024).toNat, M) := ih f (set + 1) best most (by omega) (by omega) (by omega) (by omega) h5 h6
      have cs := cntB_le 10 set
      have hk := ky_lt (v := most.toInt) (v' := V'.toInt) (x := best) (x' := set) (by omega) hset
      by_cases hf : frB fr 10 0 set = true
      · rw [hf, if_neg (show ¬ (true = false) by decide), Bool.true_and]
        simp only [toI_lt]
        by_cases hp : vS a 10 0 set ≤ (TT m 6 bn).toInt
        · rw [if_neg (by omega), decide_eq_true hp, if_pos rfl, ← i2]
          have take : most.toInt ≤ V'.toInt → ky most.toInt best < ky V'.toInt set → DX10_buys_86 N (nI bn) v3 (nI set) V' (nI (set + 1)) M = some (if v3 = 0 then nI (bstR fr gr a (TT m 6 bn).toInt f (set + 1) (mxI (ky most.toInt best) (ky V'.toInt set)) / 16384).toNat else nI (1023 - bstR fr gr a (TT m 6 bn).toInt f (set + 1) (mxI (ky most.toInt best) (ky V'.toInt set)) % 1024).toNat, M) := fun q1 q2 => by
            have e : mxI (ky most.toInt best) (ky V'.toInt set) = ky V'.toInt set := by unfold mxI; rw [if_pos q2]
            rw [e]
            exact ih f (set + 1) set V' (by omega) (by omega) (by omega) (by omega) (by omega) hV
          have keep : ¬ ky most.toInt best < ky V'.toInt set → mxI (ky most.toInt best) (ky V'.toInt set) = ky most.toInt best := fun q => by unfold mxI; rw [if_neg q]
          by_cases q1 : most.toInt < V'.toInt
          · rw [if_pos q1]
            exact take (by omega) (hk.mpr (Or.inl q1))
          · rw [if_neg q1]
            by_cases q2 : V' = most
            · rw [if_pos q2, bo_m hset, Option.bind_some]
              simp only []
              rw [bo_m (show best < 1024 by omega), Option.bind_some]
              simp only []
              have ev : V'.toInt = most.toInt := by rw [q2]
              by_cases q3 : cntB 10 set < cntB 10 best
              · rw [if_neg (nI_ge q3 (by omega))]
                exact take (by omega) (hk.mpr (Or.inr ⟨ev.symm, Or.inl q3⟩))
              · rw [if_pos (nI_le (by omega) (by omega)), keep (fun z => by have := hk.mp z; omega)]
                exact stay
            · have nv : ¬ V'.toInt = most.toInt := fun z => q2 (Int32.toInt_inj.mp z)
              rw [if_neg q2, keep (fun z => by have := hk.mp z; omega)]
              exact stay
        · rw [if_pos (by omega), decide_eq_false hp, if_neg (show ¬ (false = true) by decide)]
          exact stay
      · have hf0 : frB fr 10 0 set = false := by cases h : frB fr 10 0 set; rfl; exact absurd h hf
        rw [hf0, if_pos rfl, Bool.false_and, if_neg (show ¬ (false = true) by decide)]
        exact stay
theorem buys_m (k : K m s b kn lv) : ∃ m1, dX10_buys v1 v2 v3 m = some (busQ m s b lv v1 v2 v3, m1) ∧ ch Sc m m1 := by
  have c0 : (0 : Int64).toInt = 0 := rfl
  have c1 : (1 : Int64).toInt = 1 := rfl
  have b6 := k.1.1.b6
  have s10 := k.1.1.s10
  unfold dX10_buys DX10_buys_28 busQ
  simp only [bytesIs_q k.2.2.2, isBuyer_m k.1.1, within_m, i64, Option.bind_some, b01_0, biS_bad, c0, c1]
  by_cases h1 : okD v1
  · obtain ⟨e1, d6⟩ := d_n h1
    rw [if_neg (fun q => q h1)]
    by_cases h2 : 0 ≤ v2.toInt ∧ v2.toInt < (b : Int)
    · rw [if_neg (fun q => q h2)]
      by_cases h3 : okP v3
      · rw [if_neg (fun q => q h3), if_pos (show okD v1 ∧ (0 ≤ v2.toInt ∧ v2.toInt < (b : Int)) ∧ okP v3 from ⟨h1, h2, h3⟩)]
        simp only [biS_nn h1]
        by_cases hr : brS m (dN v1) = 0
        · obtain ⟨n0, B0⟩ := BR_of k.2.2.2 d6 hr
          have B := BR_rn B0
          obtain ⟨bn, hbn⟩ : ∃ q : Nat, v2.toInt = q := ⟨v2.toInt.toNat, by omega⟩
          have hb : bn < b := by omega
          obtain ⟨M1, x1, x2, x3⟩ := buysm_1 (v3 := v3) k hb d6 B FU s 0 m (by omega) (by unfold FU; omega) ch.rf (fun j hj => absurd hj (by omega))
          rw [nI_0, ← e1, ← nI_of_toInt hbn] at x1
          have t6 : 0 ≤ (TT m 6 bn).toInt ∧ (TT m 6 bn).toInt ≤ 999 := (k.1.2.2.2.2 bn hb).1.2
          have rg : ∀ j, j < s → (rvS (TT m) s lv (fun i => byV m (dN v1) (rn m (dN v1)) i) bn j).toInt = (ctS (TT m) s lv (fun i => byV m (dN v1) (rn m (dN v1)) i) bn j).toInt - (TT m 5 j).toInt ∧ -99 ≤ (rvS (TT m) s lv (fun i => byV m (dN v1) (rn m (dN v1)) i) bn j).toInt ∧ (rvS (TT m) s lv (fun i => byV m (dN v1) (rn m (dN v1)) i) bn j).toInt ≤ 999 := fun j hj => by
            have q1 := ctS_r (lv := lv) k.1 (B := fun i => byV m (dN v1) (rn m (dN v1)) i) hb hj
            have q2 : 0 ≤ (TT m 5 j).toInt ∧ (TT m 5 j).toInt ≤ 99 := (k.1.2.2.1 j hj).2.1.2
            unfold rvS
            rw [iSub (by omega) (by omega)]
            exact ⟨rfl, by omega, by omega⟩
          have pw : 0 < 2 ^ s := Nat.pow_pos (by omega)
          have pw10 : 2 ^ s ≤ 2 ^ 10 := Nat.pow_le_pow_right (by omega) s10
          have run := buysm_3 (v3 := v3) (gr := fun j => (rvS (TT m) s lv (fun i => byV m (dN v1) (rn m (dN v1)) i) bn j).toInt) (a := baS (TT m) s) (fr := fun j => decide ((TT m 9 j).toInt < 0 ∧ ¬ TT m 10 j = 1)) k.1 hb x2 (fun j hj => by rw [x3 j hj]; exact ⟨rfl, (rg j hj).2⟩) (fun j hj => by unfold baS; rw [if_pos hj]) (fun j _ => rfl) FU (2 ^ s - 1) 1 0 0 (by omega) (by unfold FU; omega) (Nat.le_refl _) (by omega) (by decide) (by decide)
          rw [show nI 1 = 1 from rfl, nI_0, ← nI_of_toInt hbn] at run
          have eq := best_eq (g := bgS (TT m) s lv (fun i => byV m (dN v1) (rn m (dN v1)) i) bn) (gr := fun j => (rvS (TT m) s lv (fun i => byV m (dN v1) (rn m (dN v1)) i) bn j).toInt) (a := baS (TT m) s) (fr := fun j => decide ((TT m 9 j).toInt < 0 ∧ ¬ TT m 10 j = 1)) (p := (TT m 6 bn).toInt) (sN := s) s10 t6.1 (fun j => by
            unfold baS
            by_cases q : j < s
            · rw [if_pos q]; exact (k.1.2.2.1 j q).2.1.2.1
            · rw [if_neg q]; omega) (fun j hj => by
            have gr := gn_r (lv := lv) k.1 (B := fun i => byV m (dN v1) (rn m (dN v1)) i) hb (k := j)
            have g2 := gr.2 hj
            exact ⟨g2.1, decide_eq_true g2.2.1, g2.2.2⟩) (fun j hj hf _ => by
            have hf' := of_decide_eq_true hf
            unfold bgS gnC
            rw [if_pos ⟨hj, hf'⟩]; rfl)
          rw [if_pos hr, if_pos hr, x1, run, hbn, Int.toNat_natCast]
          unfold bK
          rw [eq]
          refine ⟨M1, ?_, x2.up Pbg_Sc⟩
          split <;> rfl
        · rw [if_neg hr, if_neg hr]
          refine ⟨m, ?_, ch.rf⟩
          unfold biS
          rw [if_pos h1, if_neg hr]
      · rw [if_pos (show ¬ (0 ≤ v3.toInt ∧ v3.toInt ≤ 1) from h3), if_neg (fun q => h3 q.2.2)]; exact ⟨m, rfl, ch.rf⟩
    · rw [if_pos h2, if_neg (fun q => h2 q.2.1)]; exact ⟨m, rfl, ch.rf⟩
  · rw [if_pos h1, if_neg (fun q => h1 q.1)]; exact ⟨m, rfl, ch.rf⟩
theorem buys_j (J : JA m s b kn n t lv) : Ans (dX9_buys v1 v2 v3) (dX10_buys v1 v2 v3) m := Ans_sc J (pairQ (fun _ k => buys_x k) (fun _ k => buys_m k) (fun _ _ h => busQ_ch h) J.1)
end BUYSM
