/-! ===== buys: alike on both sides ===== -/
section BUYS
variable {m : Mm} {s b kn n d ln : Nat} {t : Nat → Nat} {lv : Option LF} {v1 v2 v3 v4 : Int32} {g a : Nat → Int}
def P19 (o k : Nat) : Bool := o == 19 && (k == 4 || k == 5)
theorem P19_Sc : ∀ o k, Sc o k = false → P19 o k = false := up_of fun o k h => by unfold P19 at h; unfold Sc; simp at h ⊢; omega
def StC (M : Mm) (K : Int) : Prop := ∃ (cb : Nat) (cg : Int), cb < 1024 ∧ gI M 19 4 = nI cb ∧ (gI M 19 5).toInt = cg ∧ 0 ≤ cg ∧ cg ≤ 9990 ∧ ky cg cb = K
theorem ky_lt {v v' : Int} {x x' : Nat} (hx : x < 1024) (hx' : x' < 1024) : ky v x < ky v' x' ↔ v < v' ∨ (v = v' ∧ (cntB 10 x' < cntB 10 x ∨ (cntB 10 x' = cntB 10 x ∧ x' < x))) := by
  have h1 := cntB_le 10 x
  have h2 := cntB_le 10 x'
  unfold ky
  omega
theorem isBetter_x {M : Mm} {x : Nat} {gv : Int32} {K : Int} (h : StC M K) (hx : x < 1024) : dX2_isBetter (nI x) gv M = some (if K < ky gv.toInt x then 1 else 0, M) := by
  obtain ⟨cb, cg, h1, h2, h3, h4, h5, h6⟩ := h
  have c1 := cntB_le 10 x
  have c2 := cntB_le 10 cb
  have hk := ky_lt (v := cg) (v' := gv.toInt) h1 hx
  unfold dX2_isBetter DX2_isBetter_51 DX2_isBetter_55
  rw [← h6, h2]
  by_cases e : gv = gI M 19 5
  · have eg : gv.toInt = cg := by rw [e, h3]
    rw [if_pos e, bc_x h1, Option.bind_some]
    simp only []
    rw [bc_x hx, Option.bind_some]
    have a1 : (nI (cntB 10 cb)).toInt = cntB 10 cb := nI_toInt (by omega)
    have a2 : (nI (cntB 10 x)).toInt = cntB 10 x := nI_toInt (by omega)
    have es : (nI (cntB 10 cb) - nI (cntB 10 x)).toInt = (cntB 10 cb : Int) - cntB 10 x := by rw [iSub (by omega) (by omega), a1, a2]
    have z0 : (0 : Int32).toInt = 0 := rfl
    simp only [toI_lt, es, z0]
    by_cases q1 : (0 : Int) < (cntB 10 cb : Int) - cntB 10 x
    · rw [if_pos q1, if_pos (hk.mpr (Or.inr ⟨eg.symm, Or.inl (by omega)⟩))]
    · rw [if_neg q1]
      by_cases q2 : cntB 10 cb = cntB 10 x
      · rw [if_pos (by rw [q2]; exact Int32.sub_self _), h2]
        by_cases q3 : cb ≤ x
        · rw [if_pos (nI_le q3 (by omega)), if_neg (fun z => by have := hk.mp z; omega)]
        · rw [if_neg (nI_ge (by omega) (by omega)), if_pos (hk.mpr (Or.inr ⟨eg.symm, Or.inr ⟨by omega, by omega⟩⟩))]
      · rw [if_neg (fun z => q2 (by have := congrArg Int32.toInt z; rw [es, z0] at this; omega)), if_neg (fun z => by have := hk.mp z; omega)]
  · have eg : ¬ gv.toInt = cg := fun z => e (Int32.toInt_inj.mp (by rw [z, h3]))
    rw [if_neg e]
    simp only [toI_le, h3]
    by_cases q : gv.toInt ≤ cg
    · rw [if_pos q, if_neg (fun z => by have := hk.mp z; omega)]
    · rw [if_neg q, if_pos (hk.mpr (Or.inl (by omega)))]
theorem ch_step {N : Nat} {x1 x2 x3 x4 : Int32} {M : Mm} : dX2_choose_ (N + 1) x1 x2 x3 x4 M = bX2_choose_ (dX2_choose_ N) x1 x2 x3 x4 M := rfl
theorem choose_l (J : Jt m s b) (hg : ∀ k, k < 10 → (gI m 20 k).toInt = g k ∧ g k ≤ 999 ∧ (0 < g k → k < s ∧ (TT m 5 k).toInt = a k)) (ha : ∀ k, 0 ≤ a k) : ∀ (f N i x : Nat) (gv pv : Int32) (M : Mm) (K : Int), i + f = 10 → f < N → x < 2 ^ i → 0 ≤ gv.toInt → gv.toInt ≤ 999 * i → 0 ≤ pv.toInt → pv.toInt ≤ 999 → ch P19 m M → StC M K → ∃ M2, dX2_choose_ N (nI i) (nI x) gv pv M = some ((), M2) ∧ ch P19 m M2 ∧ StC M2 (bstC g a f i x gv.toInt pv.toInt K) := by
  intro f
  induction f with
  | zero =>
    intro N i x gv pv M K h1 h2 hx hg0 hg1 hp0 hp1 c hS
    obtain ⟨N, rfl⟩ : ∃ q, N = q + 1 := ⟨N - 1, by omega⟩
    have e : i = 10 := by omega
    subst e
    have hx2 : x < 1024 := hx
    rw [ch_step]
    unfold bX2_choose_
    rw [if_neg (show ¬ nI 10 < (10 : Int32) by decide), isBetter_x hS hx2, Option.bind_some]
    show ∃ M2, _ ∧ _ ∧ StC M2 (mxI K (ky gv.toInt x))
    unfold mxI
    by_cases q : K < ky gv.toInt x
    · simp only [if_pos q]
      rw [if_neg (show ¬ (1 : Int32) = 0 by decide)]
      refine ⟨_, rfl, (c.tr (ch.sI rfl)).tr (ch.sI rfl), x, gv.toInt, hx2, ?_, ?_, hg0, by omega, rfl⟩
      · rw [gI_at, if_neg (by omega), gI_at, if_pos rfl]
      · rw [gI_at, if_pos rfl]
    · simp only [if_neg q]
      rw [if_pos trivial]
      exact ⟨M, rfl, c, hS⟩
  | succ f ih =>
    intro N i x gv pv M K h1 h2 hx hg0 hg1 hp0 hp1 c hS
    obtain ⟨N, rfl⟩ : ∃ q, N = q + 1 := ⟨N - 1, by omega⟩
    have hi : i < 10 := by omega
    have ei : (nI i).toInt = i := nI_toInt (by omega)
    have ii : inB (nI i) 10 := inB_nI hi (by omega)
    have pw : 2 ^ i ≤ 2 ^ 9 := Nat.pow_le_pow_right (by omega) (by omega)
    have pw2 : 2 ^ (i + 1) = 2 ^ i * 2 := Nat.pow_succ ..
    obtain ⟨M1, y1, y2, y3⟩ := ih N (i + 1) x gv pv M K (by omega) (by omega) (by omega) hg0 (by omega) hp0 hp1 c hS
    obtain ⟨hgi, hg9, hgs⟩ := hg i hi
    have e20 : gI M1 20 i = gI m 20 i := y2.I rfl
    have z0 : (0 : Int32).toInt = 0 := rfl
    rw [ch_step]
    unfold bX2_choose_
    rw [if_pos (show nI i < 10 from nI_lt (b := 10) hi (by omega)), nI_1, y1, Option.bind_some]
    simp only [if_pos ii, nI_clamp (show i < 2 ^ 31 by omega), e20, toI_le, hgi, z0]
    unfold bstC
    by_cases q0 : 0 < g i
    · obtain ⟨hs, h5⟩ := hgs q0
      have cS := y2.up P19_Sc
      have J1 := J.ch cS
      have e5 : gI M1 8 i = TT m 5 i := by rw [← TT_Sc cS]; rfl
      have a5 := ha i
      rw [if_neg (by omega), told_x J1.1 (wn := 5) (by simp) ei (by have := J1.1.s10; unfold hd; omega), Option.bind_some]
      dsimp only [Nat.reduceAdd]
      rw [e5]
      simp only [toI_lt, h5]
      by_cases q1 : a i ≤ pv.toInt
      · have eg : (gv + gI m 20 i).toInt = gv.toInt + g i := by rw [iAdd (by rw [hgi]; omega) (by rw [hgi]; omega), hgi]
        have ep : (pv - TT m 5 i).toInt = pv.toInt - a i := by rw [iSub (by rw [h5]; omega) (by rw [h5]; omega), h5]
        have eo := or_l (x := x) (k := i) (by omega) hi (by rw [Nat.div_eq_of_lt hx])
        rw [if_neg (by omega), told_x J1.1 (wn := 5) (by simp) ei (by have := J1.1.s10; unfold hd; omega), Option.bind_some, if_pos ⟨q0, q1⟩]
        dsimp only [Nat.reduceAdd]
        rw [e5, eo, e20]
        obtain ⟨M2, w1, w2, w3⟩ := ih N (i + 1) (x + 2 ^ i) (gv + gI m 20 i) (pv - TT m 5 i) M1 _ (by omega) (by omega) (by omega) (by omega) (by omega) (by omega) (by omega) y2 y3
        rw [w1, Option.bind_some]
        rw [eg, ep] at w3
        exact ⟨M2, rfl, w2, w3⟩
      · rw [if_pos (by omega), if_neg (fun z => q1 z.2)]
        exact ⟨M1, rfl, y2, y3⟩
    · rw [if_pos (by omega), if_neg (fun z => q0 z.1)]
      exact ⟨M1, rfl, y2, y3⟩
/-- WORTH, cut -/
def ctS (T : Nat → Nat → Int32) (s : Nat) (lv : Option LF) (B : Nat → Int32) (b k : Nat) : Int32 := (wallS T s lv (wghS B T s b k) b (T 5 k) / sumL (wghS B T s b k) 6).toInt32
theorem ctS_r (J : Jt m s b) {B : Nat → Int32} {bn k : Nat} (hb : bn < b) (hk : k < s) : 0 ≤ (ctS (TT m) s lv B bn k).toInt ∧ (ctS (TT m) s lv B bn k).toInt ≤ 999 := by
  have wb := wghS_b J (B := B) hb hk
  have tb := total_b wb
  have wa := wall_b (lv := lv) J wb (bn := bn) (asked := TT m 5 k)
  have hd' : (wallS (TT m) s lv (wghS B (TT m) s bn k) bn (TT m 5 k) / sumL (wghS B (TT m) s bn k) 6).toInt = (wallS (TT m) s lv (wghS B (TT m) s bn k) bn (TT m 5 k)).toInt / (sumL (wghS B (TT m) s bn k) 6).toInt := lDiv wa.1 tb.1
  have q1 : 0 ≤ (wallS (TT m) s lv (wghS B (TT m) s bn k) bn (TT m 5 k)).toInt / (sumL (wghS B (TT m) s bn k) 6).toInt := Int.ediv_nonneg wa.1 (by omega)
  have q2 : (wallS (TT m) s lv (wghS B (TT m) s bn k) bn (TT m 5 k)).toInt / (sumL (wghS B (TT m) s bn k) 6).toInt ≤ 999 := Int.ediv_le_of_le_mul tb.1 wa.2
  unfold ctS
  rw [Int64.toInt_toInt32, hd', Int.bmod_eq_of_le (by omega) (by omega)]
  exact ⟨q1, q2⟩
def Pbx (o _k : Nat) : Bool := o == 18 || o == 20 || o == 14 || o == 53 || o == 57
theorem Pbx_Sc : ∀ o k, Sc o k = false → Pbx o k = false := up_of fun o k h => by unfold Pbx at h; unfold Sc; simp at h ⊢; omega
theorem PW_bx : ∀ o k, Pbx o k = false → PW o k = false := up_of fun o k h => by unfold PW at h; unfold Pbx; simp at h ⊢; omega
theorem P18_bx : ∀ o k, Pbx o k = false → P1 18 o k = false := up_of fun o k h => by unfold P1 at h; unfold Pbx; simp at h ⊢; omega
/-- what the class reckons of a sack to gain -/
def gnC (T : Nat → Nat → Int32) (s : Nat) (lv : Option LF) (B : Nat → Int32) (b k : Nat) : Int32 := if k < s ∧ (T 9 k).toInt < 0 ∧ ¬ T 10 k = 1 then ctS T s lv B b k - T 5 k else 0
theorem buysx_1 (k : K m s b kn lv) {bn : Nat} (hb : bn < b) (hd' : d < 6) (B : BR m d ln) : ∀ (N f i : Nat) (M : Mm), i + f = s → f < N → ch Pbx m M → (∀ j, j < 10 → gI M 20 j = if j < i then gnC (TT m) s lv (fun i => byV m d ln i) bn j else 0) → ∃ M2, DX9_buys_58 N (nI d) (nI bn) v3 (nI i) M = ((dX2_choose (TT m 6 bn) M2).bind fun q125 => (if v3 = 0 then some ((gI q125.2 19 5), q125.2) else some ((gI q125.2 19 4), q125.2))) ∧ ch Pbx m M2 ∧ ∀ j, j < 10 → gI M2 20 j = gnC (TT m) s lv (fun i => byV m d ln i) bn j := by
  have s10 := k.1.1.s10
  have b6 := k.1.1.b6
  intro N
  induction N with
  | zero => intro f i M h1 h2; omega
  | succ N ih =>
    intro f i M h1 h2 c h20
    have cS := c.up Pbx_Sc
    have KM := k.ch cS
    have eT := TT_Sc cS
    show ∃ M2, BX9_buys_58 (DX9_buys_58 N) (nI d) (nI bn) v3 (nI i) M = _ ∧ _
    unfold BX9_buys_58
    rw [KM.1.1.2.2.1]
    cases f with
    | zero =>
      have e : i = s := by omega
      subst e
      have eb : (nI bn).toInt = bn := nI_toInt (by omega)
      have e6 : gI M 9 bn = TT m 6 bn := by rw [← eT]; rfl
      rw [if_pos (Int32.le_refl _), told_x KM.1.1 (wn := 6) (by simp) eb (by unfold hd; omega), Option.bind_some]
      dsimp only [Nat.reduceAdd]
      rw [e6]
      refine ⟨M, rfl, c, fun j hj => ?_⟩
      rw [h20 j hj]
      by_cases q : j < i
      · rw [if_pos q]
      · rw [if_neg q]; unfold gnC; rw [if_neg (fun z => q z.1)]
    | succ f =>
      have his : i < s := by omega
      have ei : (nI i).toInt = i := nI_toInt (by omega)
      have B1 := B.ch hd' cS
      have eB : byV M d ln = byV m d ln := byV_c cS (fun k => Sc_el hd')
      obtain ⟨M1, x1, x2, x3⟩ := weigh_x KM.1 hb his hd' B1
      rw [eB, eT] at x3
      have c1 := c.tr (x2.up P18_bx)
      have cS1 := c1.up Pbx_Sc
      have KM1 := k.ch cS1
      have wb := wghS_b k.1 (B := fun i => byV m d ln i) hb his
      have tb := total_b wb
      obtain ⟨M2, y1, y2⟩ := worthSum_x KM1.1 KM1.2.1 hb his x3
      rw [TT_Sc cS1] at y1
      have c2 := c1.tr (y2.up PW_bx)
      have cS2 := c2.up Pbx_Sc
      have KM2 := k.ch cS2
      have n0 : ¬ sumL (wghS (fun i => byV m d ln i) (TT m) s bn i) 6 = 0 := fun z => by have := tb.1; rw [z] at this; exact absurd this (by decide)
      have e20 : ∀ j, gI M2 20 j = gI M 20 j := fun j => by rw [y2.I rfl, x2.I rfl]
      have cw : dX0_cutWorth (nI bn) (nI i) M1 = some (ctS (TT m) s lv (fun i => byV m d ln i) bn i, M2) := by
        unfold dX0_cutWorth
        rw [total_x x3, Option.bind_some]
        simp only [if_neg n0]
        rw [y1, Option.bind_some]; rfl
      rw [if_neg (nI_ge his (by omega)), if_pos (inB_nI hd' (by omega)), nI_clamp (by omega), x1, Option.bind_some]
      simp only []
      rw [cw, Option.bind_some]
      simp only []
      unfold dX2_offer
      rw [free_x KM2.1 his, Option.bind_some, TT_Sc cS2]
      simp only [b01_0]
      by_cases hf : (TT m 9 i).toInt < 0 ∧ ¬ TT m 10 i = 1
      · have e5 : gI M2 8 i = TT m 5 i := by rw [← TT_Sc cS2]; rfl
        rw [if_neg (fun z => z hf), told_x KM2.1.1 (wn := 5) (by simp) ei (by unfold hd; omega), Option.bind_some, if_pos (inB_nI (by omega) (by omega)), Option.bind_some]
        dsimp only [Nat.reduceAdd]
        rw [nI_clamp (by omega), e5, nI_1]
        refine ih f (i + 1) _ (by omega) (by omega) (c2.tr (ch.sI rfl)) (fun j hj => ?_)
        rw [gI_at, e20, h20 j hj]
        by_cases e : j = i
        · subst e; rw [if_pos rfl, if_pos (by omega)]; unfold gnC; rw [if_pos ⟨his, hf⟩]
        · rw [if_neg e]
          by_cases q : j < i
          · rw [if_pos q, if_pos (by omega)]
          · rw [if_neg q, if_neg (by omega)]
      · rw [if_pos hf, Option.bind_some, nI_1]
        refine ih f (i + 1) _ (by omega) (by omega) c2 (fun j hj => ?_)
        rw [e20, h20 j hj]
        by_cases e : j = i
        · subst e; rw [if_neg (by omega), if_pos (by omega)]; unfold gnC; rw [if_neg (fun z => hf z.2)]
        · by_cases q : j < i
          · rw [if_pos q, if_pos (by omega)]
          · rw [if_neg q, if_neg (by omega)]
def bgS (T : Nat → Nat → Int32) (s : Nat) (lv : Option LF) (B : Nat → Int32) (b k : Nat) : Int := (gnC T s lv B b k).toInt
def baS (T : Nat → Nat → Int32) (s k : Nat) : Int := if k < s then (T 5 k).toInt else 0
def bK (T : Nat → Nat → Int32) (s : Nat) (lv : Option LF) (B : Nat → Int32) (b : Nat) : Int := bstC (bgS T s lv B b) (baS T s) 10 0 0 0 (T 6 b).toInt (ky 0 0)
def busQ (mm : Mm) (s b : Nat) (lv : Option LF) (v1 v2 v3 : Int32) : Int32 := if okD v1 ∧ (0 ≤ v2.toInt ∧ v2.toInt < (b : Int)) ∧ okP v3 then (if brS mm (dN v1) = 0 then (if v3 = 0 then nI (bK (TT mm) s lv (fun i => byV mm (dN v1) (rn mm (dN v1)) i) v2.toInt.toNat / 16384).toNat else nI (1023 - bK (TT mm) s lv (fun i => byV mm (dN v1) (rn mm (dN v1)) i) v2.toInt.toNat % 1024).toNat) else brS mm (dN v1)) else -1
theorem busQ_ch {m' : Mm} (h : ch Sc m m') : busQ m' s b lv v1 v2 v3 = busQ m s b lv v1 v2 v3 := by
  unfold busQ
  by_cases hd' : okD v1 ∧ (0 ≤ v2.toInt ∧ v2.toInt < (b : Int)) ∧ okP v3
  · have d6 := (d_n hd'.1).2
    rw [if_pos hd', if_pos hd', brS_ch d6 h, TT_Sc h, byV_c h (fun k => Sc_el d6)]
    unfold rn
    rw [h.I (Sc_sh d6)]
  · rw [if_neg hd', if_neg hd']
theorem StC_out {M : Mm} {K : Int} (h : StC M K) : gI M 19 5 = nI (K / 16384).toNat ∧ gI M 19 4 = nI (1023 - K % 1024).toNat := by
  obtain ⟨cb, cg, h1, h2, h3, h4, h5, h6⟩ := h
  have c1 := cntB_le 10 cb
  unfold ky at h6
  have e1 : K / 16384 = cg := by omega
  have e2 : 1023 - K % 1024 = cb := by omega
  rw [e1, e2, h2, Int.toNat_natCast]
  exact ⟨nI_of_toInt (by omega), rfl⟩
theorem gn_r (J : Jt m s b) {B : Nat → Int32} {bn : Nat} (hb : bn < b) {k : Nat} : bgS (TT m) s lv B bn k ≤ 999 ∧ (0 < bgS (TT m) s lv B bn k → k < s ∧ ((TT m 9 k).toInt < 0 ∧ ¬ TT m 10 k = 1) ∧ bgS (TT m) s lv B bn k = (ctS (TT m) s lv B bn k - TT m 5 k).toInt) := by
  unfold bgS gnC
  by_cases q : k < s ∧ (TT m 9 k).toInt < 0 ∧ ¬ TT m 10 k = 1
  · have h1 := ctS_r (lv := lv) J (B := B) hb q.1
    have h2 : 0 ≤ (TT m 5 k).toInt ∧ (TT m 5 k).toInt ≤ 99 := (J.2.2.1 k q.1).2.1.2
    rw [if_pos q, iSub (by omega) (by omega)]
    exact ⟨by omega, fun _ => ⟨q.1, q.2, rfl⟩⟩
  · rw [if_neg q]
    exact ⟨by decide, fun z => absurd z (by decide)⟩
theorem buys_x (k : K m s b kn lv) : ∃ m1, dX9_buys v1 v2 v3 m = some (busQ m s b lv v1 v2 v3, m1) ∧ ch Sc m m1 := by
  have z6 : (6 : Int32).toInt = 6 := rfl
  have b6 := k.1.1.b6
  unfold dX9_buys DX9_buys_27 busQ dX2_noOffers
  simp only [isShelf_x, holds_x k.1.1, isPart_x, Option.bind_some, b01_0, z6]
  by_cases h1 : okD v1
  · obtain ⟨e1, d6⟩ := d_n h1
    simp only [if_neg (show ¬ ¬ (0 ≤ v1.toInt ∧ v1.toInt < 6) from fun q => q h1), if_pos (okD_i h1), clE h1, bytesRefusal_x d6, Option.bind_some]
    by_cases h2 : 0 ≤ v2.toInt ∧ v2.toInt < (b : Int)
    · rw [if_neg (fun q => q (by unfold hd; omega))]
      by_cases h3 : okP v3
      · rw [if_neg (fun q => q h3), if_pos (show okD v1 ∧ (0 ≤ v2.toInt ∧ v2.toInt < (b : Int)) ∧ okP v3 from ⟨h1, h2, h3⟩)]
        by_cases hr : brS m (dN v1) = 0
        · obtain ⟨n0, B0⟩ := BR_of k.2.2.2 d6 hr
          have B := BR_rn B0
          obtain ⟨bn, hbn⟩ : ∃ q : Nat, v2.toInt = q := ⟨v2.toInt.toNat, by omega⟩
          have hb : bn < b := by omega
          have c0 : ch Pbx m (flI m 20 10 0) := ch.flI (fun _ _ => rfl)
          obtain ⟨M1, x1, x2, x3⟩ := buysx_1 (v3 := v3) k hb d6 B FU s 0 (flI m 20 10 0) (by omega) (by unfold FU; have := k.1.1.s10; omega) c0 (fun j hj => by rw [if_neg (by omega), gI_flI, if_pos rfl, if_pos hj])
          rw [nI_0, ← e1, ← nI_of_toInt hbn] at x1
          have cS := x2.up Pbx_Sc
          have J1 := k.1.ch cS
          have eT := TT_Sc cS
          have t6 : 0 ≤ (TT m 6 bn).toInt ∧ (TT m 6 bn).toInt ≤ 999 := (k.1.2.2.2.2 bn hb).1.2
          have c1 : ch P19 M1 (sI (sI M1 19 4 0) 19 5 0) := (ch.sI rfl).tr (ch.sI rfl)
          have st0 : StC (sI (sI M1 19 4 0) 19 5 0) (ky 0 0) := ⟨0, 0, by omega, by rw [gI_at, if_neg (by omega), gI_at, if_pos rfl]; rfl, by rw [gI_at, if_pos rfl]; rfl, by omega, by omega, rfl⟩
          obtain ⟨M2, y1, y2, y3⟩ := choose_l (g := bgS (TT m) s lv (fun i => byV m (dN v1) (rn m (dN v1)) i) bn) (a := baS (TT m) s) J1 (fun j hj => by
            have gr := gn_r (lv := lv) k.1 (B := fun i => byV m (dN v1) (rn m (dN v1)) i) hb (k := j)
            rw [x3 j hj, eT]
            refine ⟨rfl, gr.1, fun z => ⟨(gr.2 z).1, ?_⟩⟩
            unfold baS
            rw [if_pos (gr.2 z).1]) (fun j => by
            unfold baS
            by_cases q : j < s
            · rw [if_pos q]; exact (k.1.2.2.1 j q).2.1.2.1
            · rw [if_neg q]; omega) 10 100 0 0 0 (TT m 6 bn) (sI (sI M1 19 4 0) 19 5 0) (ky 0 0) (by omega) (by omega) (by decide) (by decide) (by decide) t6.1 t6.2 c1 st0
          have so := StC_out y3
          rw [nI_0] at y1
          rw [if_pos hr, if_pos hr, x1]
          unfold dX2_choose
          rw [y1, Option.bind_some, Option.bind_some, hbn, Int.toNat_natCast]
          refine ⟨M2, ?_, cS.tr (y2.up P19_Sc)⟩
          unfold bK
          by_cases h0 : v3 = 0
          · rw [if_pos h0, if_pos h0]
            exact congrArg (fun z => some (z, M2)) so.1
          · rw [if_neg h0, if_neg h0]
            exact congrArg (fun z => some (z, M2)) so.2
        · rw [if_neg hr, if_neg hr]; exact ⟨m, rfl, ch.rf⟩
      · rw [if_pos h3, if_neg (fun q => h3 q.2.2)]; exact ⟨m, rfl, ch.rf⟩
    · rw [if_pos (by unfold hd; omega), if_neg (fun q => h2 q.2.1)]; exact ⟨m, rfl, ch.rf⟩
  · simp only [if_pos (show ¬ (0 ≤ v1.toInt ∧ v1.toInt < 6) from h1)]
    rw [if_neg (fun q => h1 q.1)]; exact ⟨m, rfl, ch.rf⟩
end BUYS
