/-! ===== dealt: the reference's machine ===== -/
section DEALH
variable {m : Mm} {s b kn n : Nat} {t : Nat → Nat} {lv : Option LF} {v1 v2 v3 v4 : Int32}
def Pdr (o k : Nat) : Bool := o == 70 || o == 69 || o == 68 || o == 67 || (o == 58 && (decide (14 ≤ k) && decide (k ≤ 18)))
theorem Pdr_Sc : ∀ o k, Sc o k = false → Pdr o k = false := up_of fun o k h => by unfold Pdr at h; unfold Sc; simp at h ⊢; omega
theorem Pbt_dr : ∀ o k, Pdr o k = false → Pbt o k = false := up_of fun o k h => by unfold Pbt at h; unfold Pdr; simp at h ⊢; omega
/-- what is weighed without a shelf -/
theorem weighs_s (J : Jt m s b) {bn k : Nat} (hk : k < s) : ∃ m2, dX10_weighs (-1) (nI bn) (nI k) m = some ((), m2) ∧ ch (P1 68) m m2 ∧ WtAt 68 m2 (fun g => if TT m 10 k = 1 then (if (TT m 4 k).toInt = g then 1 else 0) else 1) := by
  unfold dX10_weighs
  obtain ⟨m2, c2, w2, e2⟩ := weighs_0 J hk (v1 := -1) (v2 := nI bn) FU 0 (by omega) (by unfold FU; omega) m ch.rf (fun g hg => by omega)
  rw [show (0 : Int32) = nI 0 from rfl, e2, if_pos (Or.inl (by decide))]
  exact ⟨m2, rfl, c2, w2⟩
theorem gain_n (k : K m s b kn lv) {bn i : Nat} (hb : bn < b) (hi : i < s) {M : Mm} (c : ch Pdr m M) : ∃ r M2, dX10_gainOf (-1) (nI bn) (nI i) M = some (r, M2) ∧ ch Pbt M M2 ∧ (¬ TT m 10 i = 1 → r.toInt = gnD (TT m) s lv bn i) := by
  have s10 := k.1.1.s10
  have cS := c.up Pdr_Sc
  have KM := k.ch cS
  have eT := TT_Sc cS
  obtain ⟨M1, x1, x2, x3⟩ := weighs_s KM.1 (bn := bn) hi
  rw [eT] at x3
  have c1 := x2.up bt_8
  have cS1 := cS.tr (c1.up Pbt_Sc)
  have KM1 := k.ch cS1
  have e34 : (34 : Int32) + nI i = nI (34 + i) := by rw [show (34 : Int32) = nI 34 from rfl, nI_add]
  have g34 : gI M1 59 (34 + i) = TT m 5 i := by rw [cS1.I (o := 59) rfl]; exact (k.1.2.2.1 i hi).2.1.1
  obtain ⟨M2, y1, y2⟩ := worthAll_m KM1.1 KM1.2.2.1 (v2 := nI i) hb x3 (asked := TT m 5 i)
  rw [TT_Sc cS1] at y1
  have w2 := x3.ch y2 (fun _ => rfl)
  have n0 : ¬ sumL (fun g => if TT m 10 i = 1 then (if (TT m 4 i).toInt = g then 1 else 0) else 1) 6 = 0 := by
    by_cases ho : TT m 10 i = 1
    · have wb := wghS_b k.1 (B := fun _ => 0) hb hi
      have tb := total_b wb
      unfold wghS at tb
      rw [if_pos ho] at tb
      simp only [if_pos ho]
      intro z
      have t1 := tb.1
      rw [z] at t1
      exact absurd t1 (by decide)
    · simp only [if_neg ho]
      rw [six_1]; decide
  unfold dX10_gainOf
  rw [x1, Option.bind_some]
  simp only [e34, if_pos (inB_nI (show 34 + i < 62 by omega) (by omega)), nI_clamp (show 34 + i < 2 ^ 31 by omega), g34]
  rw [y1, Option.bind_some]
  simp only []
  rw [weightAll_m w2, Option.bind_some]
  simp only [if_neg n0]
  refine ⟨_, M2, rfl, c1.tr (y2.up bt_w), fun ho => ?_⟩
  simp only [if_neg ho]
  have h1 := pwS_r (lv := lv) k.1 (bn := bn) (a := TT m 5 i)
  have r5 : 0 ≤ (TT m 5 i).toInt ∧ (TT m 5 i).toInt ≤ 99 := (k.1.2.2.1 i hi).2.1.2
  rw [wall6 k.1]
  have e : (Int64.toInt32 (pwS (TT m) s lv bn (TT m 5 i)).toInt64).toInt = (pwS (TT m) s lv bn (TT m 5 i)).toInt := by
    rw [Int64.toInt_toInt32, i64, Int.bmod_eq_of_le (by omega) (by omega)]
  rw [iSub (by rw [e]; omega) (by rw [e]; omega), e]; rfl
theorem shl10 : ∀ j : Fin 7, iShl (nI j.val) 10 = nI (1024 * j.val) := by decide
theorem dAt {j x : Nat} (hj : j < 7) {M : Mm} : dX10_dealAt (nI j) (nI x) M = some (nI (1024 * j + x), M) := by
  unfold dX10_dealAt
  rw [shl10 ⟨j, hj⟩, nI_add]
/-- the table, from this row on -/
def tb7 (M : Mm) (fr : Nat → Bool) (gn : Nat → Nat → Int) (s b bb : Nat) : Prop := ∀ j, bb ≤ j → j ≤ b → ∀ go, go < 2 ^ s → (gI M 70 (1024 * j + go)).toInt = Mo fr gn s (b - j) j go
theorem dlm_1 (J : Jt m s b) : ∀ (N f i : Nat) (M : Mm), i + f = 1024 → f < N → ch Pdr m M → (∀ j, j < i → gI M 70 (1024 * b + j) = 0) → ∃ M2, DX10_dealt_18 N v1 (nI i) M = DX10_dealt_53 FU v1 (nI b + (-1)) M2 ∧ ch Pdr m M2 ∧ ∀ j, j < 1024 → gI M2 70 (1024 * b + j) = 0 := by
  have b6 := J.1.b6
  intro N
  induction N with
  | zero => intro f i M h1 h2; omega
  | succ N ih =>
    intro f i M h1 h2 c h70
    show ∃ M2, BX10_dealt_18 (DX10_dealt_18 N) v1 (nI i) M = _ ∧ _
    unfold BX10_dealt_18
    rw [show gI M 58 7 = nI b by rw [c.I rfl]; exact J.1.2.2.2.2.2]
    cases f with
    | zero =>
      have e : i = 1024 := by omega
      subst e
      rw [if_pos (show (1024 : Int32) ≤ nI 1024 by decide), Int32.sub_eq_add_neg]
      exact ⟨M, rfl, c, h70⟩
    | succ f =>
      rw [if_neg (show ¬ (1024 : Int32) ≤ nI i from nI_ge (b := 1024) (by omega) (by omega)), dAt (by omega), Option.bind_some]
      simp only [if_pos (inB_nI (show 1024 * b + i < 7168 by omega) (by omega)), nI_clamp (show 1024 * b + i < 2 ^ 31 by omega), nI_1]
      refine ih f (i + 1) _ (by omega) (by omega) (c.tr (ch.sI rfl)) (fun j hj => ?_)
      rw [gI_at]
      by_cases e : j = i
      · subst e; rw [if_pos rfl]
      · rw [if_neg (by omega)]; exact h70 j (by omega)
/-- one place of the table -/
theorem dlm_2 (k : K m s b kn lv) {k53 : Int32 → Int32 → Mm → Option (Int32 × Mm)} {k88 : Int32 → Int32 → Int32 → Mm → Option (Int32 × Mm)} {j go : Nat} (hj : j < b) (hgo : go < 2 ^ s) {M : Mm} (c : ch Pdr m M) (h69 : ∀ i, i < s → ¬ TT m 10 i = 1 → (gI M 69 i).toInt = gnD (TT m) s lv j i) (hT : tb7 M (frD (TT m)) (gnD (TT m) s lv) s b (j + 1)) : ∀ (N f i : Nat) (V : Int32), i + f = s → f < N → ∃ V2, DX10_dealt_116 k53 k88 N v1 (nI j) (nI go) V (nI i) M = k88 v1 (nI j) (nI (go + 1)) (sI M 70 (1024 * j + go) V2) ∧ V2.toInt = fmx (fun k => okW (frD (TT m)) (gnD (TT m) s lv) j k && decide (btS go k = 0)) (fun k => gnD (TT m) s lv j k + Mo (frD (TT m)) (gnD (TT m) s lv) s (b - (j + 1)) (j + 1) (go + 2 ^ k)) f i V.toInt := by
  have s10 := k.1.1.s10
  have b6 := k.1.1.b6
  have cS := c.up Pdr_Sc
  have KM := k.ch cS
  have p10 : 2 ^ s ≤ 2 ^ 10 := Nat.pow_le_pow_right (by omega) s10
  intro N
  induction N with
  | zero => intro f i V h1 h2; omega
  | succ N ih =>
    intro f i V h1 h2
    show ∃ V2, BX10_dealt_116 k53 k88 (DX10_dealt_116 k53 k88 N) v1 (nI j) (nI go) V (nI i) M = _ ∧ _
    unfold BX10_dealt_116 DX10_dealt_195 DX10_dealt_197
    rw [KM.1.1.2.2.2.2.1]
    cases f with
    | zero =>
      have e : i = s := by omega
      subst e
      rw [if_pos (Int32.le_refl _), dAt (by omega), Option.bind_some]
      simp only [if_pos (inB_nI (show 1024 * j + go < 7168 by omega) (by omega)), nI_clamp (show 1024 * j + go < 2 ^ 31 by omega), nI_1]
      exact ⟨V, rfl, rfl⟩
    | succ f =>
      have his : i < s := by omega
      rw [if_neg (nI_ge his (by omega)), free_m KM.1 his, Option.bind_some, TT_Sc cS]
      simp only [b01_0, nI_1]
      have skip : ¬ (okW (frD (TT m)) (gnD (TT m) s lv) j i && decide (btS go i = 0)) = true → ∃ V2, DX10_dealt_116 k53 k88 N v1 (nI j) (nI go) V (nI (i + 1)) M = k88 v1 (nI j) (nI (go + 1)) (sI M 70 (1024 * j + go) V2) ∧ V2.toInt = fmx (fun k => okW (frD (TT m)) (gnD (TT m) s lv) j k && decide (btS go k = 0)) (fun k => gnD (TT m) s lv j k + Mo (frD (TT m)) (gnD (TT m) s lv) s (b - (j + 1)) (j + 1) (go + 2 ^ k)) (f + 1) i V.toInt := fun q => by
        obtain ⟨V2, e1, e2⟩ := ih f (i + 1) V (by omega) (by omega)
        refine ⟨V2, e1, ?_⟩
        rw [e2]
        conv => rhs; unfold fmx
        rw [if_neg q]
      by_cases hf : (TT m 9 i).toInt < 0 ∧ ¬ TT m 10 i = 1
      · rw [if_neg (fun z => z hf), isIn_m (by omega) (by omega), Option.bind_some]
        simp only []
        have g9 := h69 i his hf.2
        have r := gnD_r (lv := lv) k.1 (bn := j) his
        by_cases hbit : btS go i = 0
        · have hbit' : go / 2 ^ i % 2 = 0 := hbit
          rw [hbit', if_pos (show (if (0 : Nat) = 1 then (1 : Int32) else 0) = 0 by decide)]
          simp only [if_pos (inB_nI (show i < 10 by omega) (by omega)), nI_clamp (show i < 2 ^ 31 by omega)]
          by_cases hg : 0 ≤ gnD (TT m) s lv j i
          · have up := btS_up hbit hgo his
            have hT1 := hT (j + 1) (Nat.le_refl _) (by omega) (go + 2 ^ i) up
            have mr := Mo_r (fr := frD (TT m)) (gn := gnD (TT m) s lv) (fun bb kk hk => (gnD_r k.1 hk).2) s10 (b - (j + 1)) (j + 1) (go + 2 ^ i)
            have eok : (okW (frD (TT m)) (gnD (TT m) s lv) j i && decide (btS go i = 0)) = true := by
              unfold okW frD
              rw [decide_eq_true hf, decide_eq_true hg, decide_eq_true hbit]; rfl
            rw [if_neg (fun z => by have := toI_lt.mp z; rw [g9] at this; exact absurd this (by have : (0 : Int32).toInt = 0 := rfl; omega)), or_l (by omega) (by omega) hbit', dAt (by omega), Option.bind_some]
            simp only [if_pos (inB_nI (show 1024 * (j + 1) + (go + 2 ^ i) < 7168 by omega) (by omega)), nI_clamp (show 1024 * (j + 1) + (go + 2 ^ i) < 2 ^ 31 by omega)]
            have es : (gI M 69 i + gI M 70 (1024 * (j + 1) + (go + 2 ^ i))).toInt = gnD (TT m) s lv j i + Mo (frD (TT m)) (gnD (TT m) s lv) s (b - (j + 1)) (j + 1) (go + 2 ^ i) := by
              have l1 : (Mo (frD (TT m)) (gnD (TT m) s lv) s (b - (j + 1)) (j + 1) (go + 2 ^ i)) ≤ 5994 := by omega
              rw [iAdd (by rw [g9, hT1]; omega) (by rw [g9, hT1]; omega), g9, hT1]
            generalize gI M 69 i + gI M 70 (1024 * (j + 1) + (go + 2 ^ i)) = W at es
            have fin : ∀ U : Int32, U.toInt = mxI V.toInt W.toInt → ∃ V2, DX10_dealt_116 k53 k88 N v1 (nI j) (nI go) U (nI (i + 1)) M = k88 v1 (nI j) (nI (go + 1)) (sI M 70 (1024 * j + go) V2) ∧ V2.toInt = fmx (fun k => okW (frD (TT m)) (gnD (TT m) s lv) j k && decide (btS go k = 0)) (fun k => gnD (TT m) s lv j k + Mo (frD (TT m)) (gnD (TT m) s lv) s (b - (j + 1)) (j + 1) (go + 2 ^ k)) (f + 1) i V.toInt := fun U hU => by
              obtain ⟨V2, e1, e2⟩ := ih f (i + 1) U (by omega) (by omega)
              refine ⟨V2, e1, ?_⟩
              rw [e2]
              conv => rhs; unfold fmx
              rw [if_pos eok, hU, es]
            unfold mxI at fin
            by_cases hq : W ≤ V
            · have := toI_le.mp hq
              rw [if_pos hq]
              exact fin V (by rw [if_neg (by omega)])
            · have : ¬ W.toInt ≤ V.toInt := fun z => hq (toI_le.mpr z)
              rw [if_neg hq]
              exact fin W (by rw [if_pos (by omega)])
          · rw [if_pos (toI_lt.mpr (by rw [g9]; have : (0 : Int32).toInt = 0 := rfl; omega))]
            exact skip (fun z => by
              unfold okW at z
              rw [decide_eq_false hg, Bool.and_false, Bool.false_and] at z
              exact absurd z (by decide))
        · have hb1 : go / 2 ^ i % 2 = 1 := by
            have h1 : ¬ go / 2 ^ i % 2 = 0 := hbit
            have h2 : go / 2 ^ i % 2 < 2 := Nat.mod_lt _ (by omega)
            generalize go / 2 ^ i % 2 = z at h1 h2 ⊢
            omega
          rw [hb1, if_neg (show ¬ (if (1 : Nat) = 1 then (1 : Int32) else 0) = 0 by decide)]
          exact skip (fun z => by
            rw [decide_eq_false hbit, Bool.and_false] at z
            exact absurd z (by decide))
      · rw [if_pos hf]
        exact skip (fun z => by
          unfold okW frD at z
          rw [decide_eq_false hf, Bool.false_and, Bool.false_and] at z
          exact absurd z (by decide))
/-- one row of the table -/
theorem dlm_3 (k : K m s b kn lv) {k53 : Int32 → Int32 → Mm → Option (Int32 × Mm)} {j : Nat} (hj : j < b) : ∀ (N f go : Nat) (M : Mm), go + f = 2 ^ s → f < N → ch Pdr m M → (∀ i, i < s → ¬ TT m 10 i = 1 → (gI M 69 i).toInt = gnD (TT m) s lv j i) → tb7 M (frD (TT m)) (gnD (TT m) s lv) s b (j + 1) → (∀ x, x < go → (gI M 70 (1024 * j + x)).toInt = Mo (frD (TT m)) (gnD (TT m) s lv) s (b - j) j x) → ∃ M2, DX10_dealt_88 k53 N v1 (nI j) (nI go) M = k53 v1 (nI j + (-1)) M2 ∧ ch Pdr m M2 ∧ tb7 M2 (frD (TT m)) (gnD (TT m) s lv) s b j := by
  have s10 := k.1.1.s10
  have b6 := k.1.1.b6
  have p10 : 2 ^ s ≤ 2 ^ 10 := Nat.pow_le_pow_right (by omega) s10
  intro N
  induction N with
  | zero => intro f go M h1 h2; omega
  | succ N ih =>
    intro f go M h1 h2 c h69 hT hR
    show ∃ M2, BX10_dealt_88 k53 (DX10_dealt_88 k53 N) v1 (nI j) (nI go) M = _ ∧ _
    unfold BX10_dealt_88
    rw [show gI M 58 6 = nI s by rw [c.I rfl]; exact k.1.1.2.2.2.2.1, shl_l s10]
    cases f with
    | zero =>
      have e : go = 2 ^ s := by omega
      subst e
      rw [if_pos (Int32.le_refl _)]
      refine ⟨M, rfl, c, fun j' j1 j2 x hx => ?_⟩
      by_cases e : j' = j
      · subst e; exact hR x hx
      · exact hT j' (by omega) j2 x hx
    | succ f =>
      have hgo : go < 2 ^ s := by omega
      rw [if_neg (nI_ge hgo (by omega)), nI_1, dAt (by omega), Option.bind_some]
      simp only [if_pos (inB_nI (show 1024 * (j + 1) + go < 7168 by omega) (by omega)), nI_clamp (show 1024 * (j + 1) + go < 2 ^ 31 by omega)]
      obtain ⟨V2, e1, e2⟩ := dlm_2 (v1 := v1) (k53 := k53) (k88 := DX10_dealt_88 k53 N) k hj hgo c h69 hT FU s 0 (gI M 70 (1024 * (j + 1) + go)) (by omega) (by unfold FU; omega)
      rw [nI_0] at e1
      rw [e1]
      have e0 := hT (j + 1) (Nat.le_refl _) (by omega) go hgo
      rw [e0] at e2
      have eM : V2.toInt = Mo (frD (TT m)) (gnD (TT m) s lv) s (b - j) j go := by
        rw [show b - j = b - (j + 1) + 1 by omega]; exact e2
      refine ih f (go + 1) _ (by omega) (by omega) (c.tr (ch.sI rfl)) (fun i hi ho => h69 i hi ho) (fun j' j1 j2 x hx => ?_) (fun x hx => ?_)
      · rw [gI_at, if_neg (by omega)]; exact hT j' j1 j2 x hx
      · rw [gI_at]
        by_cases e : x = go
        · subst e; rw [if_pos rfl]; exact eM
        · rw [if_neg (by omega)]; exact hR x (by omega)
theorem dlm_4 (k : K m s b kn lv) {k53 : Int32 → Int32 → Mm → Option (Int32 × Mm)} {j : Nat} (hj : j < b) : ∀ (N f i : Nat) (M : Mm), i + f = s → f < N → ch Pdr m M → (∀ x, x < i → ¬ TT m 10 x = 1 → (gI M 69 x).toInt = gnD (TT m) s lv j x) → tb7 M (frD (TT m)) (gnD (TT m) s lv) s b (j + 1) → ∃ M2, DX10_dealt_59 k53 N v1 (nI j) (nI i) M = k53 v1 (nI j + (-1)) M2 ∧ ch Pdr m M2 ∧ tb7 M2 (frD (TT m)) (gnD (TT m) s lv) s b j := by
  have s10 := k.1.1.s10
  have b6 := k.1.1.b6
  have p10 : 2 ^ s ≤ 2 ^ 10 := Nat.pow_le_pow_right (by omega) s10
  intro N
  induction N with
  | zero => intro f i M h1 h2; omega
  | succ N ih =>
    intro f i M h1 h2 c h69 hT
    show ∃ M2, BX10_dealt_59 k53 (DX10_dealt_59 k53 N) v1 (nI j) (nI i) M = _ ∧ _
    unfold BX10_dealt_59
    rw [show gI M 58 6 = nI s by rw [c.I rfl]; exact k.1.1.2.2.2.2.1]
    cases f with
    | zero =>
      have e : i = s := by omega
      subst e
      rw [if_pos (Int32.le_refl _)]
      have z := dlm_3 (v1 := v1) (k53 := k53) k hj FU (2 ^ i) 0 M (by omega) (by unfold FU; omega) c h69 hT (fun x hx => absurd hx (by omega))
      rw [nI_0] at z
      exact z
    | succ f =>
      have his : i < s := by omega
      obtain ⟨r, M1, x1, x2, x3⟩ := gain_n k hj his c
      rw [if_neg (nI_ge his (by omega)), x1, Option.bind_some, if_pos (inB_nI (by omega) (by omega)), nI_1]
      simp only []
      rw [nI_clamp (by omega)]
      refine ih f (i + 1) _ (by omega) (by omega) ((c.tr (x2.up Pbt_dr)).tr (ch.sI rfl)) (fun x hx ho => ?_) (fun j' j1 j2 x hx => ?_)
      · rw [gI_at]
        by_cases e : x = i
        · subst e; rw [if_pos rfl]; exact x3 ho
        · rw [if_neg e, x2.I rfl]; exact h69 x (by omega) ho
      · rw [gI_sI, if_neg (fun z => by omega), x2.I rfl]; exact hT j' j1 j2 x hx
/-- behind the table -/
def dEnd (v1 : Int32) (M : Mm) : Option (Int32 × Mm) := if v1 = -1 then some (gI M 70 0, M) else DX10_dealt_253 FU v1 0 (-2) 0 M
theorem dlm_5 (k : K m s b kn lv) : ∀ (N n : Nat) (M : Mm), n ≤ b → n < N → ch Pdr m M → tb7 M (frD (TT m)) (gnD (TT m) s lv) s b n → ∃ M2, DX10_dealt_53 N v1 (nI n + (-1)) M = dEnd v1 M2 ∧ ch Pdr m M2 ∧ tb7 M2 (frD (TT m)) (gnD (TT m) s lv) s b 0 := by
  have s10 := k.1.1.s10
  have b6 := k.1.1.b6
  intro N
  induction N with
  | zero => intro n M h1 h2; omega
  | succ N ih =>
    intro n M h1 h2 c hT
    show ∃ M2, BX10_dealt_53 (DX10_dealt_53 N) v1 (nI n + (-1)) M = _ ∧ _
    unfold BX10_dealt_53
    cases n with
    | zero =>
      rw [if_pos (show nI 0 + (-1) < 0 by decide)]
      refine ⟨M, ?_, c, hT⟩
      unfold dEnd
      have z := dAt (j := 0) (x := 0) (by omega) (M := M)
      rw [nI_0] at z
      rw [z, Option.bind_some]
      simp only [if_pos (show inB (0 : Int32) 7168 by decide)]
      rfl
    | succ n =>
      have en : nI (n + 1) + (-1) = nI n := by rw [← Int32.sub_eq_add_neg]; exact nI_m1
      rw [en, if_neg (fun z => by have := toI_lt.mp z; rw [nI_toInt (by omega)] at this; exact absurd this (by have : (0 : Int32).toInt = 0 := rfl; omega))]
      obtain ⟨M1, x1, x2, x3⟩ := dlm_4 (v1 := v1) (k53 := DX10_dealt_53 N) k (j := n) (by omega) FU s 0 M (by omega) (by unfold FU; omega) c (fun x hx => absurd hx (by omega)) hT
      rw [nI_0] at x1
      rw [x1]
      exact ih n M1 (by omega) (by omega) x2 x3
end DEALH
