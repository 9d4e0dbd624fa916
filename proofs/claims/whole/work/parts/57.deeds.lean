/-! ===== open, dusk, sell: alike on both sides ===== -/
section DEEDS
variable {m : Mm} {s b kn n : Nat} {t : Nat → Nat} {lv : Option LF} {v1 v2 v3 v4 : Int32}
def FIm (o k : Nat) : Bool := o == 23 || (decide (25 ≤ o) && decide (o ≤ 28)) || (decide (73 ≤ o) && decide (o ≤ 76)) || (o == 58 && (k == 25 || k == 26 || k == 27))
theorem Jim_f {P : Nat → Nat → Bool} {m' : Mm} (J : Jim m s b) (h : ch P m m') (hp : off FIm P) : Jim m' s b := by
  unfold Jim at J ⊢
  have a : ∀ k, gI m' 23 k = gI m 23 k := fun k => h.I (hp _ _ rfl)
  rw [a, a, a, h.I (o := 58) (k := 25) (hp _ _ rfl), h.I (o := 58) (k := 26) (hp _ _ rfl), h.I (o := 58) (k := 27) (hp _ _ rfl)]
  rcases J with J | ⟨a2, a3, s1, b1, c1, c2, c3, c4, c5, c6, c7, c8, c9⟩
  · exact Or.inl J
  · refine Or.inr ⟨a2, a3, s1, b1, c1, c2, c3, c4, c5, c6, fun k hk => ?_, fun k hk => ?_, fun k hk => ?_⟩
    · rw [h.I (o := 73) (hp _ _ rfl), h.I (o := 26) (hp _ _ rfl), h.I (o := 74) (hp _ _ rfl), h.I (o := 27) (hp _ _ rfl)]; exact c7 k hk
    · rw [h.I (o := 75) (hp _ _ rfl), h.I (o := 28) (hp _ _ rfl)]; exact c8 k hk
    · rw [h.I (o := 76) (hp _ _ rfl), h.I (o := 25) (hp _ _ rfl)]; exact c9 k hk
def Pop (o k : Nat) : Bool := o == 9 || o == 12 || o == 13 || o == 59 || o == 63 || o == 64 || o == 24 || o == 72 || o == 14 || o == 53 || o == 57 || o == 67 || (o == 58 && (decide (14 ≤ k) && decide (k ≤ 18)))
theorem oOp_L : off FLw Pop := fun o k h => by unfold FLw at h; unfold Pop; simp at h ⊢; omega
theorem oOp_H : off FH Pop := fun o k h => by unfold FH at h; unfold Pop; simp at h ⊢; omega
theorem oOp_P : off FP Pop := fun o k h => by unfold FP at h; unfold Pop; simp at h ⊢; omega
theorem oOp_C : off FC Pop := fun o k h => by unfold FC at h; unfold Pop; simp at h ⊢; omega
theorem oOp_I : off FIm Pop := fun o k h => by unfold FIm at h; unfold Pop; simp at h ⊢; omega
theorem oOp_N : off FN Pop := fun o k h => by unfold FN at h; unfold Pop; simp at h ⊢; omega
theorem JA_op {m' : Mm} (J : JA m s b kn n t lv) (c : ch Pop m m') (h1 : Ju m' s b) (h2 : ∀ k, k < 5 → gI m' 72 k = gI m' 24 k) : JA m' s b kn n t lv := ⟨⟨h1.jt, LvC_fr J.1.2.1 c oOp_L, LvR_fr J.1.2.2.1 c oOp_L, Jh_fr J.1.2.2.2 c oOp_H⟩, ⟨Jp_fr J.2.1.1 c oOp_P, Jr_fr J.2.1.2 c oOp_P⟩, Jc_fr J.2.2.1 c oOp_C, ⟨h2, Jim_f J.2.2.2.1.2 c oOp_I⟩, Jn_fr J.2.2.2.2 c oOp_N⟩
theorem Ju_open {m' : Mm} (J : Ju m s b) (e1 : ∀ o i, FT o i = true → ¬ o = 13 → ¬ o = 64 → gI m' o i = gI m o i) (e2 : ∀ k, k < s → gI m' 64 k = gI m' 13 k ∧ (gI m' 13 k = 0 ∨ gI m' 13 k = 1)) (e3 : ∀ k, s ≤ k → gI m' 64 k = gI m 64 k) : Ju m' s b := by
  obtain ⟨⟨j1, j2, j3, j4, j5, j6⟩, ju, jk, jo⟩ := J
  refine ⟨⟨j1, j2, ?_, ?_, ?_, ?_⟩, fun w k hh => ?_, fun k hk => ?_, fun k h1 h2 => ?_⟩
  · rw [e1 1 2 rfl (by omega) (by omega)]; exact j3
  · rw [e1 1 3 rfl (by omega) (by omega)]; exact j4
  · rw [e1 58 6 rfl (by omega) (by omega)]; exact j5
  · rw [e1 58 7 rfl (by omega) (by omega)]; exact j6
  · have h8 := hn_8 hh
    rw [e1 59 _ rfl (by omega) (by omega), e1 _ _ (FT_w (by omega)) (by omega) (by omega)]; exact ju w k hh
  · have := jk k hk
    rw [e1 63 _ rfl (by omega) (by omega), e1 12 _ rfl (by omega) (by omega)]
    exact ⟨this.1, this.2.1, this.2.2.1, e2 k hk⟩
  · rw [e3 k h1]; exact jo k h1 h2
theorem Un_T {M : Mm} (c : ch Pun m M) : ∀ w i, ¬ w = 10 → TT M w i = TT m w i := fun w i hw => by
  unfold TT
  by_cases h : w ≤ 10
  · rw [if_pos h, if_pos h, c.I (by unfold Pun; simp; omega)]
  · rw [if_neg h, if_neg h]
theorem oUn_w : off FTw Pun := fun o k h => by unfold FTw at h; unfold Pun; simp at h ⊢; omega
theorem Pun_op : ∀ o k, Pop o k = false → Pun o k = false := up_of fun o k q => by unfold Pun at q; unfold Pop; simp at q ⊢; omega
theorem Pon_op : ∀ o k, Pop o k = false → Pon o k = false := up_of fun o k q => by unfold Pon at q; unfold Pop; simp at q ⊢; omega
theorem Rk_of (J : Jt m s b) {k : Nat} (hk : k < s) : Rk m b k := by
  obtain ⟨a, -, c, -⟩ := J.2.2.1 k hk
  exact ⟨a.2.1, a.2.2, c.2.1, c.2.2⟩
theorem open_j (J : JA m s b kn n t lv) : Ans (dX9_open v1) (dX10_open v1) m := by
  have JT := J.1.1
  have s10 := JT.1.s10
  have z0 : (0 : Int32).toInt = 0 := rfl
  unfold Ans dX9_open dX10_open
  simp only [holds_x JT.1, isSack_m JT.1, i64, Option.bind_some, b01_0]
  have e4 : (4 : Int32).toInt = 4 := rfl
  rw [e4]
  by_cases h : 0 ≤ v1.toInt ∧ v1.toInt < (s : Int)
  · obtain ⟨k, hk⟩ : ∃ q : Nat, v1.toInt = q := ⟨v1.toInt.toNat, by omega⟩
    obtain rfl := nI_of_toInt hk
    have ks : k < s := by omega
    have jk := JT.2.2.1 k ks
    have hi : inB (nI k) 10 := inB_nI (by omega) (by omega)
    rw [if_neg (fun q => q (by unfold hd; omega)), isOpen_x JT.1 hk ks, Option.bind_some]
    simp only [b01_0]
    by_cases ho : gI m 13 k = 1
    · rw [if_neg (fun q => q ho)]
      refine ⟨-5, m, m, rfl, ?_, _, _, _, _, _, _, J⟩
      rw [isSack_m JT.1, Option.bind_some, i64, b01_t h, if_neg (show ¬ (1 : Int32) = 0 by decide), if_pos hi, nI_clamp (by omega), jk.2.2.2.1, ho, if_neg (by decide)]
    · have h0 : gI m 13 k = 0 := by rcases jk.2.2.2.2 with q | q; exact q; exact absurd q ho
      rw [if_pos ho]
      obtain ⟨m1, x1, x2, x3, x4, x5, x6⟩ := untie_x JT.1 J.1.2.1 ks (Rk_of JT ks)
      have J1 := Jw_fr (Jw.of JT) x2 oUn_w
      obtain ⟨m2, y1, y2, y3, y4, y5, y6⟩ := opens_m J1 (LvR_fr J.1.2.2.1 x2 oUn_L) ks
      rw [grS_T (Un_T x2)] at y1 y5
      have e64 : ∀ i, gI m1 64 i = gI m 64 i := fun i => x2.I rfl
      have e72 : ∀ i, gI m1 72 i = gI m 72 i := fun i => x2.I rfl
      have f13 : ∀ i, gI m2 13 i = gI m1 13 i := fun i => y2.I rfl
      have f24 : ∀ i, gI m2 24 i = gI m1 24 i := fun i => y2.I rfl
      have hled := J.2.2.2.1.1
      rw [x1, Option.bind_some]
      simp only []
      rw [told_x J1.1 (wn := 4) rfl hk (by unfold hd; omega), Option.bind_some]
      have e7 : gI m1 (3 + 4) k = gI m 7 k := x2.I rfl
      have i24 : inB ((24 : Int32) + nI k) 62 := by rw [show (24 : Int32) = nI 24 from rfl, nI_add]; exact inB_nI (by omega) (by omega)
      have c24 : ((24 : Int32) + nI k).toNatClampNeg = 24 + k := by rw [show (24 : Int32) = nI 24 from rfl, nI_add]; exact nI_clamp (by omega)
      refine ⟨gI m 7 k, m1, m2, by rw [e7], ?_, s, b, kn, n, t, lv, JA_op J ((x2.up Pun_op).tr (y2.up Pon_op)) (Ju_open (Ju.of JT) (fun o i hf q1 q2 => ?_) (fun i hi2 => ?_) (fun i hi2 => ?_)) (fun i hi2 => ?_)⟩
      · rw [isSack_m J1.1, Option.bind_some, i64, b01_t h, if_neg (show ¬ (1 : Int32) = 0 by decide), if_pos hi, nI_clamp (by omega), e64, jk.2.2.2.1, h0, if_pos rfl, y1, Option.bind_some, if_pos i24, c24, y2.I rfl, x2.I rfl, jk.1.1]
      · rw [y2.I (by unfold Pon; unfold FT at hf; simp at hf ⊢; omega), x2.I (by unfold Pun; unfold FT at hf; simp at hf ⊢; omega)]
      · rw [y3, f13, x3, e64]
        by_cases e : i = k
        · rw [if_pos e, if_pos e]; exact ⟨rfl, Or.inr rfl⟩
        · rw [if_neg e, if_neg e]; exact (JT.2.2.1 i hi2).2.2.2
      · rw [y3, if_neg (by omega), e64]
      · rw [f24]
        by_cases q2 : i = 2
        · subst q2; rw [y4, x4, e72, hled 2 (by omega)]
        · by_cases q3 : i = 3
          · subst q3; rw [y5, x5, e72, hled 3 (by omega)]
          · rw [y6 i q2 q3, x6 i q2 q3, e72, hled i hi2]
  · refine ⟨-1, m, m, by rw [if_pos (by unfold hd; omega)], ?_, _, _, _, _, _, _, J⟩
    rw [isSack_m JT.1, Option.bind_some, i64, b01_f h, if_pos rfl]
/-- all that are not open, from i on, f of them -/
def dkG (o g : Nat → Int32) : Nat → Nat → Int32
  | 0, _ => 0
  | f + 1, i => (if o i = 1 then 0 else g i) + dkG o g f (i + 1)
theorem untieAll_l (JT : Jt m s b) (L : LvC m lv) {bef : Int32} : ∀ (N f i : Nat) (M : Mm), i + f = s → f < N → ch Pun m M → (∀ j, i ≤ j → gI M 13 j = gI m 13 j) → ∃ M2, DX3_untieAll_9 N bef (nI i) M = some (gI M2 24 3 - bef, M2) ∧ ch Pun M M2 ∧ (∀ j, gI M2 13 j = if i ≤ j ∧ j < s then 1 else gI M 13 j) ∧ gI M2 24 2 = gI M 24 2 + dkG (TT m 10) (fun _ => 1) f i ∧ gI M2 24 3 = gI M 24 3 + dkG (TT m 10) (grS (TT m) s lv) f i ∧ gI M2 24 4 = gI M 24 4 + 1 ∧ ∀ j, j < 2 → gI M2 24 j = gI M 24 j := by
  have s10 := JT.1.s10
  intro N
  induction N with
  | zero => intro f i M h1 h2; omega
  | succ N ih =>
    intro f i M h1 h2 c h4
    have JM := Js_fr JT.1 c oUn_s
    have LM := LvC_fr L c oUn_L
    show ∃ M2, BX3_untieAll_9 (DX3_untieAll_9 N) bef (nI i) M = _ ∧ _
    unfold BX3_untieAll_9 DX3_untieAll_36
    rw [JM.2.2.1]
    cases f with
    | zero =>
      have e : i = s := by omega
      subst e
      have r3 : gI (sI M 24 4 (gI M 24 4 + 1)) 24 3 = gI M 24 3 := by rw [gI_sI, if_neg (by omega)]
      rw [if_pos (Int32.le_refl _), r3]
      refine ⟨sI M 24 4 (gI M 24 4 + 1), by rw [r3], ch.sI rfl, fun j => ?_, ?_, ?_, ?_, fun j hj => ?_⟩
      · rw [gI_sI, if_neg (by omega), if_neg (by omega)]
      · rw [gI_sI, if_neg (by omega)]; exact (Int32.add_zero _).symm
      · rw [r3]; exact (Int32.add_zero _).symm
      · rw [gI_sI, if_pos ⟨rfl, rfl⟩]
      · rw [gI_sI, if_neg (by omega)]
    | succ f =>
      have his : i < s := by omega
      have ei : (nI i).toInt = i := nI_toInt (by omega)
      have et : TT m 10 i = gI m 13 i := rfl
      rw [if_neg (nI_ge his (by omega)), isOpen_x JM ei his, Option.bind_some, h4 i (Nat.le_refl _)]
      simp only [b01_0, nI_1]
      unfold dkG
      rw [et]
      by_cases ho : gI m 13 i = 1
      · rw [if_neg (fun q => q ho), if_pos ho, if_pos ho, Int32.zero_add, Int32.zero_add]
        obtain ⟨M2, x1, x2, x3, x4, x5, x6, x7⟩ := ih f (i + 1) M (by omega) (by omega) c (fun j hj => h4 j (by omega))
        refine ⟨M2, x1, x2, fun j => ?_, x4, x5, x6, x7⟩
        rw [x3 j]
        by_cases e : j = i
        · subst e
          rw [if_neg (by omega), if_pos (by omega), h4 j (Nat.le_refl _), ho]
        · by_cases q : i + 1 ≤ j ∧ j < s
          · rw [if_pos q, if_pos (by omega)]
          · rw [if_neg q, if_neg (by omega)]
      · rw [if_pos ho, if_neg ho, if_neg ho]
        have R := Rk_of JT his
        have RM : Rk M b i := by
          unfold Rk at R ⊢
          rw [c.I (o := 7) rfl, c.I (o := 12) rfl]; exact R
        obtain ⟨M1, y1, y2, y3, y4, y5, y6⟩ := untie_x JM LM his RM
        rw [grS_T (Un_T c)] at y5
        obtain ⟨M2, x1, x2, x3, x4, x5, x6, x7⟩ := ih f (i + 1) M1 (by omega) (by omega) (c.tr y2) (fun j hj => by rw [y3, if_neg (by omega)]; exact h4 j (by omega))
        rw [y1, Option.bind_some]
        refine ⟨M2, x1, y2.tr x2, fun j => ?_, ?_, ?_, ?_, fun j hj => ?_⟩
        · rw [x3 j, y3]
          by_cases e : j = i
          · subst e
            rw [if_neg (by omega), if_pos rfl, if_pos (by omega)]
          · rw [if_neg e]
            by_cases q : i + 1 ≤ j ∧ j < s
            · rw [if_pos q, if_pos (by omega)]
            · rw [if_neg q, if_neg (by omega)]
        · rw [x4, y4, Int32.add_assoc]
        · rw [x5, y5, Int32.add_assoc]
        · rw [x6, y6 4 (by omega) (by omega)]
        · rw [x7 j hj, y6 j (by omega) (by omega)]
theorem dusk_l {o gr : Nat → Int32} (JW : Jw m s b) (L : LvR m lv) (hgr : grS (TT m) s lv = gr) (ho : ∀ j, j < s → gI m 64 j = o j ∧ (o j = 0 ∨ o j = 1)) : ∀ (N f i : Nat) (acc : Int32) (M : Mm), i + f = s → f < N → ch Pon m M → (∀ j, i ≤ j → gI M 64 j = gI m 64 j) → ∃ M2, DX10_dusk_4 N acc (nI i) M = some (acc + dkG o gr f i, M2) ∧ ch Pon M M2 ∧ (∀ j, gI M2 64 j = if i ≤ j ∧ j < s then 1 else gI M 64 j) ∧ gI M2 72 2 = gI M 72 2 + dkG o (fun _ => 1) f i ∧ gI M2 72 3 = gI M 72 3 + dkG o gr f i ∧ gI M2 72 4 = gI M 72 4 + 1 ∧ ∀ j, j < 2 → gI M2 72 j = gI M 72 j := by
  have s10 := JW.1.s10
  intro N
  induction N with
  | zero => intro f i acc M h1 h2; omega
  | succ N ih =>
    intro f i acc M h1 h2 c h4
    have JM := Jw_fr JW c oOn_w
    have LM := LvR_fr L c oOn_L
    show ∃ M2, BX10_dusk_4 (DX10_dusk_4 N) acc (nI i) M = _ ∧ _
    unfold BX10_dusk_4 DX10_dusk_31
    rw [JM.1.2.2.2.2.1]
    cases f with
    | zero =>
      have e : i = s := by omega
      subst e
      rw [if_pos (Int32.le_refl _)]
      refine ⟨sI M 72 4 (gI M 72 4 + 1), by rw [show dkG o gr 0 i = 0 from rfl, Int32.add_zero], ch.sI rfl, fun j => ?_, ?_, ?_, ?_, fun j hj => ?_⟩
      · rw [gI_sI, if_neg (by omega), if_neg (by omega)]
      · rw [gI_sI, if_neg (by omega)]; exact (Int32.add_zero _).symm
      · rw [gI_sI, if_neg (by omega)]; exact (Int32.add_zero _).symm
      · rw [gI_sI, if_pos ⟨rfl, rfl⟩]
      · rw [gI_sI, if_neg (by omega)]
    | succ f =>
      have his : i < s := by omega
      have hoi := ho i his
      rw [if_neg (nI_ge his (by omega)), if_pos (inB_nI (by omega) (by omega)), nI_clamp (by omega), h4 i (Nat.le_refl _), hoi.1, nI_1]
      unfold dkG
      rcases hoi.2 with h0 | h0
      · have hne : ¬ o i = 1 := by rw [h0]; decide
        rw [if_pos h0, if_neg hne, if_neg hne]
        obtain ⟨M1, y1, y2, y3, y4, y5, y6⟩ := opens_m JM LM his
        have eT : TT M = TT m := funext fun w => funext fun k => by
          unfold TT
          by_cases h : w ≤ 10
          · rw [if_pos h, if_pos h, c.I (by unfold Pon; simp; omega)]
          · rw [if_neg h, if_neg h]
        rw [eT, hgr] at y1 y5
        obtain ⟨M2, x1, x2, x3, x4, x5, x6, x7⟩ := ih f (i + 1) (acc + gr i) M1 (by omega) (by omega) (c.tr y2) (fun j hj => by rw [y3, if_neg (by omega)]; exact h4 j (by omega))
        rw [y1, Option.bind_some]
        refine ⟨M2, by rw [← Int32.add_assoc]; exact x1, y2.tr x2, fun j => ?_, ?_, ?_, ?_, fun j hj => ?_⟩
        · rw [x3 j, y3]
          by_cases e : j = i
          · subst e
            rw [if_neg (by omega), if_pos rfl, if_pos (by omega)]
          · rw [if_neg e]
            by_cases q : i + 1 ≤ j ∧ j < s
            · rw [if_pos q, if_pos (by omega)]
            · rw [if_neg q, if_neg (by omega)]
        · rw [x4, y4, Int32.add_assoc]
        · rw [x5, y5, Int32.add_assoc]
        · rw [x6, y6 4 (by omega) (by omega)]
        · rw [x7 j hj, y6 j (by omega) (by omega)]
      · rw [if_neg (by rw [h0]; decide), if_pos h0, if_pos h0, Int32.add_zero, Int32.zero_add, Int32.zero_add]
        obtain ⟨M2, x1, x2, x3, x4, x5, x6, x7⟩ := ih f (i + 1) acc M (by omega) (by omega) c (fun j hj => h4 j (by omega))
        refine ⟨M2, x1, x2, fun j => ?_, x4, x5, x6, x7⟩
        rw [x3 j]
        by_cases e : j = i
        · subst e
          rw [if_neg (by omega), if_pos (by omega), h4 j (Nat.le_refl _), hoi.1, h0]
        · by_cases q : i + 1 ≤ j ∧ j < s
          · rw [if_pos q, if_pos (by omega)]
          · rw [if_neg q, if_neg (by omega)]
theorem i_aab {a g : Int32} : a + g - a = g := by rw [Int32.add_comm, Int32.add_sub_cancel]
theorem dusk_j (J : JA m s b kn n t lv) : Ans dX9_dusk dX10_dusk m := by
  have JT := J.1.1
  have s10 := JT.1.s10
  obtain ⟨m1, x1, x2, x3, x4, x5, x6, x7⟩ := untieAll_l (bef := gI m 24 3) JT J.1.2.1 FU s 0 m (by omega) (by unfold FU; omega) ch.rf (fun _ _ => rfl)
  have e64 : ∀ i, gI m1 64 i = gI m 64 i := fun i => x2.I rfl
  have e72 : ∀ i, gI m1 72 i = gI m 72 i := fun i => x2.I rfl
  obtain ⟨m2, y1, y2, y3, y4, y5, y6, y7⟩ := dusk_l (o := TT m 10) (gr := grS (TT m) s lv) (Jw_fr (Jw.of JT) x2 oUn_w) (LvR_fr J.1.2.2.1 x2 oUn_L) (funext fun k => grS_T (Un_T x2)) (fun j hj => by
    have := (JT.2.2.1 j hj).2.2.2
    rw [e64]; exact this) FU s 0 0 m1 (by omega) (by unfold FU; omega) ch.rf (fun _ _ => rfl)
  have f13 : ∀ i, gI m2 13 i = gI m1 13 i := fun i => y2.I rfl
  have f24 : ∀ i, gI m2 24 i = gI m1 24 i := fun i => y2.I rfl
  have hled := J.2.2.2.1.1
  rw [nI_0] at x1 y1
  unfold Ans dX9_dusk dX3_untieAll dX10_dusk
  refine ⟨dkG (TT m 10) (grS (TT m) s lv) s 0, m1, m2, ?_, ?_, s, b, kn, n, t, lv, JA_op J ((x2.up Pun_op).tr (y2.up Pon_op)) (Ju_open (Ju.of JT) (fun o i hf q1 q2 => ?_) (fun i hi2 => ?_) (fun i hi2 => ?_)) (fun i hi2 => ?_)⟩
  · rw [x1, Option.bind_some, x5, i_aab]
  · rw [y1, Int32.zero_add]
  · rw [y2.I (by unfold Pon; unfold FT at hf; simp at hf ⊢; omega), x2.I (by unfold Pun; unfold FT at hf; simp at hf ⊢; omega)]
  · rw [y3, f13, x3, if_pos ⟨Nat.zero_le _, hi2⟩, if_pos ⟨Nat.zero_le _, hi2⟩]; exact ⟨rfl, Or.inr rfl⟩
  · rw [y3, if_neg (by omega), e64]
  · rw [f24]
    have : i = 0 ∨ i = 1 ∨ i = 2 ∨ i = 3 ∨ i = 4 := by omega
    rcases this with rfl | rfl | rfl | rfl | rfl
    · rw [y7 0 (by omega), x7 0 (by omega), e72, hled 0 (by omega)]
    · rw [y7 1 (by omega), x7 1 (by omega), e72, hled 1 (by omega)]
    · rw [y4, x4, e72, hled 2 (by omega)]
    · rw [y5, x5, e72, hled 3 (by omega)]
    · rw [y6, x6, e72, hled 4 (by omega)]
theorem Ju_sold {m' : Mm} {k q : Nat} (J : Ju m s b) (hq : q < b) (e : ∀ o i, FT o i = true → gI m' o i = if (o = 63 ∨ o = 12) ∧ i = k then nI q else gI m o i) : Ju m' s b := by
  obtain ⟨⟨j1, j2, j3, j4, j5, j6⟩, ju, jk, jo⟩ := J
  refine ⟨⟨j1, j2, ?_, ?_, ?_, ?_⟩, fun w i hh => ?_, fun i hi => ?_, fun i h1 h2 => ?_⟩
  · rw [e 1 2 rfl, if_neg (by omega)]; exact j3
  · rw [e 1 3 rfl, if_neg (by omega)]; exact j4
  · rw [e 58 6 rfl, if_neg (by omega)]; exact j5
  · rw [e 58 7 rfl, if_neg (by omega)]; exact j6
  · have h8 := hn_8 hh
    rw [e 59 _ rfl, if_neg (by omega), e _ _ (FT_w (by omega)), if_neg (by omega)]; exact ju w i hh
  · have := jk i hi
    rw [e 64 _ rfl, if_neg (by omega), e 13 _ rfl, if_neg (by omega), e 63 _ rfl, e 12 _ rfl]
    by_cases hk : i = k
    · have eq : (nI q).toInt = q := nI_toInt (by omega)
      rw [if_pos ⟨Or.inl rfl, hk⟩, if_pos ⟨Or.inr rfl, hk⟩, eq]
      exact ⟨rfl, by omega, by omega, this.2.2.2⟩
    · rw [if_neg (fun z => hk z.2), if_neg (fun z => hk z.2)]; exact this
  · rw [e 64 _ rfl, if_neg (by omega)]; exact jo i h1 h2
theorem sell_j (J : JA m s b kn n t lv) : Ans (dX9_sell v1 v2) (dX10_sell v1 v2) m := by
  have JT := J.1.1
  have s10 := JT.1.s10
  have b6 := JT.1.b6
  have hled := J.2.2.2.1.1
  have e4 : (4 : Int32).toInt = 4 := rfl
  have e6 : (6 : Int32).toInt = 6 := rfl
  unfold Ans dX9_sell dX10_sell DX9_sell_25 DX9_sell_60 DX10_sell_18 DX10_sell_51
  simp only [holds_x JT.1, isSack_m JT.1, isBuyer_m JT.1, i64, Option.bind_some, b01_0, e4, e6]
  by_cases h1 : 0 ≤ v1.toInt ∧ v1.toInt < (s : Int)
  · by_cases h2 : 0 ≤ v2.toInt ∧ v2.toInt < (b : Int)
    · obtain ⟨k, hk⟩ : ∃ q : Nat, v1.toInt = q := ⟨v1.toInt.toNat, by omega⟩
      obtain ⟨q, hq⟩ : ∃ q : Nat, v2.toInt = q := ⟨v2.toInt.toNat, by omega⟩
      obtain rfl := nI_of_toInt hk
      obtain rfl := nI_of_toInt hq
      have ks : k < s := by omega
      have qb : q < b := by omega
      have jk := JT.2.2.1 k ks
      have jb := JT.2.2.2.2 q qb
      have ik : inB (nI k) 10 := inB_nI (by omega) (by omega)
      have e34 : (34 : Int32) + nI k = nI (34 + k) := by rw [show (34 : Int32) = nI 34 from rfl, nI_add]
      have e44 : (44 : Int32) + nI q = nI (44 + q) := by rw [show (44 : Int32) = nI 44 from rfl, nI_add]
      have i34 : inB (nI (34 + k)) 62 := inB_nI (by omega) (by omega)
      have i44 : inB (nI (44 + q)) 62 := inB_nI (by omega) (by omega)
      rw [if_neg (fun z => z (by unfold hd; omega)), if_neg (fun z => z (by unfold hd; omega)), isFree_x JT.1 hk ks, Option.bind_some]
      simp only [b01_0]
      by_cases hf : (gI m 12 k).toInt < 0 ∧ ¬ gI m 13 k = 1
      · rw [if_neg (fun z => z hf)]
        rw [told_x JT.1 (wn := 6) rfl hq (by unfold hd; omega), Option.bind_some]
        simp only []
        rw [told_x JT.1 (wn := 5) rfl hk (by unfold hd; omega), Option.bind_some]
        simp only []
        have a9 : gI m (3 + 6) q = gI m 9 q := rfl
        have a8 : gI m (3 + 5) k = gI m 8 k := rfl
        rw [a9, a8]
        by_cases hp : gI m 8 k ≤ gI m 9 q
        · have hp' : (gI m 8 k).toInt ≤ (gI m 9 q).toInt := toI_le.mp hp
          have j8 := jk.2.1.2
          have j9 := jb.1.2
          generalize hP : gI m 9 q - gI m 8 k = p
          have ep : p.toInt = (gI m 9 q).toInt - (gI m 8 k).toInt := by rw [← hP, iSub (by omega) (by omega)]
          have hho : dX3_handOver (nI k) (nI q) m = some (p, sI (sI (sI (sI m 9 q p) 12 k (nI q)) 24 0 (gI m 24 0 + 1)) 24 1 (gI m 24 1 + gI m 8 k)) := by
            unfold dX3_handOver
            rw [told_x JT.1 (wn := 5) rfl hk (by unfold hd; omega), Option.bind_some]
            simp only []
            rw [told_x JT.1 (wn := 6) rfl hq (by unfold hd; omega), Option.bind_some]
            simp only [a9, a8, hP]
            rw [set_x JT.1 (wn := 6) rfl hq (by unfold hd; omega), Option.bind_some]
            simp only []
            have Jm : Js (sI m (3 + 6) q p) s b := by
              obtain ⟨a1, a2, a3, a4, a5, a6⟩ := JT.1
              exact ⟨a1, a2, a3, a4, a5, a6⟩
            rw [set_x Jm (wn := 9) rfl hk (by unfold hd; omega), Option.bind_some]
            have u0 : gI (sI (sI m (3 + 6) q p) (3 + 9) k (nI q)) 24 0 = gI m 24 0 := by rw [gI_sI, if_neg (by omega), gI_sI, if_neg (by omega)]
            have u1 : ∀ x, gI (sI (sI (sI m (3 + 6) q p) (3 + 9) k (nI q)) 24 0 x) 24 1 = gI m 24 1 := fun x => by rw [gI_sI, if_neg (by omega), gI_sI, if_neg (by omega), gI_sI, if_neg (by omega)]
            rw [u0, u1]
          rw [if_pos hp, hho, Option.bind_some]
          have c1 : ch Pop m (sI (sI (sI (sI m 9 q p) 12 k (nI q)) 24 0 (gI m 24 0 + 1)) 24 1 (gI m 24 1 + gI m 8 k)) := (((ch.sI rfl).tr (ch.sI rfl)).tr (ch.sI rfl)).tr (ch.sI rfl)
          have g0 : ∀ o i, ¬ o = 9 → ¬ o = 12 → ¬ o = 24 → gI (sI (sI (sI (sI m 9 q p) 12 k (nI q)) 24 0 (gI m 24 0 + 1)) 24 1 (gI m 24 1 + gI m 8 k)) o i = gI m o i := fun o i q1 q2 q3 => by
            rw [gI_sI, if_neg (by omega), gI_sI, if_neg (by omega), gI_sI, if_neg (by omega), gI_sI, if_neg (by omega)]
          have g9 : ∀ i, gI (sI (sI (sI (sI m 9 q p) 12 k (nI q)) 24 0 (gI m 24 0 + 1)) 24 1 (gI m 24 1 + gI m 8 k)) 9 i = if i = q then p else gI m 9 i := fun i => by
            rw [gI_sI, if_neg (by omega), gI_sI, if_neg (by omega), gI_sI, if_neg (by omega), gI_sI]; simp
          have g12 : ∀ i, gI (sI (sI (sI (sI m 9 q p) 12 k (nI q)) 24 0 (gI m 24 0 + 1)) 24 1 (gI m 24 1 + gI m 8 k)) 12 i = if i = k then nI q else gI m 12 i := fun i => by
            rw [gI_sI, if_neg (by omega), gI_sI, if_neg (by omega), gI_sI, gI_sI, if_neg (show ¬ (12 = 9 ∧ i = q) by omega)]; simp
          have g24 : ∀ i, gI (sI (sI (sI (sI m 9 q p) 12 k (nI q)) 24 0 (gI m 24 0 + 1)) 24 1 (gI m 24 1 + gI m 8 k)) 24 i = if i = 1 then gI m 24 1 + gI m 8 k else if i = 0 then gI m 24 0 + 1 else gI m 24 i := fun i => by
            rw [gI_sI, gI_sI, gI_sI, if_neg (show ¬ (24 = 12 ∧ i = k) by omega), gI_sI, if_neg (show ¬ (24 = 9 ∧ i = q) by omega)]; simp
          refine ⟨p, sI (sI (sI (sI m 9 q p) 12 k (nI q)) 24 0 (gI m 24 0 + 1)) 24 1 (gI m 24 1 + gI m 8 k), ?_⟩
          generalize sI (sI (sI (sI m 9 q p) 12 k (nI q)) 24 0 (gI m 24 0 + 1)) 24 1 (gI m 24 1 + gI m 8 k) = m1 at c1 g0 g9 g12 g24
          have Jm1 : Js m1 s b := by
            obtain ⟨a1, a2, a3, a4, a5, a6⟩ := JT.1
            exact ⟨a1, a2, by rw [g0 _ _ (by omega) (by omega) (by omega)]; exact a3, by rw [g0 _ _ (by omega) (by omega) (by omega)]; exact a4, by rw [g0 _ _ (by omega) (by omega) (by omega)]; exact a5, by rw [g0 _ _ (by omega) (by omega) (by omega)]; exact a6⟩
          have fr1 : dX10_isFree (nI k) m1 = some (1, m1) := by
            have z0 : (0 : Int32).toInt = 0 := rfl
            unfold dX10_isFree DX10_isFree_22
            rw [if_pos ik, if_pos ik, nI_clamp (by omega), g0 63 _ (by omega) (by omega) (by omega), g0 64 _ (by omega) (by omega) (by omega), jk.2.2.1.1, jk.2.2.2.1, if_neg (by rw [toI_le, z0]; omega)]
            rcases jk.2.2.2.2 with z | z
            · rw [if_pos z]
            · exact absurd z hf.2
          have h34 : gI m1 59 (34 + k) = gI m 8 k := by rw [g0 59 _ (by omega) (by omega) (by omega)]; exact jk.2.1.1
          have h44 : gI m1 59 (44 + q) = gI m 9 q := by rw [g0 59 _ (by omega) (by omega) (by omega)]; exact jb.1.1
          have w1 : gI (sI m1 63 k (nI q)) 59 (44 + q) = gI m 9 q := by rw [gI_sI, if_neg (by omega)]; exact h44
          have w2 : gI (sI (sI m1 63 k (nI q)) 59 (44 + q) p) 72 0 = gI m 24 0 := by rw [gI_sI, if_neg (by omega), gI_sI, if_neg (by omega), g0 72 _ (by omega) (by omega) (by omega)]; exact hled 0 (by omega)
          have w3 : ∀ x, gI (sI (sI (sI m1 63 k (nI q)) 59 (44 + q) p) 72 0 x) 72 1 = gI m 24 1 := fun x => by rw [gI_sI, if_neg (by omega), gI_sI, if_neg (by omega), gI_sI, if_neg (by omega), g0 72 _ (by omega) (by omega) (by omega)]; exact hled 1 (by omega)
          have w4 : ∀ x y, gI (sI (sI (sI (sI m1 63 k (nI q)) 59 (44 + q) p) 72 0 x) 72 1 y) 59 (44 + q) = p := fun x y => by rw [gI_sI, if_neg (by omega), gI_sI, if_neg (by omega), gI_sI, if_pos ⟨rfl, rfl⟩]
          have c2 : ch Pop m (sI (sI (sI (sI m1 63 k (nI q)) 59 (44 + q) p) 72 0 (gI m 24 0 + 1)) 72 1 (gI m 24 1 + gI m 8 k)) := (((c1.tr (ch.sI rfl)).tr (ch.sI rfl)).tr (ch.sI rfl)).tr (ch.sI rfl)
          refine ⟨sI (sI (sI (sI m1 63 k (nI q)) 59 (44 + q) p) 72 0 (gI m 24 0 + 1)) 72 1 (gI m 24 1 + gI m 8 k), rfl, ?_, s, b, kn, n, t, lv, JA_op J c2 ?_ (fun i hi => ?_)⟩
          · rw [isSack_m Jm1, Option.bind_some, i64, b01_t h1]
            simp only [if_neg (show ¬ (1 : Int32) = 0 by decide), isBuyer_m Jm1, Option.bind_some, i64, b01_t h2, e34, e44, if_pos i34, if_pos i44, fr1, nI_clamp (show 34 + k < 2 ^ 31 by omega), nI_clamp (show 44 + q < 2 ^ 31 by omega), nI_clamp (show k < 2 ^ 31 by omega), h34, h44, if_pos hp, if_pos ik, w1, hP, w2, w3, w4]
          · have jw : wn 6 p := ⟨by show (0 : Int) ≤ _; omega, by show _ ≤ (999 : Int); omega⟩
            have J1 : Ju (sI (sI m 9 q p) 59 (44 + q) p) s b := Ju_set (w := 6) (k := q) (v := p) (Ju.of JT) (by unfold hn; omega) jw (fun o i hf => by
              rw [gI_sI, gI_sI]
              show _ = if (o = 59 ∧ i = 44 + q) ∨ (o = 9 ∧ i = q) then p else gI m o i
              by_cases u1 : o = 59 ∧ i = 44 + q
              · rw [if_pos u1, if_pos (Or.inl u1)]
              · rw [if_neg u1]
                by_cases u2 : o = 9 ∧ i = q
                · rw [if_pos u2, if_pos (Or.inr u2)]
                · rw [if_neg u2, if_neg (fun z => z.elim u1 u2)])
            refine Ju_sold J1 qb (k := k) (fun o i hf => ?_)
            have n72 : ¬ o = 72 := fun z => by rw [z] at hf; cases hf
            have n24 : ¬ o = 24 := fun z => by rw [z] at hf; cases hf
            rw [gI_sI, if_neg (by omega), gI_sI, if_neg (by omega), gI_sI, gI_sI, gI_sI, gI_sI]
            by_cases o59 : o = 59
            · subst o59
              rw [if_neg (show ¬ (59 = 63 ∧ i = k) by omega), g0 59 _ (by omega) (by omega) (by omega), if_neg (show ¬ ((59 = 63 ∨ 59 = 12) ∧ i = k) by omega), if_neg (show ¬ (59 = 9 ∧ i = q) by omega)]
            · rw [if_neg (show ¬ (o = 59 ∧ i = 44 + q) by omega), if_neg (show ¬ (o = 59 ∧ i = 44 + q) by omega)]
              by_cases o63 : o = 63
              · subst o63
                rw [g0 63 _ (by omega) (by omega) (by omega), if_neg (show ¬ (63 = 9 ∧ i = q) by omega)]
                by_cases ei : i = k
                · rw [if_pos ⟨rfl, ei⟩, if_pos ⟨Or.inl rfl, ei⟩]
                · rw [if_neg (fun z => ei z.2), if_neg (fun z => ei z.2)]
              · rw [if_neg (show ¬ (o = 63 ∧ i = k) by omega)]
                by_cases o9 : o = 9
                · subst o9
                  rw [g9, if_neg (show ¬ ((9 = 63 ∨ 9 = 12) ∧ i = k) by omega)]; simp
                · rw [if_neg (show ¬ (o = 9 ∧ i = q) by omega)]
                  by_cases o12 : o = 12
                  · subst o12
                    rw [g12]; simp
                  · rw [if_neg (show ¬ ((o = 63 ∨ o = 12) ∧ i = k) by omega), g0 _ _ o9 o12 n24]
          · rw [gI_sI, gI_sI, gI_sI, if_neg (show ¬ (72 = 59 ∧ i = 44 + q) by omega), gI_sI, if_neg (show ¬ (72 = 63 ∧ i = k) by omega), g0 72 _ (by omega) (by omega) (by omega), gI_sI, if_neg (show ¬ (24 = 72 ∧ i = 1) by omega), gI_sI, if_neg (show ¬ (24 = 72 ∧ i = 0) by omega), gI_sI, if_neg (show ¬ (24 = 59 ∧ i = 44 + q) by omega), gI_sI, if_neg (show ¬ (24 = 63 ∧ i = k) by omega), g24, hled i hi]
            simp
        · rw [if_neg hp]
          refine ⟨-5, m, m, rfl, ?_, _, _, _, _, _, _, J⟩
          simp only [isSack_m JT.1, Option.bind_some, i64, b01_t h1, if_neg (show ¬ (1 : Int32) = 0 by decide), isBuyer_m JT.1, b01_t h2, e34, e44, if_pos i34, if_pos i44, isFree_m JT hk ks, b01_t hf, nI_clamp (show 34 + k < 2 ^ 31 by omega), nI_clamp (show 44 + q < 2 ^ 31 by omega), jk.2.1.1, jb.1.1, if_neg hp]
      · rw [if_pos hf]
        refine ⟨-5, m, m, rfl, ?_, _, _, _, _, _, _, J⟩
        simp only [isSack_m JT.1, Option.bind_some, i64, b01_t h1, if_neg (show ¬ (1 : Int32) = 0 by decide), isBuyer_m JT.1, b01_t h2, e34, if_pos i34, isFree_m JT hk ks, b01_f hf, if_true]
    · refine ⟨-1, m, m, ?_, ?_, _, _, _, _, _, _, J⟩
      · rw [if_neg (fun z => z (by unfold hd; omega)), if_pos (by unfold hd; omega)]
      · simp only [isSack_m JT.1, Option.bind_some, i64, b01_t h1, if_neg (show ¬ (1 : Int32) = 0 by decide), isBuyer_m JT.1, b01_f h2, if_true]
  · refine ⟨-1, m, m, ?_, ?_, _, _, _, _, _, _, J⟩
    · rw [if_pos (by unfold hd; omega)]
    · simp only [isSack_m JT.1, Option.bind_some, i64, b01_f h1, if_true]
end DEEDS
