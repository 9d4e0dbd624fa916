/-! ===== beliefs: weights, what they come from; the class's side ===== -/
def sumL (f : Nat → Int64) : Nat → Int64
  | 0 => 0
  | n + 1 => sumL f n + f n
def hvS (w : Nat → Int64) : Nat → Nat
  | 0 => 0
  | n + 1 => if w n ≤ w (hvS w n) then hvS w n else n
def mxS (f : Nat → Int64) : Nat → Int64
  | 0 => 0
  | n + 1 => lMax (mxS f n) (f n)
def seS (T : Nat → Nat → Int32) (b g c : Nat) (d : Int32) : Int32 := if T (1 + c) g = d then 3 * T 8 b else 12 - T 8 b
def lrn (T : Nat → Nat → Int32) (b c : Nat) (d : Int32) (w : Nat → Int64) : Nat → Int64 := fun g => w g * (seS T b g c d).toInt64
abbrev vld (s : Nat) (a c d : Int32) : Prop := 0 ≤ a.toInt ∧ a.toInt < (s : Int) ∧ 0 ≤ c.toInt ∧ c.toInt < 3 ∧ 0 ≤ d.toInt ∧ d.toInt < 4
def lkS (B : Nat → Int32) (T : Nat → Nat → Int32) (s b k : Nat) : Nat → Nat → (Nat → Int64) → (Nat → Int64)
  | 0, _, w => w
  | n + 1, i, w => if vld s (B (3 * i)) (B (3 * i + 1)) (B (3 * i + 2)) then lkS B T s b k n (i + 1) (if (B (3 * i)).toInt = k then lrn T b (B (3 * i + 1)).toInt.toNat (B (3 * i + 2)) w else w) else w
def wghS (B : Nat → Int32) (T : Nat → Nat → Int32) (s b k : Nat) : Nat → Int64 := if T 10 k = 1 then (fun g => if (T 4 k).toInt = g then 1 else 0) else lkS B T s b k 6 0 (fun _ => 1)
def wallS (T : Nat → Nat → Int32) (s : Nat) (lv : Option LF) (w : Nat → Int64) (b : Nat) (asked : Int32) : Int64 := sumL (fun g => w g * (worthS T s lv b g asked).toInt64) 6
def foS (T : Nat → Nat → Int32) (b : Nat) (w : Nat → Int64) (c : Nat) : Int64 := sumL (fun a => mxS (fun g => w g * (seS T b g c (nI a)).toInt64) 6) 4
def flS (T : Nat → Nat → Int32) (b : Nat) (w : Nat → Int64) (c : Nat) : Int64 := if c = 3 then 36 * w (hvS w 6) else foS T b w c
def blS (T : Nat → Nat → Int32) (b : Nat) (w : Nat → Int64) : Nat → Nat
  | 0 => 3
  | n + 1 => if flS T b w n ≤ flS T b w (blS T b w n) then blS T b w n else n
def WtAt (a : Nat) (m : Mm) (w : Nat → Int64) : Prop := ∀ g, g < 6 → gL m a g = w g
theorem hvS_lt (w : Nat → Int64) : ∀ n, hvS w (n + 1) < n + 1
  | 0 => by unfold hvS; split <;> exact Nat.zero_lt_one
  | n + 1 => by
    have := hvS_lt w n
    unfold hvS
    split
    · omega
    · omega
theorem blS_le (T : Nat → Nat → Int32) (b : Nat) (w : Nat → Int64) : ∀ n, n ≤ 3 → blS T b w n ≤ 3
  | 0, _ => Nat.le_refl _
  | n + 1, h => by
    have := blS_le T b w n (by omega)
    unfold blS
    split <;> omega
theorem WtAt.ch {a : Nat} {m m' : Mm} {w : Nat → Int64} {P : Nat → Nat → Bool} (h : WtAt a m w) (c : ch P m m') (hp : ∀ g, P a g = false) : WtAt a m' w := fun g hg => by rw [c.L (hp g)]; exact h g hg
section BELX
variable {mm : Mm} {s b : Nat} {lv : Option LF} {w : Nat → Int64}
theorem seeming_x (J : Jt mm s b) {bn gn cn : Nat} {c d : Int32} (hb : bn < b) (hg : gn < 6) (hc : cn < 3) (ec : c.toInt = cn) : dX0_seeming (nI bn) (nI gn) c d mm = some (seS (TT mm) bn gn cn d, mm) := by
  have hb6 := J.1.b6
  have eb : (nI bn).toInt = bn := nI_toInt (by omega)
  have eg : (nI gn).toInt = gn := nI_toInt (by omega)
  have e1 : (1 + c).toInt = (1 + cn : Nat) := by rw [iAdd (by rw [ec]; simp; omega) (by rw [ec]; simp; omega), ec]; simp
  unfold dX0_seeming
  rw [told_x J.1 (wn := 8) (by simp) eb (Or.inr (Or.inr (by omega))), Option.bind_some, told_x J.1 (wn := 1 + cn) e1 eg (Or.inl (by omega)), Option.bind_some]
  unfold seS
  have e2 : TT mm (1 + cn) gn = gI mm (3 + (1 + cn)) gn := by unfold TT; rw [if_pos (by omega)]
  have e3 : TT mm 8 bn = gI mm (3 + 8) bn := rfl
  rw [e2, e3]
  split <;> rfl
theorem learn_l (J : Jt mm s b) {bn cn : Nat} {c d : Int32} (hb : bn < b) (hc : cn < 3) (ec : c.toInt = cn) (hw : WtAt 18 mm w) : ∀ N i : Nat, i ≤ 6 → 6 < i + N → ∀ m1 : Mm, ch (P1 18) mm m1 → (∀ g, g < 6 → gL m1 18 g = if g < i then lrn (TT mm) bn cn d w g else w g) → ∃ m2, DX0_learn_3 N (nI bn) c d (nI i) m1 = some ((), m2) ∧ ch (P1 18) mm m2 ∧ WtAt 18 m2 (lrn (TT mm) bn cn d w) := by
  intro N
  induction N with
  | zero => intro i h2 h4; omega
  | succ N ih =>
    intro i h2 h4 m1 h5 h6
    show ∃ m2, BX0_learn_3 (DX0_learn_3 N) (nI bn) c d (nI i) m1 = some ((), m2) ∧ _
    unfold BX0_learn_3
    have e : (nI i).toInt = i := nI_toInt (by omega)
    simp only [toI_le, Int32.reduceToInt, e]
    by_cases h : i = 6
    · subst h
      rw [if_pos (by omega)]
      exact ⟨m1, rfl, h5, fun g hg => by rw [h6 g hg, if_pos hg]⟩
    · have c5 := h5.up (P1_Sc (a := 18) (by omega))
      rw [if_neg (by omega), if_pos (inB_nI (by omega) (by omega)), seeming_x (J.ch c5) hb (by omega) hc ec, Option.bind_some, if_pos (inB_nI (by omega) (by omega)), TT_Sc c5, nI_1]
      simp only [nI_clamp (show i < 2 ^ 31 by omega)]
      refine ih (i + 1) (by omega) (by omega) _ (h5.tr (ch.sL rfl)) (fun g hg => ?_)
      rw [gL_sL]
      by_cases hgi : g = i
      · subst hgi
        rw [if_pos ⟨rfl, rfl⟩, if_pos (by omega), h6 g hg, if_neg (by omega)]
        rfl
      · rw [if_neg (fun q => hgi q.2), h6 g hg]
        by_cases hlt : g < i
        · rw [if_pos hlt, if_pos (by omega)]
        · rw [if_neg hlt, if_neg (by omega)]
theorem learn_x (J : Jt mm s b) {bn cn : Nat} {c d : Int32} (hb : bn < b) (hc : cn < 3) (ec : c.toInt = cn) (hw : WtAt 18 mm w) : ∃ m2, dX0_learn (nI bn) c d mm = some ((), m2) ∧ ch (P1 18) mm m2 ∧ WtAt 18 m2 (lrn (TT mm) bn cn d w) := by
  unfold dX0_learn
  exact learn_l J hb hc ec hw FU 0 (by omega) (by unfold FU; omega) mm ch.rf (fun g hg => by rw [if_neg (by omega)]; exact hw g hg)
theorem weigh_l (J : Jt mm s b) {bn kn dn n : Nat} (hb : bn < b) (hk : kn < s) (hd : dn < 6) (B : BR mm dn n) : ∀ N i : Nat, i ≤ 6 → 6 < i + N → ∀ (m1 : Mm) (w : Nat → Int64), ch (P1 18) mm m1 → WtAt 18 m1 w → ∃ m2, DX0_weigh_36 N (38 + dn) (nI bn) (nI kn) (nI i) m1 = some ((), m2) ∧ ch (P1 18) mm m2 ∧ WtAt 18 m2 (lkS (fun i => byV mm dn n i) (TT mm) s bn kn (6 - i) i w) := by
  have h3 := J.1.s10
  intro N
  induction N with
  | zero => intro i h2 h4; omega
  | succ N ih =>
    intro i h2 h4 m1 w h5 h6
    show ∃ m2, BX0_weigh_36 (DX0_weigh_36 N) (38 + dn) (nI bn) (nI kn) (nI i) m1 = some ((), m2) ∧ _
    unfold BX0_weigh_36
    have e : (nI i).toInt = i := nI_toInt (by omega)
    have ek : (nI kn).toInt = kn := nI_toInt (by omega)
    by_cases h : i = 6
    · subst h
      rw [if_pos (by rw [toI_le, e]; simp)]
      exact ⟨m1, rfl, h5, h6⟩
    · have c5 := h5.up (P1_Sc (a := 18) (by omega))
      have e3 : (3 * nI i).toInt = (3 * i : Nat) := by rw [iMul (by rw [e]; simp; omega) (by rw [e]; simp; omega), e]; simp
      have e31 : (3 * nI i + 1).toInt = (3 * i + 1 : Nat) := by rw [iAdd (by rw [e3]; simp; omega) (by rw [e3]; simp; omega), e3]; simp
      have e32 : (3 * nI i + 2).toInt = (3 * i + 2 : Nat) := by rw [iAdd (by rw [e3]; simp; omega) (by rw [e3]; simp; omega), e3]; simp
      have eby : ∀ z, byV m1 dn n z = byV mm dn n z := fun z => by unfold byV; rw [c5.L (Sc_el hd)]
      rw [if_neg (by rw [toI_le, e]; simp; omega), byteAt_x hd (B.ch hd c5), Option.bind_some, byteAt_x hd (B.ch hd c5), Option.bind_some, byteAt_x hd (B.ch hd c5), Option.bind_some, holds_x (J.1.ch c5), Option.bind_some, e3, e31, e32, eby, eby, eby]
      dsimp only
      rw [show 6 - i = (6 - (i + 1)) + 1 by omega]
      unfold lkS
      generalize byV mm dn n (3 * i : Nat) = a
      generalize byV mm dn n (3 * i + 1 : Nat) = cc
      generalize byV mm dn n (3 * i + 2 : Nat) = dd
      by_cases hv : vld s a cc dd
      · rw [if_pos hv]
        obtain ⟨v1, v2, v3, v4, v5, v6⟩ := hv
        rw [b01_t (Or.inr (Or.inl (by simp; omega))), if_neg (show ¬ (1 : Int32) = 0 by decide)]
        simp only [toI_lt, toI_le, Int32.reduceToInt]
        rw [if_neg (by omega), if_neg (by omega), if_neg (by omega), if_pos (by omega)]
        have ea : (a = nI kn) = (a.toInt = kn) := propext (by rw [toI_eq, ek])
        simp only [ea]
        unfold DX0_weigh_130
        rw [nI_1]
        by_cases hak : a.toInt = kn
        · rw [if_pos hak, if_pos hak]
          obtain ⟨m3, e4, c4, w4⟩ := learn_x (J.ch c5) (c := cc) (d := dd) (cn := cc.toInt.toNat) hb (by omega) (by omega) h6
          rw [e4, Option.bind_some]
          rw [TT_Sc c5] at w4
          exact ih (i + 1) (by omega) (by omega) m3 _ (h5.tr c4) w4
        · rw [if_neg hak, if_neg hak]
          exact ih (i + 1) (by omega) (by omega) m1 w h5 h6
      · rw [if_neg hv]
        refine ⟨m1, ?_, h5, h6⟩
        simp only [b01_0, toI_lt, toI_le, Int32.reduceToInt]
        repeat' split
        all_goals first | rfl | (exfalso; omega)
theorem know_l {c : Int32} : ∀ N i : Nat, i ≤ 6 → 6 < i + N → ∀ m1 : Mm, ch (P1 18) mm m1 → (∀ g, g < i → gL m1 18 g = if nI g = c then 1 else 0) → ∃ m2, DX0_know_2 N c (nI i) m1 = some ((), m2) ∧ ch (P1 18) mm m2 ∧ ∀ g, g < 6 → gL m2 18 g = if nI g = c then 1 else 0 := by
  intro N
  induction N with
  | zero => intro i h2 h4; omega
  | succ N ih =>
    intro i h2 h4 m1 h5 h6
    show ∃ m2, BX0_know_2 (DX0_know_2 N) c (nI i) m1 = some ((), m2) ∧ _
    unfold BX0_know_2 DX0_know_23
    have e : (nI i).toInt = i := nI_toInt (by omega)
    by_cases h : i = 6
    · subst h
      rw [if_pos (by rw [toI_le, e]; simp)]
      exact ⟨m1, rfl, h5, h6⟩
    · have step : ∀ v : Int64, (v = if nI i = c then 1 else 0) → ∃ m2, DX0_know_2 N c (nI (i + 1)) (sL m1 18 i v) = some ((), m2) ∧ ch (P1 18) mm m2 ∧ ∀ g, g < 6 → gL m2 18 g = if nI g = c then 1 else 0 := fun v hv =>
        ih (i + 1) (by omega) (by omega) _ (h5.tr (ch.sL rfl)) (fun g hg => by
          rw [gL_sL]
          by_cases hgi : g = i
          · subst hgi; rw [if_pos ⟨rfl, rfl⟩]; exact hv
          · rw [if_neg (fun q => hgi q.2)]; exact h6 g (by omega))
      rw [if_neg (by rw [toI_le, e]; simp; omega)]
      simp only [if_pos (show inB (nI i) 6 from inB_nI (by omega) (by omega)), nI_clamp (show i < 2 ^ 31 by omega), nI_1]
      by_cases hc : nI i = c
      · rw [if_pos hc]; exact step 1 (by rw [if_pos hc])
      · rw [if_neg hc]; exact step 0 (by rw [if_neg hc])
theorem know_x {c : Int32} : ∃ m2, dX0_know c mm = some ((), m2) ∧ ch (P1 18) mm m2 ∧ ∀ g, g < 6 → gL m2 18 g = if nI g = c then 1 else 0 :=
  know_l FU 0 (by omega) (by unfold FU; omega) mm ch.rf (fun g hg => absurd hg (by omega))
theorem weigh_x (J : Jt mm s b) {bn kn dn n : Nat} (hb : bn < b) (hk : kn < s) (hd : dn < 6) (B : BR mm dn n) : ∃ m2, dX0_weigh (38 + dn) (nI bn) (nI kn) mm = some ((), m2) ∧ ch (P1 18) mm m2 ∧ WtAt 18 m2 (wghS (fun i => byV mm dn n i) (TT mm) s bn kn) := by
  have h3 := J.1.s10
  have ek : (nI kn).toInt = kn := nI_toInt (by omega)
  unfold dX0_weigh
  rw [if_pos (pSh (shO hd)), isOpen_x J.1 ek hk, Option.bind_some]
  have eo : TT mm 10 kn = gI mm 13 kn := rfl
  unfold wghS
  rw [eo]
  by_cases ho : gI mm 13 kn = 1
  · rw [b01_t ho, if_neg (show ¬ (1 : Int32) = 0 by decide), if_pos ho]
    have hin := (J.2.2.1 kn hk).1
    rw [told_x J.1 (wn := 4) (by simp) ek (Or.inr (Or.inl (by omega))), Option.bind_some]
    dsimp only [Nat.reduceAdd]
    obtain ⟨m2, x1, x2, x3⟩ := know_x (mm := mm) (c := gI mm 7 kn)
    rw [x1, Option.bind_some]
    refine ⟨m2, rfl, x2, fun g hg => ?_⟩
    have e5 : TT mm 4 kn = gI mm 7 kn := rfl
    rw [x3 g hg, e5]
    dsimp only
    by_cases hg2 : (gI mm 7 kn).toInt = g
    · rw [if_pos hg2, if_pos (nI_of_toInt hg2).symm]
    · rw [if_neg hg2, if_neg (show ¬ nI g = gI mm 7 kn from fun z => hg2 (by rw [← z]; exact nI_toInt (by omega)))]
  · rw [b01_f ho, if_pos rfl, if_neg ho]
    exact weigh_l J hb hk hd B FU 0 (by omega) (by unfold FU; omega) _ _ (ch.flL (fun _ _ => rfl)) (fun g hg => by rw [gL_flL, if_pos rfl, if_pos hg])
theorem total_l (hw : WtAt 18 mm w) : ∀ N i : Nat, i ≤ 6 → 6 < i + N → DX0_total_4 N (sumL w i) (nI i) mm = some (sumL w 6, mm) := by
  intro N
  induction N with
  | zero => intro i h2 h4; omega
  | succ N ih =>
    intro i h2 h4
    show BX0_total_4 (DX0_total_4 N) _ _ mm = _
    unfold BX0_total_4
    have e : (nI i).toInt = i := nI_toInt (by omega)
    by_cases h : i = 6
    · subst h; rw [if_pos (by rw [toI_le, e]; simp)]
    · rw [if_neg (by rw [toI_le, e]; simp; omega), if_pos (inB_nI (by omega) (by omega)), nI_clamp (by omega), nI_1, hw i (by omega)]
      exact ih (i + 1) (by omega) (by omega)
theorem total_x (hw : WtAt 18 mm w) : dX0_total mm = some (sumL w 6, mm) := total_l hw FU 0 (by omega) (by unfold FU; omega)
theorem mostLikely_l (hw : WtAt 18 mm w) : ∀ N i : Nat, 1 ≤ i → i ≤ 6 → 6 < i + N → DX0_mostLikely_4 N (nI (hvS w i)) (nI i) mm = some (nI (hvS w 6), mm) := by
  intro N
  induction N with
  | zero => intro i h1 h2 h4; omega
  | succ N ih =>
    intro i h1 h2 h4
    show BX0_mostLikely_4 (DX0_mostLikely_4 N) _ _ mm = _
    unfold BX0_mostLikely_4 DX0_mostLikely_31
    have e : (nI i).toInt = i := nI_toInt (by omega)
    by_cases h : i = 6
    · subst h; rw [if_pos (by rw [toI_le, e]; simp)]
    · have hlt : hvS w i < i := by have := hvS_lt w (i - 1); rwa [show i - 1 + 1 = i by omega] at this
      rw [if_neg (by rw [toI_le, e]; simp; omega), if_pos (inB_nI (by omega) (by omega)), if_pos (inB_nI (by omega) (by omega)), nI_1]
      simp only [nI_clamp (show i < 2 ^ 31 by omega), nI_clamp (show hvS w i < 2 ^ 31 by omega), hw i (by omega), hw (hvS w i) (by omega)]
      have := ih (i + 1) (by omega) (by omega) (by omega)
      unfold hvS at this
      by_cases h5 : w i ≤ w (hvS w i)
      · rw [if_pos h5]; rw [if_pos h5] at this; exact this
      · rw [if_neg h5]; rw [if_neg h5] at this; exact this
theorem mostLikely_x (hw : WtAt 18 mm w) : dX0_mostLikely mm = some (nI (hvS w 6), mm) := by
  have e : hvS w 1 = 0 := by unfold hvS; split <;> rfl
  have := mostLikely_l hw FU 1 (by omega) (by omega) (by unfold FU; omega)
  rw [e] at this
  exact this
theorem worthSum_l (J : Jt mm s b) (L : LvC mm lv) {bn : Nat} (hb : bn < b) (hw : WtAt 18 mm w) {asked : Int32} : ∀ N i : Nat, i ≤ 6 → 6 < i + N → ∀ m1 : Mm, ch PW mm m1 → ∃ m2, DX0_worthSum_16 N (nI bn) (sumL (fun g => w g * (worthS (TT mm) s lv bn g asked).toInt64) i) asked (nI i) m1 = some (wallS (TT mm) s lv w bn asked, m2) ∧ ch PW mm m2 := by
  intro N
  induction N with
  | zero => intro i h2 h4; omega
  | succ N ih =>
    intro i h2 h4 m1 h5
    show ∃ m2, BX0_worthSum_16 (DX0_worthSum_16 N) _ _ _ _ m1 = _ ∧ _
    unfold BX0_worthSum_16
    have e : (nI i).toInt = i := nI_toInt (by omega)
    by_cases h : i = 6
    · subst h; rw [if_pos (by rw [toI_le, e]; simp)]; exact ⟨m1, rfl, h5⟩
    · have c5 := h5.up PW_Sc
      obtain ⟨m2, e2, c2⟩ := worthTo_x (J.ch c5) (L.ch c5) hb (show i < 6 by omega) (asked := asked) rfl rfl
      rw [if_neg (by rw [toI_le, e]; simp; omega), if_pos (inB_nI (by omega) (by omega)), nI_clamp (by omega), nI_1, e2, Option.bind_some, TT_Sc c5, (hw.ch h5 (fun g => rfl)) i (by omega)]
      exact ih (i + 1) (by omega) (by omega) m2 (h5.tr c2)
theorem worthSum_x (J : Jt mm s b) (L : LvC mm lv) {bn kn : Nat} (hb : bn < b) (hk : kn < s) (hw : WtAt 18 mm w) : ∃ m2, dX0_worthSum (nI bn) (nI kn) mm = some (wallS (TT mm) s lv w bn (TT mm 5 kn), m2) ∧ ch PW mm m2 := by
  have h3 := J.1.s10
  unfold dX0_worthSum
  rw [told_x J.1 (wn := 5) (by simp) (nI_toInt (show kn < 2 ^ 31 by omega)) (Or.inr (Or.inl (by omega))), Option.bind_some]
  exact worthSum_l J L hb hw FU 0 (by omega) (by unfold FU; omega) mm ch.rf
theorem followed_l2 (J : Jt mm s b) {bn cn an : Nat} (hb : bn < b) (hc : cn < 3) (ha : an < 4) (hw : WtAt 18 mm w) {k24 : Int32 → Int32 → Int64 → Int32 → Mm → Option (Int64 × Mm)} {acc : Int64} : ∀ N i : Nat, i ≤ 6 → 6 < i + N → DX0_followed_36 k24 N (nI bn) (nI cn) acc (nI an) (mxS (fun g => w g * (seS (TT mm) bn g cn (nI an)).toInt64) i) (nI i) mm = k24 (nI bn) (nI cn) (acc + mxS (fun g => w g * (seS (TT mm) bn g cn (nI an)).toInt64) 6) (nI (an + 1)) mm := by
  intro N
  induction N with
  | zero => intro i h2 h4; omega
  | succ N ih =>
    intro i h2 h4
    show BX0_followed_36 k24 (DX0_followed_36 k24 N) _ _ _ _ _ _ mm = _
    unfold BX0_followed_36
    have e : (nI i).toInt = i := nI_toInt (by omega)
    by_cases h : i = 6
    · subst h; rw [if_pos (by rw [toI_le, e]; simp), nI_1]
    · rw [if_neg (by rw [toI_le, e]; simp; omega), if_pos (inB_nI (by omega) (by omega)), seeming_x J hb (by omega) hc (nI_toInt (by omega)), Option.bind_some, nI_clamp (by omega), nI_1, hw i (by omega)]
      exact ih (i + 1) (by omega) (by omega)
theorem followed_l (J : Jt mm s b) {bn cn : Nat} (hb : bn < b) (hc : cn < 3) (hw : WtAt 18 mm w) : ∀ N i : Nat, i ≤ 4 → 4 < i + N → DX0_followed_24 N (nI bn) (nI cn) (sumL (fun a => mxS (fun g => w g * (seS (TT mm) bn g cn (nI a)).toInt64) 6) i) (nI i) mm = some (foS (TT mm) bn w cn, mm) := by
  intro N
  induction N with
  | zero => intro i h2 h4; omega
  | succ N ih =>
    intro i h2 h4
    show BX0_followed_24 (DX0_followed_24 N) _ _ _ _ mm = _
    unfold BX0_followed_24
    have e : (nI i).toInt = i := nI_toInt (by omega)
    by_cases h : i = 4
    · subst h; rw [if_pos (by rw [toI_le, e]; simp)]; rfl
    · rw [if_neg (by rw [toI_le, e]; simp; omega)]
      exact (followed_l2 J hb hc (by omega) hw FU 0 (by omega) (by unfold FU; omega)).trans (ih (i + 1) (by omega) (by omega))
theorem followed_x (J : Jt mm s b) {bn cn : Nat} (hb : bn < b) (hc : cn ≤ 3) (hw : WtAt 18 mm w) : dX0_followed (nI bn) (nI cn) mm = some (flS (TT mm) bn w cn, mm) := by
  unfold dX0_followed flS
  have e : (nI cn = 3) = (cn = 3) := propext (by rw [show (3 : Int32) = nI 3 from rfl, nI_eq (by omega) (by omega)])
  simp only [e]
  by_cases h : cn = 3
  · have hl : hvS w 6 < 6 := hvS_lt w 5
    rw [if_pos h, if_pos h, mostLikely_x hw, Option.bind_some, if_pos (inB_nI (by omega) (by omega)), nI_clamp (by omega), hw _ (by omega)]
  · rw [if_neg h, if_neg h]
    exact followed_l J hb (by omega) hw FU 0 (by omega) (by unfold FU; omega)
theorem bestLook_l (J : Jt mm s b) {bn : Nat} (hb : bn < b) (hw : WtAt 18 mm w) : ∀ N i : Nat, i ≤ 3 → 3 < i + N → DX0_bestLook_4 N (nI bn) (nI (blS (TT mm) bn w i)) (nI i) mm = some (nI (blS (TT mm) bn w 3), mm) := by
  intro N
  induction N with
  | zero => intro i h2 h4; omega
  | succ N ih =>
    intro i h2 h4
    show BX0_bestLook_4 (DX0_bestLook_4 N) _ _ _ mm = _
    unfold BX0_bestLook_4 DX0_bestLook_30
    have e : (nI i).toInt = i := nI_toInt (by omega)
    by_cases h : i = 3
    · subst h; rw [if_pos (by rw [toI_le, e]; simp)]
    · rw [if_neg (by rw [toI_le, e]; simp; omega), followed_x J hb (by omega) hw, Option.bind_some, followed_x J hb (blS_le _ _ _ i (by omega)) hw, Option.bind_some, nI_1]
      have := ih (i + 1) (by omega) (by omega)
      unfold blS at this
      dsimp only
      by_cases h5 : flS (TT mm) bn w i ≤ flS (TT mm) bn w (blS (TT mm) bn w i)
      · rw [if_pos h5]; rw [if_pos h5] at this; exact this
      · rw [if_neg h5]; rw [if_neg h5] at this; exact this
theorem bestLook_x (J : Jt mm s b) {bn : Nat} (hb : bn < b) (hw : WtAt 18 mm w) : dX0_bestLook (nI bn) mm = some (nI (blS (TT mm) bn w 3), mm) := bestLook_l J hb hw FU 0 (by omega) (by unfold FU; omega)
end BELX
