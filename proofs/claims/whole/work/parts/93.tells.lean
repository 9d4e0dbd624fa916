/-! ===== tells: alike on both sides ===== -/
section TELLS
variable {m : Mm} {s b kn n : Nat} {t : Nat → Nat} {lv : Option LF} {v1 v2 v3 v4 : Int32}
theorem bit_l {x c : Nat} (hx : x < 8) (hc : c < 3) : ((iShr (nI x) (nI c)) &&& 1 = 1) = ((x / 2 ^ c) % 2 = 1) := by
  have h1 : x = 0 ∨ x = 1 ∨ x = 2 ∨ x = 3 ∨ x = 4 ∨ x = 5 ∨ x = 6 ∨ x = 7 := by omega
  have h2 : c = 0 ∨ c = 1 ∨ c = 2 := by omega
  rcases h1 with rfl | rfl | rfl | rfl | rfl | rfl | rfl | rfl <;> rcases h2 with rfl | rfl | rfl <;> exact propext (by decide)
/-- alike by the senses of these bits, from c on -/
def smF (T : Nat → Nat → Int32) (x g h : Nat) : Nat → Nat → Bool
  | 0, _ => true
  | f + 1, c => (if (x / 2 ^ c) % 2 = 1 then decide (T (1 + c) g = T (1 + c) h) else true) && smF T x g h f (c + 1)
def anF (T : Nat → Nat → Int32) (x g : Nat) : Nat → Nat → Bool
  | 0, _ => false
  | f + 1, h => (decide (¬ h = g) && smF T x g h 3 0) || anF T x g f (h + 1)
def alF (T : Nat → Nat → Int32) (x : Nat) : Nat → Nat → Nat
  | 0, _ => 0
  | f + 1, g => (if anF T x g 6 0 then 1 else 0) + alF T x f (g + 1)
theorem alF_le (T : Nat → Nat → Int32) (x : Nat) : ∀ f g, alF T x f g ≤ f
  | 0, _ => Nat.le_refl _
  | f + 1, g => by
    have := alF_le T x f (g + 1)
    show (if anF T x g 6 0 then 1 else 0) + alF T x f (g + 1) ≤ f + 1
    split <;> omega
def pop3 (x : Nat) : Nat := x % 2 + (x / 2) % 2 + (x / 4) % 2
def tbF (T : Nat → Nat → Int32) : Nat → Nat → Int32 → Int32
  | 0, _, best => best
  | f + 1, i, best => tbF T f (i + 1) (if alF T i 6 0 = 0 ∧ (best.toInt < 0 ∨ pop3 i < pop3 best.toInt.toNat) then nI i else best)
theorem same_l (J : Jt m s b) {x g h : Nat} (hx : x < 8) (hg : g < 6) (hh : h < 6) : ∀ (N f c : Nat), c + f = 3 → f < N → DX7_sameBy_3 N (nI x) (nI g) (nI h) (nI c) m = some (if smF (TT m) x g h f c then 1 else 0, m) := by
  have eg : (nI g).toInt = g := nI_toInt (by omega)
  have eh : (nI h).toInt = h := nI_toInt (by omega)
  intro N
  induction N with
  | zero => intro f c h1 h2; omega
  | succ N ih =>
    intro f c h1 h2
    show BX7_sameBy_3 (DX7_sameBy_3 N) _ _ _ _ m = _
    unfold BX7_sameBy_3 DX7_sameBy_42
    cases f with
    | zero =>
      have e : c = 3 := by omega
      subst e
      rw [if_pos (show (3 : Int32) ≤ nI 3 by decide)]; rfl
    | succ f =>
      have hc : c < 3 := by omega
      have ec : (1 + nI c).toInt = (1 + c : Nat) := by rw [show (1 : Int32) = nI 1 from rfl, nI_add, nI_toInt (by omega)]
      rw [if_neg (show ¬ (3 : Int32) ≤ nI c from nI_ge (b := 3) hc (by omega))]
      simp only [bit_l hx hc, nI_1]
      unfold smF
      by_cases hb : (x / 2 ^ c) % 2 = 1
      · rw [if_pos hb, if_pos hb, told_x J.1 (wn := 1 + c) ec eg (by unfold hd; omega), Option.bind_some]
        simp only []
        rw [told_x J.1 (wn := 1 + c) ec eh (by unfold hd; omega), Option.bind_some]
        have t1 : gI m (3 + (1 + c)) g = TT m (1 + c) g := by unfold TT; rw [if_pos (by omega)]
        have t2 : gI m (3 + (1 + c)) h = TT m (1 + c) h := by unfold TT; rw [if_pos (by omega)]
        simp only [t1, t2]
        by_cases e : TT m (1 + c) g = TT m (1 + c) h
        · rw [if_pos e, ih f (c + 1) (by omega) (by omega)]
          simp [e]
        · rw [if_neg e]
          simp [e]
      · rw [if_neg hb, if_neg hb, ih f (c + 1) (by omega) (by omega)]
        simp
theorem alike_1 (J : Jt m s b) {x g : Nat} (hx : x < 8) (hg : g < 6) {k4 : Int32 → Int32 → Int32 → Mm → Option (Int32 × Mm)} {cnt : Int32} : ∀ (N f h : Nat) (tw : Bool), h + f = 6 → f < N → DX7_alike_16 k4 N (nI x) cnt (nI g) (if tw then 1 else 0) (nI h) m = k4 (nI x) (cnt + (if (tw || anF (TT m) x g f h) then 1 else 0)) (nI (g + 1)) m := by
  intro N
  induction N with
  | zero => intro f h tw h1 h2; omega
  | succ N ih =>
    intro f h tw h1 h2
    show BX7_alike_16 k4 (DX7_alike_16 k4 N) _ _ _ _ _ m = _
    unfold BX7_alike_16 DX7_alike_46 DX7_alike_47 DX7_alike_67
    cases f with
    | zero =>
      have e : h = 6 := by omega
      subst e
      rw [if_pos (show (6 : Int32) ≤ nI 6 by decide), nI_1]
      unfold anF
      cases tw
      · rfl
      · rfl
    | succ f =>
      have hh : h < 6 := by omega
      rw [if_neg (show ¬ (6 : Int32) ≤ nI h from nI_ge (b := 6) hh (by omega)), nI_1]
      have key : ∀ q : Bool, DX7_alike_16 k4 N (nI x) cnt (nI g) ((if tw then 1 else 0) ||| (if q then 1 else 0)) (nI (h + 1)) m = k4 (nI x) (cnt + (if (tw || (q || anF (TT m) x g f (h + 1))) then 1 else 0)) (nI (g + 1)) m := by
        intro q
        have e : ((if tw then (1 : Int32) else 0) ||| (if q then 1 else 0)) = if (tw || q) then 1 else 0 := by
          cases tw <;> cases q <;> rfl
        rw [e, ih f (h + 1) (tw || q) (by omega) (by omega), Bool.or_assoc]
      unfold anF
      by_cases e : h = g
      · rw [if_pos (by rw [e])]
        have d : (decide (¬ h = g) && smF (TT m) x g h 3 0) = false := by simp [e]
        rw [d]
        exact key false
      · rw [if_neg (fun z => e ((nI_eq (by omega) (by omega)).mp z))]
        unfold dX7_sameBy
        have sl := same_l J (x := x) (g := g) (h := h) hx hg hh FU 3 0 (by omega) (by unfold FU; omega)
        rw [nI_0] at sl
        rw [sl, Option.bind_some]
        have d : (decide (¬ h = g) && smF (TT m) x g h 3 0) = smF (TT m) x g h 3 0 := by simp [e]
        rw [d]
        have ky := key (smF (TT m) x g h 3 0)
        cases hq : smF (TT m) x g h 3 0
        · rw [hq] at ky
          simp only [Bool.false_eq_true, if_false]
          rw [if_pos trivial]
          simpa using ky
        · rw [hq] at ky
          simp only [if_true]
          rw [if_neg (show ¬ (1 : Int32) = 0 by decide)]
          simpa using ky
theorem alike_2 (J : Jt m s b) {x : Nat} (hx : x < 8) : ∀ (N f g c : Nat), g + f = 6 → f < N → DX7_alike_4 N (nI x) (nI c) (nI g) m = some (nI (c + alF (TT m) x f g), m) := by
  intro N
  induction N with
  | zero => intro f g c h1 h2; omega
  | succ N ih =>
    intro f g c h1 h2
    show BX7_alike_4 (DX7_alike_4 N) _ _ _ m = _
    unfold BX7_alike_4
    cases f with
    | zero =>
      have e : g = 6 := by omega
      subst e
      rw [if_pos (show (6 : Int32) ≤ nI 6 by decide)]; rfl
    | succ f =>
      rw [if_neg (show ¬ (6 : Int32) ≤ nI g from nI_ge (b := 6) (by omega) (by omega))]
      have := alike_1 J (x := x) (g := g) hx (by omega) (k4 := DX7_alike_4 N) (cnt := nI c) FU 6 0 false (by omega) (by unfold FU; omega)
      rw [nI_0] at this
      simp only [Bool.false_eq_true, if_false, Bool.false_or] at this
      rw [this]
      unfold alF
      cases anF (TT m) x g 6 0
      · simp only [Bool.false_eq_true, if_false, Int32.add_zero, Nat.zero_add]
        exact ih f (g + 1) c (by omega) (by omega)
      · simp only [if_true, nI_1]
        rw [ih f (g + 1) (c + 1) (by omega) (by omega), Nat.add_assoc]
theorem alike_x (J : Jt m s b) {x : Nat} (hx : x < 8) : dX7_alike (nI x) m = some (nI (alF (TT m) x 6 0), m) := by
  have := alike_2 J hx FU 6 0 0 (by omega) (by unfold FU; omega)
  rw [nI_0, Nat.zero_add] at this
  exact this
theorem pop_x {x : Nat} (hx : x < 8) {M : Mm} : dJ6_bitCount_0f7a4 (nI x) M = some (nI (pop3 x), M) := by
  have h1 : x = 0 ∨ x = 1 ∨ x = 2 ∨ x = 3 ∨ x = 4 ∨ x = 5 ∨ x = 6 ∨ x = 7 := by omega
  rcases h1 with rfl | rfl | rfl | rfl | rfl | rfl | rfl | rfl <;> rfl
theorem pop_m {x : Nat} (hx : x < 8) {M : Mm} : dX10_bitsOf (nI x) M = some (nI (pop3 x), M) := by
  have h1 : x = 0 ∨ x = 1 ∨ x = 2 ∨ x = 3 ∨ x = 4 ∨ x = 5 ∨ x = 6 ∨ x = 7 := by omega
  rcases h1 with rfl | rfl | rfl | rfl | rfl | rfl | rfl | rfl <;> rfl
theorem pop3_lt {x : Nat} : pop3 x < 4 := by unfold pop3; omega
theorem tb_l (J : Jt m s b) : ∀ (N f i : Nat) (best : Int32), i + f = 8 → f < N → (best = -2 ∨ ∃ j, j < 8 ∧ best = nI j) → DX7_tellingBits_5 N best (nI i) m = some (tbF (TT m) f i best, m) := by
  intro N
  induction N with
  | zero => intro f i best h1 h2; omega
  | succ N ih =>
    intro f i best h1 h2 hb
    show BX7_tellingBits_5 (DX7_tellingBits_5 N) _ _ m = _
    unfold BX7_tellingBits_5 DX7_tellingBits_34 DX7_tellingBits_36
    cases f with
    | zero =>
      have e : i = 8 := by omega
      subst e
      rw [if_pos (show (8 : Int32) ≤ nI 8 by decide)]; rfl
    | succ f =>
      have hi : i < 8 := by omega
      have al := alF_le (TT m) i 6 0
      rw [if_neg (show ¬ (8 : Int32) ≤ nI i from nI_ge (b := 8) hi (by omega)), alike_x J hi, Option.bind_some]
      have e0 : (nI (alF (TT m) i 6 0) = 0) = (alF (TT m) i 6 0 = 0) := propext (by rw [show (0 : Int32) = nI 0 from rfl, nI_eq (by omega) (by omega)])
      simp only [e0, nI_1]
      unfold tbF
      have z0 : (0 : Int32).toInt = 0 := rfl
      by_cases ha : alF (TT m) i 6 0 = 0
      · rw [if_pos ha]
        rcases hb with hb | ⟨j, hj, hb⟩
        · subst hb
          rw [if_pos (show (-2 : Int32) < 0 by decide), if_pos ⟨ha, Or.inl (by decide)⟩]
          exact ih f (i + 1) (nI i) (by omega) (by omega) (Or.inr ⟨i, hi, rfl⟩)
        · subst hb
          have ej : (nI j).toInt = j := nI_toInt (by omega)
          have p1 := pop3_lt (x := i)
          have p2 := pop3_lt (x := j)
          rw [if_neg (nI_pos (by omega)), pop_x hi, Option.bind_some]
          simp only []
          rw [pop_x hj, Option.bind_some, ej, Int.toNat_natCast]
          by_cases hp : pop3 i < pop3 j
          · rw [if_neg (nI_ge hp (by omega)), if_pos ⟨ha, Or.inr hp⟩]
            exact ih f (i + 1) (nI i) (by omega) (by omega) (Or.inr ⟨i, hi, rfl⟩)
          · rw [if_pos (nI_le (by omega) (by omega)), if_neg (fun q => q.2.elim (by omega) hp)]
            exact ih f (i + 1) (nI j) (by omega) (by omega) (Or.inr ⟨j, hj, rfl⟩)
      · rw [if_neg ha, if_neg (fun q => ha q.1)]
        exact ih f (i + 1) best (by omega) (by omega) hb
def telQ (mm : Mm) (v1 : Int32) : Int32 := if okP v1 then (if v1 = 0 then nI (alF (TT mm) 7 6 0) else tbF (TT mm) 8 0 (-2)) else -1
theorem tells_x (J : Jt m s b) : dX9_tells v1 m = some (telQ m v1, m) := by
  unfold dX9_tells telQ dX7_tellingBits
  simp only [isPart_x, Option.bind_some, b01_0]
  by_cases h : okP v1
  · rw [if_neg (fun q => q h), if_pos h]
    have a7 : dX7_alike 7 m = some (nI (alF (TT m) 7 6 0), m) := alike_x J (x := 7) (by omega)
    have tb := tb_l J FU 8 0 (-2) (by omega) (by unfold FU; omega) (Or.inl rfl)
    rw [nI_0] at tb
    rw [a7, tb, Option.bind_some, Option.bind_some]
    split <;> rfl
  · rw [if_pos h, if_neg h]
theorem isIn_l {x c : Nat} (hx : x < 8) (hc : c < 3) : dX10_isIn (nI x) (nI c) m = some (if (x / 2 ^ c) % 2 = 1 then 1 else 0, m) := by
  unfold dX10_isIn
  simp only [bit_l hx hc]
  split <;> rfl
theorem m6 {c : Nat} (h : c < 3) : (6 + 6 * nI c : Int32) = nI (6 + 6 * c) := by
  have : c = 0 ∨ c = 1 ∨ c = 2 := by omega
  rcases this with rfl | rfl | rfl <;> decide
theorem areAlike_l (J : Jt m s b) {x g h : Nat} (hx : x < 8) (hg : g < 6) (hh : h < 6) : ∀ (N f c : Nat) (is : Bool), c + f = 3 → f < N → DX10_areAlike_6 N (nI g) (nI h) (nI x) (if is then 1 else 0) (nI c) m = some (if (is && smF (TT m) x g h f c) then 1 else 0, m) := by
  intro N
  induction N with
  | zero => intro f c is h1 h2; omega
  | succ N ih =>
    intro f c is h1 h2
    show BX10_areAlike_6 (DX10_areAlike_6 N) _ _ _ _ _ m = _
    unfold BX10_areAlike_6 DX10_areAlike_63 DX10_areAlike_59 DX10_areAlike_64
    cases f with
    | zero =>
      have e : c = 3 := by omega
      subst e
      rw [if_pos (show (3 : Int32) ≤ nI 3 by decide)]
      unfold smF
      cases is <;> rfl
    | succ f =>
      have hc : c < 3 := by omega
      rw [if_neg (show ¬ (3 : Int32) ≤ nI c from nI_ge (b := 3) hc (by omega)), nI_1]
      have i0 := ih f (c + 1) false (by omega) (by omega)
      have i1 := ih f (c + 1) true (by omega) (by omega)
      simp only [Bool.false_eq_true, if_false, if_true, Bool.false_and, Bool.true_and] at i0 i1
      unfold smF
      cases is
      · simp only [Bool.false_eq_true, if_false, Bool.false_and]
        rw [if_pos trivial]
        exact i0
      · simp only [if_true, Bool.true_and]
        rw [if_neg (show ¬ (1 : Int32) = 0 by decide), isIn_l hx hc, Option.bind_some]
        by_cases hb : (x / 2 ^ c) % 2 = 1
        · have g1 : gI m 59 (6 + 6 * c + g) = TT m (1 + c) g := by
            have := (J.2.1 (1 + c) g (by omega) hg).1
            rw [show 6 * (1 + c) + g = 6 + 6 * c + g by omega] at this
            rw [this]; unfold TT; rw [if_pos (by omega)]
          have g2 : gI m 59 (6 + 6 * c + h) = TT m (1 + c) h := by
            have := (J.2.1 (1 + c) h (by omega) hh).1
            rw [show 6 * (1 + c) + h = 6 + 6 * c + h by omega] at this
            rw [this]; unfold TT; rw [if_pos (by omega)]
          simp only [if_pos hb]
          rw [if_neg (show ¬ (1 : Int32) = 0 by decide), m6 hc, nI_add, nI_add, if_pos (inB_nI (by omega) (by omega)), if_pos (inB_nI (by omega) (by omega)), nI_clamp (by omega), nI_clamp (by omega), g1, g2]
          by_cases e : TT m (1 + c) g = TT m (1 + c) h
          · rw [if_pos e, i1]; simp [e]
          · rw [if_neg e, i0]; simp [e]
        · simp only [if_neg hb]
          rw [if_pos trivial, i1]; simp
theorem alikeBy_1 (J : Jt m s b) {x g : Nat} (hx : x < 8) (hg : g < 6) {k4 : Int32 → Int32 → Int32 → Mm → Option (Int32 × Mm)} {cnt : Int32} : ∀ (N f h : Nat) (tw : Bool), h + f = 6 → f < N → DX10_alikeBy_16 k4 N (nI x) cnt (nI g) (if tw then 1 else 0) (nI h) m = k4 (nI x) (cnt + (if (tw || anF (TT m) x g f h) then 1 else 0)) (nI (g + 1)) m := by
  intro N
  induction N with
  | zero => intro f h tw h1 h2; omega
  | succ N ih =>
    intro f h tw h1 h2
    show BX10_alikeBy_16 k4 (DX10_alikeBy_16 k4 N) _ _ _ _ _ m = _
    unfold BX10_alikeBy_16 DX10_alikeBy_45 DX10_alikeBy_49 DX10_alikeBy_50 DX10_alikeBy_69
    cases f with
    | zero =>
      have e : h = 6 := by omega
      subst e
      rw [if_pos (show (6 : Int32) ≤ nI 6 by decide), nI_1]
      unfold anF
      cases tw
      · rfl
      · rfl
    | succ f =>
      have hh : h < 6 := by omega
      rw [if_neg (show ¬ (6 : Int32) ≤ nI h from nI_ge (b := 6) hh (by omega)), nI_1]
      have i0 := ih f (h + 1) false (by omega) (by omega)
      have i1 := ih f (h + 1) true (by omega) (by omega)
      simp only [Bool.false_eq_true, if_false, if_true, Bool.false_or, Bool.true_or] at i0 i1
      unfold anF
      cases tw
      · simp only [Bool.false_eq_true, if_false, Bool.false_or]
        rw [if_pos trivial]
        by_cases e : h = g
        · rw [if_pos (by rw [e])]
          have d : (decide (¬ h = g) && smF (TT m) x g h 3 0) = false := by simp [e]
          rw [d, Bool.false_or]
          exact i0
        · rw [if_neg (fun z => e ((nI_eq (by omega) (by omega)).mp z))]
          unfold dX10_areAlike
          have sl := areAlike_l J (x := x) (g := g) (h := h) hx hg hh FU 3 0 true (by omega) (by unfold FU; omega)
          rw [nI_0] at sl
          simp only [if_true, Bool.true_and] at sl
          have d : (decide (¬ h = g) && smF (TT m) x g h 3 0) = smF (TT m) x g h 3 0 := by simp [e]
          rw [sl, Option.bind_some, d]
          cases hq : smF (TT m) x g h 3 0
          · simp only [Bool.false_eq_true, if_false, Bool.false_or]
            rw [if_pos trivial]; exact i0
          · simp only [if_true, Bool.true_or]
            rw [if_neg (show ¬ (1 : Int32) = 0 by decide)]; exact i1
      · simp only [if_true, Bool.true_or]
        rw [if_neg (show ¬ (1 : Int32) = 0 by decide)]
        exact i1
theorem alikeBy_2 (J : Jt m s b) {x : Nat} (hx : x < 8) : ∀ (N f g c : Nat), g + f = 6 → f < N → DX10_alikeBy_4 N (nI x) (nI c) (nI g) m = some (nI (c + alF (TT m) x f g), m) := by
  intro N
  induction N with
  | zero => intro f g c h1 h2; omega
  | succ N ih =>
    intro f g c h1 h2
    show BX10_alikeBy_4 (DX10_alikeBy_4 N) _ _ _ m = _
    unfold BX10_alikeBy_4
    cases f with
    | zero =>
      have e : g = 6 := by omega
      subst e
      rw [if_pos (show (6 : Int32) ≤ nI 6 by decide)]; rfl
    | succ f =>
      rw [if_neg (show ¬ (6 : Int32) ≤ nI g from nI_ge (b := 6) (by omega) (by omega))]
      have := alikeBy_1 J (x := x) (g := g) hx (by omega) (k4 := DX10_alikeBy_4 N) (cnt := nI c) FU 6 0 false (by omega) (by unfold FU; omega)
      rw [nI_0] at this
      simp only [Bool.false_eq_true, if_false, Bool.false_or] at this
      rw [this]
      unfold alF
      cases anF (TT m) x g 6 0
      · simp only [Bool.false_eq_true, if_false, Int32.add_zero, Nat.zero_add]
        exact ih f (g + 1) c (by omega) (by omega)
      · simp only [if_true, nI_1]
        rw [ih f (g + 1) (c + 1) (by omega) (by omega), Nat.add_assoc]
theorem alikeBy_m (J : Jt m s b) {x : Nat} (hx : x < 8) : dX10_alikeBy (nI x) m = some (nI (alF (TT m) x 6 0), m) := by
  have := alikeBy_2 J hx FU 6 0 0 (by omega) (by unfold FU; omega)
  rw [nI_0, Nat.zero_add] at this
  exact this
theorem tbm_l (J : Jt m s b) : ∀ (N f i : Nat) (best : Int32), i + f = 8 → f < N → (best = -2 ∨ ∃ j, j < 8 ∧ best = nI j) → DX10_tells_28 N best (nI i) m = some (tbF (TT m) f i best, m) := by
  intro N
  induction N with
  | zero => intro f i best h1 h2; omega
  | succ N ih =>
    intro f i best h1 h2 hb
    show BX10_tells_28 (DX10_tells_28 N) _ _ m = _
    unfold BX10_tells_28 DX10_tells_57 DX10_tells_61 DX10_tells_62
    cases f with
    | zero =>
      have e : i = 8 := by omega
      subst e
      rw [if_pos (show (8 : Int32) ≤ nI 8 by decide)]; rfl
    | succ f =>
      have hi : i < 8 := by omega
      have al := alF_le (TT m) i 6 0
      rw [if_neg (show ¬ (8 : Int32) ≤ nI i from nI_ge (b := 8) hi (by omega)), alikeBy_m J hi, Option.bind_some]
      have e0 : (nI (alF (TT m) i 6 0) = 0) = (alF (TT m) i 6 0 = 0) := propext (by rw [show (0 : Int32) = nI 0 from rfl, nI_eq (by omega) (by omega)])
      simp only [e0, nI_1]
      unfold tbF
      by_cases ha : alF (TT m) i 6 0 = 0
      · rw [if_pos ha]
        rcases hb with hb | ⟨j, hj, hb⟩
        · subst hb
          rw [if_pos (show (-2 : Int32) < 0 by decide), if_pos ⟨ha, Or.inl (by decide)⟩]
          exact ih f (i + 1) (nI i) (by omega) (by omega) (Or.inr ⟨i, hi, rfl⟩)
        · subst hb
          have ej : (nI j).toInt = j := nI_toInt (by omega)
          have p1 := pop3_lt (x := i)
          have p2 := pop3_lt (x := j)
          rw [if_neg (nI_pos (by omega)), pop_m hi, Option.bind_some]
          simp only []
          rw [pop_m hj, Option.bind_some, ej, Int.toNat_natCast]
          by_cases hp : pop3 i < pop3 j
          · rw [if_neg (nI_ge hp (by omega)), if_pos ⟨ha, Or.inr hp⟩]
            exact ih f (i + 1) (nI i) (by omega) (by omega) (Or.inr ⟨i, hi, rfl⟩)
          · rw [if_pos (nI_le (by omega) (by omega)), if_neg (fun q => q.2.elim (by omega) hp)]
            exact ih f (i + 1) (nI j) (by omega) (by omega) (Or.inr ⟨j, hj, rfl⟩)
      · rw [if_neg ha, if_neg (fun q => ha q.1)]
        exact ih f (i + 1) best (by omega) (by omega) hb
theorem tells_m (J : Jt m s b) : dX10_tells v1 m = some (telQ m v1, m) := by
  unfold dX10_tells telQ
  simp only [part_m, Option.bind_some, b01_0]
  by_cases h : okP v1
  · rw [if_neg (fun q => q h), if_pos h]
    have a7 : dX10_alikeBy 7 m = some (nI (alF (TT m) 7 6 0), m) := alikeBy_m J (x := 7) (by omega)
    have tb := tbm_l J FU 8 0 (-2) (by omega) (by unfold FU; omega) (Or.inl rfl)
    rw [nI_0] at tb
    rw [a7, tb, Option.bind_some]
    split <;> rfl
  · rw [if_pos h, if_neg h]
theorem tells_j (J : JA m s b kn n t lv) : Ans (dX9_tells v1) (dX10_tells v1) m := ⟨_, m, m, tells_x J.1.1, tells_m J.1.1, _, _, _, _, _, _, J⟩
end TELLS
