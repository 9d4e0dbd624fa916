/-! ===== dealt: the class's table, and what the reference tells of it, purely ===== -/
section DEALC
variable {nb ns : Nat} {fr : Nat → Bool} {gn : Nat → Nat → Int} {g w : Nat → Int} {a : Nat → Nat}
def upD (D : Nat → Int) (i : Nat) (x : Int) : Nat → Int := fun j => if j = i then x else D j
/-- a sack for those served, and one buyer more; b on, f of them -/
def stB (g w : Nat → Int) (sv : Nat) : Nat → Nat → (Nat → Int) → (Nat → Int)
  | 0, _, D => D
  | f + 1, b, D => stB g w sv f (b + 1) (if ¬ D sv = -1 ∧ btS sv b = 0 ∧ 0 ≤ g b then upD D (sv + 2 ^ b) (mxI (D (sv + 2 ^ b)) (D sv + w b)) else D)
def stS (g w : Nat → Int) (nb : Nat) : Nat → (Nat → Int) → (Nat → Int)
  | 0, D => D
  | n + 1, D => stS g w nb n (stB g w n nb 0 D)
theorem stB_p {sv : Nat} : ∀ f b D, (∀ x, D x ≤ stB g w sv f b D x) ∧ (∀ x, x ≤ sv → stB g w sv f b D x = D x) ∧ (∀ j, b ≤ j → j < b + f → btS sv j = 0 → ¬ D sv = -1 → 0 ≤ g j → D sv + w j ≤ stB g w sv f b D (sv + 2 ^ j)) ∧ ∀ x, stB g w sv f b D x = D x ∨ ∃ j, b ≤ j ∧ j < b + f ∧ x = sv + 2 ^ j ∧ btS sv j = 0 ∧ ¬ D sv = -1 ∧ 0 ≤ g j ∧ stB g w sv f b D x = D sv + w j
  | 0, b, D => ⟨fun _ => Int.le_refl _, fun _ _ => rfl, fun j h1 h2 => absurd h2 (by omega), fun _ => Or.inl rfl⟩
  | f + 1, b, D => by
    have p2 : ∀ j : Nat, 0 < 2 ^ j := fun j => Nat.pow_pos (by omega)
    by_cases q : ¬ D sv = -1 ∧ btS sv b = 0 ∧ 0 ≤ g b
    · have e : stB g w sv (f + 1) b D = stB g w sv f (b + 1) (upD D (sv + 2 ^ b) (mxI (D (sv + 2 ^ b)) (D sv + w b))) := by
        show stB g w sv f (b + 1) (if ¬ D sv = -1 ∧ btS sv b = 0 ∧ 0 ≤ g b then _ else D) = _
        rw [if_pos q]
      have es : upD D (sv + 2 ^ b) (mxI (D (sv + 2 ^ b)) (D sv + w b)) sv = D sv := by
        unfold upD; rw [if_neg (by have := p2 b; omega)]
      have et : upD D (sv + 2 ^ b) (mxI (D (sv + 2 ^ b)) (D sv + w b)) (sv + 2 ^ b) = mxI (D (sv + 2 ^ b)) (D sv + w b) := by unfold upD; rw [if_pos rfl]
      have eo : ∀ x, ¬ x = sv + 2 ^ b → upD D (sv + 2 ^ b) (mxI (D (sv + 2 ^ b)) (D sv + w b)) x = D x := fun x hx => by unfold upD; rw [if_neg hx]
      obtain ⟨i1, i2, i3, i4⟩ := stB_p f (b + 1) (upD D (sv + 2 ^ b) (mxI (D (sv + 2 ^ b)) (D sv + w b)))
      rw [e]
      have mono : ∀ x, D x ≤ upD D (sv + 2 ^ b) (mxI (D (sv + 2 ^ b)) (D sv + w b)) x := fun x => by
        by_cases hx : x = sv + 2 ^ b
        · subst hx; rw [et]; exact mxI_l.1
        · rw [eo x hx]; exact Int.le_refl _
      refine ⟨fun x => Int.le_trans (mono x) (i1 x), fun x hx => ?_, fun j h1 h2 h3 h4 h5 => ?_, fun x => ?_⟩
      · rw [i2 x hx, eo x (by have := p2 b; omega)]
      · by_cases ej : j = b
        · subst ej
          refine Int.le_trans ?_ (i1 _)
          rw [et]; exact mxI_l.2.1
        · have := i3 j (by omega) (by omega) h3 (by rw [es]; exact h4) h5
          rw [es] at this; exact this
      · rcases i4 x with h | ⟨j, h1, h2, h3, h4, h5, h6, h7⟩
        · rw [h]
          by_cases hx : x = sv + 2 ^ b
          · subst hx
            rw [et]
            rcases (mxI_l (K := D (sv + 2 ^ b)) (L := D sv + w b)).2.2 with z | z
            · exact Or.inl z
            · exact Or.inr ⟨b, Nat.le_refl _, by omega, rfl, q.2.1, q.1, q.2.2, z⟩
          · rw [eo x hx]; exact Or.inl rfl
        · rw [es] at h5 h7
          exact Or.inr ⟨j, by omega, by omega, h3, h4, h5, h6, h7⟩
    · have e : stB g w sv (f + 1) b D = stB g w sv f (b + 1) D := by
        show stB g w sv f (b + 1) (if ¬ D sv = -1 ∧ btS sv b = 0 ∧ 0 ≤ g b then _ else D) = _
        rw [if_neg q]
      obtain ⟨i1, i2, i3, i4⟩ := stB_p f (b + 1) D
      rw [e]
      refine ⟨i1, i2, fun j h1 h2 h3 h4 h5 => ?_, fun x => ?_⟩
      · by_cases ej : j = b
        · subst ej; exact absurd ⟨h4, h3, h5⟩ q
        · exact i3 j (by omega) (by omega) h3 h4 h5
      · rcases i4 x with h | ⟨j, h1, h2, h3⟩
        · exact Or.inl h
        · exact Or.inr ⟨j, by omega, by omega, h3⟩
theorem stS_p {O : Nat → Int} : ∀ n D, (∀ x, x < n → D x = O x) → (∀ x, D x ≤ stS g w nb n D x) ∧ (∀ sv, sv < n → ∀ j, j < nb → btS sv j = 0 → ¬ O sv = -1 → 0 ≤ g j → O sv + w j ≤ stS g w nb n D (sv + 2 ^ j)) ∧ ∀ x, stS g w nb n D x = D x ∨ ∃ sv j, sv < n ∧ j < nb ∧ x = sv + 2 ^ j ∧ btS sv j = 0 ∧ ¬ O sv = -1 ∧ 0 ≤ g j ∧ stS g w nb n D x = O sv + w j
  | 0, D, _ => ⟨fun _ => Int.le_refl _, fun sv h => absurd h (by omega), fun _ => Or.inl rfl⟩
  | n + 1, D, h => by
    obtain ⟨b1, b2, b3, b4⟩ := stB_p (g := g) (w := w) (sv := n) nb 0 D
    obtain ⟨i1, i2, i3⟩ := stS_p (O := O) n (stB g w n nb 0 D) (fun x hx => by rw [b2 x (by omega)]; exact h x (by omega))
    have hn := h n (by omega)
    show (∀ x, D x ≤ stS g w nb n (stB g w n nb 0 D) x) ∧ _
    refine ⟨fun x => Int.le_trans (b1 x) (i1 x), fun sv hs j hj h1 h2 h3 => ?_, fun x => ?_⟩
    · by_cases e : sv = n
      · subst e
        have := b3 j (Nat.zero_le _) (by omega) h1 (by rw [hn]; exact h2) h3
        rw [hn] at this
        exact Int.le_trans this (i1 _)
      · exact i2 sv (by omega) j hj h1 h2 h3
    · rcases i3 x with z | ⟨sv, j, z1, z2, z3⟩
      · show stS g w nb n (stB g w n nb 0 D) x = D x ∨ _
        rw [z]
        rcases b4 x with y | ⟨j, y1, y2, y3, y4, y5, y6, y7⟩
        · exact Or.inl y
        · rw [hn] at y5 y7
          exact Or.inr ⟨n, j, by omega, by omega, y3, y4, y5, y6, by show stS g w nb n (stB g w n nb 0 D) x = _; rw [z, y7]⟩
      · exact Or.inr ⟨sv, j, by omega, z2, z3⟩
/-- sack by sack -/
def Dk (fr : Nat → Bool) (gn : Nat → Nat → Int) (nb : Nat) : Nat → Nat → (Nat → Int) → (Nat → Int)
  | 0, _, D => D
  | f + 1, k, D => Dk fr gn nb f (k + 1) (if fr k then stS (fun b => gn b k) (fun b => wS gn b k) nb 64 D else D)
def D0 : Nat → Int := fun x => if x = 0 then 0 else -1
/-- an assignment of sacks before k, those of a mask served -/
def vdC (fr : Nat → Bool) (gn : Nat → Nat → Int) (nb k x : Nat) (a : Nat → Nat) : Prop := (∀ j, j < nb → (a j = 10 ∧ btS x j = 0) ∨ (a j < k ∧ okW fr gn j (a j) = true ∧ btS x j = 1)) ∧ ∀ i j, i < nb → j < nb → ¬ i = j → ¬ a i = 10 → ¬ a i = a j
def InvD (fr : Nat → Bool) (gn : Nat → Nat → Int) (nb k : Nat) (D : Nat → Int) : Prop := (∀ x, x < 2 ^ nb → D x = -1 ∨ ∃ a, vdC fr gn nb k x a ∧ D x = scS gn a nb 0) ∧ (∀ x, x < 2 ^ nb → ∀ a, vdC fr gn nb k x a → scS gn a nb 0 ≤ D x) ∧ (∀ x, 2 ^ nb ≤ x → D x = -1) ∧ 0 ≤ D 0
theorem pwB_pos (b : Nat) : 0 < pwB b := by unfold pwB; exact Int.pow_pos (by omega)
theorem wS_pos {b k : Nat} (h : 0 ≤ gn b k) (hk : k < 10) : 0 ≤ wS gn b k := by
  have := pwB_pos b
  have h2 : 0 ≤ (10 - (k : Int)) * pwB b := Int.mul_nonneg (by omega) (by omega)
  unfold wS; omega
theorem scS_pos (h : ∀ j, j < nb → a j = 10 ∨ (a j < 10 ∧ 0 ≤ gn j (a j))) : ∀ f b, b + f ≤ nb → 0 ≤ scS gn a f b
  | 0, _, _ => Int.le_refl _
  | f + 1, b, hb => by
    have ih := scS_pos h f (b + 1) (by omega)
    show 0 ≤ (if a b = 10 then 0 else wS gn b (a b)) + scS gn a f (b + 1)
    rcases h b (by omega) with q | q
    · rw [if_pos q]; omega
    · rw [if_neg (by omega)]
      have := wS_pos q.2 q.1
      omega
theorem scS_at {a' : Nat → Nat} {i : Nat} (h : ∀ j, ¬ j = i → a' j = a j) : ∀ f b, b ≤ i → i < b + f → scS gn a' f b = scS gn a f b + (if a' i = 10 then 0 else wS gn i (a' i)) - (if a i = 10 then 0 else wS gn i (a i))
  | 0, b, h1, h2 => by omega
  | f + 1, b, h1, h2 => by
    show (if a' b = 10 then 0 else wS gn b (a' b)) + scS gn a' f (b + 1) = (if a b = 10 then 0 else wS gn b (a b)) + scS gn a f (b + 1) + _ - _
    by_cases e : b = i
    · subst e
      rw [scS_cg (a := a') (a' := a) f (b + 1) (fun j j1 j2 => h j (by omega))]
      omega
    · rw [h b e, scS_at h f (b + 1) (by omega) (by omega)]
      omega
theorem Inv_step {k : Nat} {D : Nat → Int} (hk : k < 10) (hnb : 2 ^ nb ≤ 64) (hf : fr k = true) (h : InvD fr gn nb k D) : InvD fr gn nb (k + 1) (stS (fun b => gn b k) (fun b => wS gn b k) nb 64 D) := by
  obtain ⟨hA, hB, hC, hZ⟩ := h
  obtain ⟨i1, i2, i3⟩ := stS_p (g := fun b => gn b k) (w := fun b => wS gn b k) (nb := nb) (O := D) 64 D (fun _ _ => rfl)
  refine ⟨fun x hx => ?_, fun x hx a ha => ?_, fun x hx => ?_, Int.le_trans hZ (i1 0)⟩
  · rcases i3 x with e | ⟨sv, j, h1, h2, h3, h4, h5, h6, h7⟩
    · rw [e]
      rcases hA x hx with q | ⟨a, q1, q2⟩
      · exact Or.inl q
      · refine Or.inr ⟨a, ⟨fun j hj => ?_, q1.2⟩, q2⟩
        rcases q1.1 j hj with z | z
        · exact Or.inl z
        · exact Or.inr ⟨by omega, z.2⟩
    · have hsv : sv < 2 ^ nb := by
        by_cases q : sv < 2 ^ nb
        · exact q
        · exact absurd (hC sv (by omega)) h5
      have bt := btS_add h4
      rcases hA sv hsv with q | ⟨a, q1, q2⟩
      · exact absurd q h5
      · right
        have aj : a j = 10 := by
          rcases q1.1 j h2 with z | z
          · exact z.1
          · rw [h4] at z; exact absurd z.2.2 (by omega)
        refine ⟨fun i => if i = j then k else a i, ⟨fun i hi => ?_, fun i i' hi hi' hne hn => ?_⟩, ?_⟩
        · by_cases e : i = j
          · subst e
            simp only [if_true]
            refine Or.inr ⟨by omega, ?_, by rw [h3]; exact bt.1⟩
            show (fr k && decide (0 ≤ gn i k)) = true
            rw [hf, decide_eq_true h6]; rfl
          · simp only [if_neg e]
            rw [h3, bt.2 i e]
            rcases q1.1 i hi with z | z
            · exact Or.inl z
            · exact Or.inr ⟨by omega, z.2⟩
        · by_cases e : i = j
          · subst e
            have e' : ¬ i' = i := fun z => hne z.symm
            simp only [if_true, if_neg e']
            intro z
            rcases q1.1 i' hi' with u | u
            · omega
            · omega
          · simp only [if_neg e] at hn ⊢
            by_cases e' : i' = j
            · subst e'
              simp only [if_true]
              intro z
              rcases q1.1 i hi with u | u
              · exact hn u.1
              · omega
            · simp only [if_neg e']
              exact q1.2 i i' hi hi' hne hn
        · rw [h7, q2, scS_at (a := a) (a' := fun i => if i = j then k else a i) (i := j) (fun i hi => if_neg hi) nb 0 (Nat.zero_le _) (by omega)]
          simp only [if_true]
          rw [if_neg (by omega), if_pos aj]
          omega
  · by_cases q : ∃ j, j < nb ∧ a j = k
    · obtain ⟨j, hj, hja⟩ := q
      have haj := (ha.1 j hj).resolve_left (fun z => by omega)
      have hbj : btS x j = 1 := haj.2.2
      have hok : (fr (a j) && decide (0 ≤ gn j (a j))) = true := haj.2.1
      rw [Bool.and_eq_true, decide_eq_true_eq, hja] at hok
      -- the mask without j
      obtain ⟨sv, hs1, hs2⟩ : ∃ sv, x = sv + 2 ^ j ∧ btS sv j = 0 := by
        refine ⟨x - 2 ^ j, ?_, ?_⟩
        · have : 2 ^ j ≤ x := by
            by_cases z : 2 ^ j ≤ x
            · exact z
            · have := btS_small (x := x) (k := j) (by omega); omega
          omega
        · have hx1 : 2 ^ j ≤ x := by
            by_cases z : 2 ^ j ≤ x
            · exact z
            · have := btS_small (x := x) (k := j) (by omega); omega
          have p : 0 < 2 ^ j := Nat.pow_pos (by omega)
          have e : x = (x - 2 ^ j) + 2 ^ j := by omega
          unfold btS at hbj ⊢
          rw [e, Nat.add_div_right _ p] at hbj
          omega
      have bt := btS_add hs2
      have hsv : sv < 2 ^ nb := by
        have p := Nat.pow_pos (n := j) (show 0 < 2 by omega)
        omega
      have hv : vdC fr gn nb k sv (fun i => if i = j then 10 else a i) := by
        refine ⟨fun i hi => ?_, fun i i' hi hi' hne hn => ?_⟩
        · by_cases e : i = j
          · subst e; simp only [if_true]; exact Or.inl ⟨trivial, hs2⟩
          · simp only [if_neg e]
            have := ha.1 i hi
            rw [hs1, bt.2 i e] at this
            rcases this with z | z
            · exact Or.inl z
            · refine Or.inr ⟨?_, z.2⟩
              have : ¬ a i = a j := ha.2 i j hi hj e (by omega)
              omega
        · by_cases e : i = j
          · subst e; simp only [if_true] at hn; exact absurd trivial hn
          · simp only [if_neg e] at hn ⊢
            by_cases e' : i' = j
            · subst e'; simp only [if_true]; exact hn
            · simp only [if_neg e']; exact ha.2 i i' hi hi' hne hn
      have hb := hB sv hsv _ hv
      have hpos : 0 ≤ scS gn (fun i => if i = j then 10 else a i) nb 0 := scS_pos (nb := nb) (fun i hi => by
        by_cases e : i = j
        · subst e; simp only [if_true]; exact Or.inl trivial
        · simp only [if_neg e]
          rcases ha.1 i hi with z | z
          · exact Or.inl z.1
          · have z2 : (fr (a i) && decide (0 ≤ gn i (a i))) = true := z.2.1
            rw [Bool.and_eq_true, decide_eq_true_eq] at z2
            exact Or.inr ⟨by omega, z2.2⟩) nb 0 (by omega)
      have low := i2 sv (by omega) j hj hs2 (by omega) hok.2
      have sc := scS_at (gn := gn) (a := a) (a' := fun i => if i = j then 10 else a i) (i := j) (fun i hi => if_neg hi) nb 0 (Nat.zero_le _) (by omega)
      simp only [if_true] at sc
      rw [if_neg (show ¬ a j = 10 by omega), hja] at sc
      rw [hs1]
      have low' : D sv + wS gn j k ≤ stS (fun b => gn b k) (fun b => wS gn b k) nb 64 D (sv + 2 ^ j) := low
      omega
    · refine Int.le_trans (hB x hx a ⟨fun j hj => ?_, ha.2⟩) (i1 x)
      rcases ha.1 j hj with z | z
      · exact Or.inl z
      · refine Or.inr ⟨?_, z.2⟩
        have : ¬ a j = k := fun w => q ⟨j, hj, w⟩
        omega
  · rcases i3 x with e | ⟨sv, j, h1, h2, h3, h4, h5, h6, h7⟩
    · rw [e]; exact hC x hx
    · exfalso
      have hsv : sv < 2 ^ nb := by
        by_cases q : sv < 2 ^ nb
        · exact q
        · exact absurd (hC sv (by omega)) h5
      have := btS_up h4 hsv h2
      omega
theorem Inv_up {k : Nat} {D : Nat → Int} (hf : ¬ fr k = true) (h : InvD fr gn nb k D) : InvD fr gn nb (k + 1) D := by
  obtain ⟨hA, hB, hC, hZ⟩ := h
  refine ⟨fun x hx => ?_, fun x hx a ha => hB x hx a ⟨fun j hj => ?_, ha.2⟩, hC, hZ⟩
  · rcases hA x hx with q | ⟨a, q1, q2⟩
    · exact Or.inl q
    · refine Or.inr ⟨a, ⟨fun j hj => ?_, q1.2⟩, q2⟩
      rcases q1.1 j hj with z | z
      · exact Or.inl z
      · exact Or.inr ⟨by omega, z.2⟩
  · rcases ha.1 j hj with z | z
    · exact Or.inl z
    · refine Or.inr ⟨?_, z.2⟩
      have z2 : (fr (a j) && decide (0 ≤ gn j (a j))) = true := z.2.1
      rw [Bool.and_eq_true] at z2
      have : ¬ a j = k := fun w => hf (by rw [← w]; exact z2.1)
      omega
theorem Dk_inv (hnb : 2 ^ nb ≤ 64) : ∀ f k D, k + f ≤ 10 → InvD fr gn nb k D → InvD fr gn nb (k + f) (Dk fr gn nb f k D)
  | 0, _, _, _, h => h
  | f + 1, k, D, hk, h => by
    unfold Dk
    rw [show k + (f + 1) = k + 1 + f by omega]
    by_cases q : fr k = true
    · rw [if_pos q]; exact Dk_inv hnb f (k + 1) _ (by omega) (Inv_step (by omega) hnb q h)
    · rw [if_neg q]; exact Dk_inv hnb f (k + 1) _ (by omega) (Inv_up q h)
theorem btS_0 {j : Nat} : btS 0 j = 0 := by unfold btS; rw [Nat.zero_div]
theorem Inv_0 : InvD fr gn nb 0 D0 := by
  refine ⟨fun x hx => ?_, fun x hx a ha => ?_, fun x hx => ?_, ?_⟩
  · by_cases e : x = 0
    · subst e
      refine Or.inr ⟨fun _ => 10, ⟨fun j _ => Or.inl ⟨rfl, btS_0⟩, fun i j _ _ _ hn => absurd rfl hn⟩, ?_⟩
      have : ∀ f b, scS gn (fun _ => 10) f b = 0 := fun f => by
        induction f with
        | zero => intro b; rfl
        | succ f ih => intro b; show (if (10 : Nat) = 10 then (0 : Int) else _) + scS gn (fun _ => 10) f (b + 1) = 0; rw [if_pos rfl, ih]; rfl
      rw [this]; rfl
    · exact Or.inl (if_neg e)
  · have a10 : ∀ j, j < nb → a j = 10 ∧ btS x j = 0 := fun j hj => by
      rcases ha.1 j hj with z | z
      · exact z
      · omega
    have e0 : x = 0 := by
      have key : ∀ n y, y < 2 ^ n → (∀ j, j < n → btS y j = 0) → y = 0 := by
        intro n
        induction n with
        | zero => intro y hy _; rw [Nat.pow_zero] at hy; omega
        | succ n ih =>
          intro y hy hb
          refine ih y ?_ (fun j hj => hb j (by omega))
          have hn := hb n (by omega)
          unfold btS at hn
          rw [Nat.pow_succ] at hy
          have p : 0 < 2 ^ n := Nat.pow_pos (by omega)
          have hlt : y / 2 ^ n < 2 := Nat.div_lt_of_lt_mul hy
          have h0 : y / 2 ^ n = 0 := by
            generalize y / 2 ^ n = z at hn hlt ⊢
            omega
          exact (Nat.div_eq_zero_iff_lt p).mp h0
      exact key nb x hx (fun j hj => (a10 j hj).2)
    subst e0
    have : ∀ f b, b + f ≤ nb → scS gn a f b = 0 := fun f => by
      induction f with
      | zero => intro b _; rfl
      | succ f ih =>
        intro b hb
        show (if a b = 10 then (0 : Int) else _) + scS gn a f (b + 1) = 0
        rw [if_pos (a10 b (by omega)).1, ih (b + 1) (by omega)]; rfl
    rw [this nb 0 (by omega)]
    exact Int.le_refl _
  · have : 0 < 2 ^ nb := Nat.pow_pos (by omega)
    exact if_neg (by omega)
  · exact Int.le_refl _
def bsD (D : Nat → Int) : Nat → Nat → Int → Int
  | 0, _, K => K
  | f + 1, x, K => bsD D f (x + 1) (mxI K (D x))
theorem bsD_p {D : Nat → Int} : ∀ f x K, K ≤ bsD D f x K ∧ (∀ y, x ≤ y → y < x + f → D y ≤ bsD D f x K) ∧ (bsD D f x K = K ∨ ∃ y, x ≤ y ∧ y < x + f ∧ bsD D f x K = D y)
  | 0, x, K => ⟨Int.le_refl _, fun y h1 h2 => absurd h2 (by omega), Or.inl rfl⟩
  | f + 1, x, K => by
    obtain ⟨i1, i2, i3⟩ := bsD_p f (x + 1) (mxI K (D x))
    show K ≤ bsD D f (x + 1) (mxI K (D x)) ∧ _
    refine ⟨Int.le_trans mxI_l.1 i1, fun y h1 h2 => ?_, ?_⟩
    · by_cases e : y = x
      · subst e; exact Int.le_trans mxI_l.2.1 i1
      · exact i2 y (by omega) (by omega)
    · rcases i3 with h | ⟨y, h1, h2, h3⟩
      · rcases (mxI_l (K := K) (L := D x)).2.2 with z | z
        · exact Or.inl (h.trans z)
        · exact Or.inr ⟨x, Nat.le_refl _, by omega, h.trans z⟩
      · exact Or.inr ⟨y, by omega, by omega, h3⟩
/-- both find the same -/
theorem deal_eq (hns : ns ≤ 10) (hnb : nb ≤ 6) : bsD (Dk fr gn nb ns 0 D0) 64 0 0 = Mx fr gn ns nb 0 0 := by
  have h64 : 2 ^ nb ≤ 64 := Nat.pow_le_pow_right (n := 2) (by omega) hnb
  have inv := Dk_inv (fr := fr) (gn := gn) h64 ns 0 D0 (by omega) Inv_0
  rw [Nat.zero_add] at inv
  obtain ⟨i1, i2, i3⟩ := bsD_p (D := Dk fr gn nb ns 0 D0) 64 0 0
  generalize Dk fr gn nb ns 0 D0 = D at inv i1 i2 i3
  obtain ⟨hA, hB, hC, hZ⟩ := inv
  obtain ⟨a, ha1, ha2⟩ := Mx_at (fr := fr) (gn := gn) hns nb 0 0
  have hpos : 0 ≤ Mx fr gn ns nb 0 0 := by
    rw [← ha2]
    refine scS_pos (nb := nb) (fun j hj => ?_) nb 0 (by omega)
    rcases ha1.1 j (Nat.zero_le _) (by omega) with z | z
    · exact Or.inl z
    · have z2 : (fr (a j) && decide (0 ≤ gn j (a j))) = true := z.2.1
      rw [Bool.and_eq_true, decide_eq_true_eq] at z2
      exact Or.inr ⟨by omega, z2.2⟩
  apply Int.le_antisymm
  · rcases i3 with h | ⟨y, h1, h2, h3⟩
    · rw [h]; exact hpos
    · rw [h3]
      by_cases hy : y < 2 ^ nb
      · rcases hA y hy with q | ⟨c, q1, q2⟩
        · rw [q]; omega
        · rw [q2]
          refine Mx_le hns nb 0 0 ⟨fun j _ j2 => ?_, fun i j _ i2 _ j2 => q1.2 i j (by omega) (by omega)⟩
          rcases q1.1 j (by omega) with z | z
          · exact Or.inl z.1
          · exact Or.inr ⟨z.1, z.2.1, btS_0⟩
      · rw [hC y (by omega)]; omega
  · have mk : ∀ n, ∃ x, x < 2 ^ n ∧ ∀ j, j < n → btS x j = (if a j = 10 then 0 else 1) := by
      intro n
      induction n with
      | zero => exact ⟨0, by rw [Nat.pow_zero]; omega, fun j hj => absurd hj (by omega)⟩
      | succ n ih =>
        obtain ⟨x, x1, x2⟩ := ih
        have p : 2 ^ (n + 1) = 2 ^ n * 2 := Nat.pow_succ ..
        have b0 := btS_small x1
        by_cases q : a n = 10
        · refine ⟨x, by omega, fun j hj => ?_⟩
          by_cases e : j = n
          · subst e; rw [b0, if_pos q]
          · exact x2 j (by omega)
        · have bt := btS_add b0
          refine ⟨x + 2 ^ n, by omega, fun j hj => ?_⟩
          by_cases e : j = n
          · subst e; rw [bt.1, if_neg q]
          · rw [bt.2 j e]; exact x2 j (by omega)
    obtain ⟨x, x1, x2⟩ := mk nb
    rw [← ha2]
    refine Int.le_trans (hB x x1 a ⟨fun j hj => ?_, fun i j hi hj => ha1.2 i j (Nat.zero_le _) (by omega) (Nat.zero_le _) (by omega)⟩) (i2 x (Nat.zero_le _) (by omega))
    have xj := x2 j hj
    rcases ha1.1 j (Nat.zero_le _) (by omega) with z | z
    · rw [if_pos z] at xj; exact Or.inl ⟨z, xj⟩
    · rw [if_neg (by omega)] at xj; exact Or.inr ⟨z.1, z.2.1, xj⟩
end DEALC
