/-! ===== THE LAW's text: a parser by itself ===== -/
abbrev LSt : Type := Nat × Int32
abbrev LPR : Type := Nat ⊕ (Nat × List LSt)
def cA (t : Nat → Nat) (n p : Nat) : Nat := if p < n then t p else 256
def isJ (l c : Nat) : Bool := if l = 0 then c == 124 else if l = 1 then c == 38 else if l = 2 then c == 60 || c == 61 || c == 62 else if l = 3 then c == 43 || c == 45 else c == 42 || c == 47 || c == 37
def isDg (c : Nat) : Bool := decide (48 ≤ c) && decide (c ≤ 57)
def nmX (c : Nat) : Nat := if c = 112 then 0 else if c = 119 then 1 else if c = 97 then 2 else if c = 115 then 3 else if c = 103 then 4 else if c = 98 then 5 else 6
def numP (t : Nat → Nat) (n : Nat) : Nat → Nat → Int32 → Nat × Int32
  | 0, p, v => (p, v)
  | k + 1, p, v => if isDg (cA t n p) then numP t n k (p + 1) (10 * v + nI (cA t n p) - 48) else (p, v)
def loopP (t : Nat → Nat) (n : Nat) (sub : Nat → LPR) (l : Nat) : Nat → Nat → List LSt → LPR
  | 0, p, s => .inr (p, s)
  | k + 1, p, s => if isJ l (cA t n p) then (match sub (p + 1) with
      | .inl f => .inl f
      | .inr q => loopP t n sub l k q.1 (s ++ q.2 ++ [(cA t n p, 0)])) else .inr (p, s)
def lvP (t : Nat → Nat) (n : Nat) (sub : Nat → LPR) (l most : Nat) (p : Nat) : LPR := match sub p with
  | .inl f => .inl f
  | .inr q => loopP t n sub l most q.1 q.2
def EP (t : Nat → Nat) (n : Nat) (sub : Nat → LPR) : Nat → LPR := lvP t n (lvP t n (lvP t n (lvP t n (lvP t n sub 4 120) 3 120) 2 1) 1 120) 0 120
def opP (t : Nat → Nat) (n : Nat) : Nat → Nat → LPR
  | 0, p => if isDg (cA t n p) then .inr ((numP t n 4 p 0).1, [(35, (numP t n 4 p 0).2)]) else if nmX (cA t n p) < 6 then .inr (p + 1, [(110, nI (nmX (cA t n p)))]) else .inl p
  | o + 1, p => if isDg (cA t n p) then .inr ((numP t n 4 p 0).1, [(35, (numP t n 4 p 0).2)]) else if nmX (cA t n p) < 6 then .inr (p + 1, [(110, nI (nmX (cA t n p)))])
    else if cA t n p = 40 then (match EP t n (opP t n o) (p + 1) with
      | .inl f => .inl f
      | .inr q => if cA t n q.1 = 41 then .inr (q.1 + 1, q.2) else .inl q.1)
    else if cA t n p = 33 ∨ cA t n p = 45 then (match opP t n o (p + 1) with
      | .inl f => .inl f
      | .inr q => .inr (q.1, q.2 ++ [(if cA t n p = 45 then 126 else 33, 0)]))
    else .inl p
abbrev LLn : Type := Option (List LSt) × List LSt
def lineP (t : Nat → Nat) (n p : Nat) : Nat ⊕ (Nat × LLn) := match EP t n (opP t n 6) p with
  | .inl f => .inl f
  | .inr q => if cA t n q.1 = 63 then (match EP t n (opP t n 6) (q.1 + 1) with
      | .inl f => .inl f
      | .inr r => .inr (r.1, some q.2, r.2)) else .inr (q.1, none, q.2)
def textP (t : Nat → Nat) (n : Nat) : Nat → Nat → Nat ⊕ List LLn
  | 0, p => .inl p
  | k + 1, p => match lineP t n p with
    | .inl f => .inl f
    | .inr q => if cA t n q.1 = 59 then (match textP t n k (q.1 + 1) with
        | .inl f => .inl f
        | .inr r => .inr (q.2 :: r)) else if q.1 < n then .inl q.1 else .inr [q.2]
/-! what steps come to, on a stack -/
def jnS (c : Nat) (a b : Int32) : Int32 :=
  if c = 37 then (if b = 0 then 0 else iRem a b) else if c = 38 then (if a = 0 then 0 else if b = 0 then 0 else 1) else if c = 42 then a * b else if c = 43 then a + b else if c = 45 then a - b else if c = 47 then (if b = 0 then 0 else a / b)
  else if c = 60 then (if b ≤ a then 0 else 1) else if c = 61 then (if a = b then 1 else 0) else if c = 62 then (if a ≤ b then 0 else 1) else if c = 124 then (if a = 0 then (if b = 0 then 0 else 1) else 1) else 0
def isB (c : Nat) : Bool := c == 37 || c == 38 || c == 42 || c == 43 || c == 45 || c == 47 || c == 60 || c == 61 || c == 62 || c == 124
def ex1 (nm : Nat → Int32) (q : LSt) (st : List Int32) : List Int32 :=
  if q.1 = 35 then q.2 :: st else if q.1 = 110 then nm q.2.toNatClampNeg :: st
  else if q.1 = 126 then (match st with | x :: r => (-x) :: r | [] => [])
  else if q.1 = 33 then (match st with | x :: r => (if x = 0 then 1 else 0) :: r | [] => [])
  else (match st with | y :: x :: r => jnS q.1 x y :: r | _ => [])
def exs (nm : Nat → Int32) (s : List LSt) (st : List Int32) : List Int32 := s.foldl (fun a q => ex1 nm q a) st
def vaS (nm : Nat → Int32) (s : List LSt) : Int32 := (exs nm s []).headD 0
/-- a step that a text can have: a number, a name, a sign of one, of two -/
def okS (q : LSt) : Prop := q.1 = 35 ∨ (q.1 = 110 ∧ 0 ≤ q.2.toInt ∧ q.2.toInt < 6) ∨ q.1 = 126 ∨ q.1 = 33 ∨ isB q.1 = true
/-- how deep the stack is behind a step, behind steps; none: too little lies there -/
def dp1 (q : LSt) (d : Nat) : Option Nat := if q.1 = 35 ∨ q.1 = 110 then some (d + 1) else if q.1 = 126 ∨ q.1 = 33 then (if 1 ≤ d then some d else none) else if 2 ≤ d then some (d - 1) else none
def dps : List LSt → Nat → Option Nat
  | [], d => some d
  | q :: s, d => (dp1 q d).bind (dps s)
theorem dps_app (a b : List LSt) : ∀ d, dps (a ++ b) d = (dps a d).bind (dps b) := by
  induction a with
  | nil => intro d; rfl
  | cons q a ih =>
    intro d
    show (dp1 q d).bind (dps (a ++ b)) = ((dp1 q d).bind (dps a)).bind (dps b)
    cases dp1 q d with
    | none => rfl
    | some e => exact ih e
/-- steps that put one number on the stack -/
def Gd (s : List LSt) : Prop := (∀ q ∈ s, okS q) ∧ (∀ (nm : Nat → Int32) (st : List Int32), exs nm s st = vaS nm s :: st) ∧ ∀ d, dps s d = some (d + 1)
theorem exs_app (nm : Nat → Int32) (a b : List LSt) (st : List Int32) : exs nm (a ++ b) st = exs nm b (exs nm a st) := by
  unfold exs; rw [List.foldl_append]
theorem Gd_num {v : Int32} : Gd [(35, v)] ∧ ∀ nm, vaS nm [(35, v)] = v := by
  refine ⟨⟨fun q hq => ?_, fun nm st => rfl, fun d => rfl⟩, fun nm => rfl⟩
  simp at hq; subst hq; exact Or.inl rfl
theorem Gd_nm {k : Nat} (hk : k < 6) : Gd [(110, nI k)] ∧ ∀ nm, vaS nm [(110, nI k)] = nm k := by
  have e : (nI k).toInt = k := nI_toInt (by omega)
  have e2 : (nI k).toNatClampNeg = k := nI_clamp (by omega)
  refine ⟨⟨fun q hq => ?_, fun nm st => rfl, fun d => rfl⟩, fun nm => by show nm (nI k).toNatClampNeg = _; rw [e2]⟩
  simp at hq; subst hq; exact Or.inr (Or.inl ⟨rfl, by rw [e]; omega, by rw [e]; omega⟩)
theorem Gd_bin {a b : List LSt} {c : Nat} (ha : Gd a) (hb : Gd b) (hc : isB c = true) : Gd (a ++ b ++ [(c, 0)]) ∧ ∀ nm, vaS nm (a ++ b ++ [(c, 0)]) = jnS c (vaS nm a) (vaS nm b) := by
  have hn : c ≠ 35 ∧ c ≠ 110 ∧ c ≠ 126 ∧ c ≠ 33 := by
    unfold isB at hc
    simp only [Bool.or_eq_true, beq_iff_eq] at hc
    omega
  have key : ∀ nm st, exs nm (a ++ b ++ [(c, 0)]) st = jnS c (vaS nm a) (vaS nm b) :: st := by
    intro nm st
    rw [exs_app, exs_app, ha.2.1, hb.2.1]
    show ex1 nm (c, 0) _ = _
    unfold ex1
    rw [if_neg hn.1, if_neg hn.2.1, if_neg hn.2.2.1, if_neg hn.2.2.2]
  have kv : ∀ nm, vaS nm (a ++ b ++ [(c, 0)]) = jnS c (vaS nm a) (vaS nm b) := fun nm => by unfold vaS; rw [key]; rfl
  have kd : ∀ d, dps (a ++ b ++ [(c, 0)]) d = some (d + 1) := by
    intro d
    rw [dps_app, dps_app, ha.2.2, Option.bind_some, hb.2.2, Option.bind_some]
    show (dp1 (c, 0) (d + 1 + 1)).bind (dps []) = _
    unfold dp1
    rw [if_neg (by omega), if_neg (by omega), if_pos (by omega)]
    rfl
  refine ⟨⟨fun q hq => ?_, fun nm st => by rw [key, kv], kd⟩, kv⟩
  simp only [List.mem_append, List.mem_singleton] at hq
  rcases hq with (hq | hq) | rfl
  · exact ha.1 q hq
  · exact hb.1 q hq
  · exact Or.inr (Or.inr (Or.inr (Or.inr hc)))
theorem Gd_un {a : List LSt} {c : Nat} (ha : Gd a) (hc : c = 126 ∨ c = 33) : Gd (a ++ [(c, 0)]) ∧ ∀ nm, vaS nm (a ++ [(c, 0)]) = (if c = 126 then -vaS nm a else if vaS nm a = 0 then 1 else 0) := by
  have key : ∀ nm st, exs nm (a ++ [(c, 0)]) st = (if c = 126 then -vaS nm a else if vaS nm a = 0 then 1 else 0) :: st := by
    intro nm st
    rw [exs_app, ha.2.1]
    show ex1 nm (c, 0) _ = _
    rcases hc with rfl | rfl <;> rfl
  have kv : ∀ nm, vaS nm (a ++ [(c, 0)]) = (if c = 126 then -vaS nm a else if vaS nm a = 0 then 1 else 0) := fun nm => by unfold vaS; rw [key]; rfl
  have kd : ∀ d, dps (a ++ [(c, 0)]) d = some (d + 1) := by
    intro d
    rw [dps_app, ha.2.2, Option.bind_some]
    show (dp1 (c, 0) (d + 1)).bind (dps []) = _
    rcases hc with rfl | rfl <;> rfl
  refine ⟨⟨fun q hq => ?_, fun nm st => by rw [key, kv], kd⟩, kv⟩
  simp only [List.mem_append, List.mem_singleton] at hq
  rcases hq with hq | rfl
  · exact ha.1 q hq
  · rcases hc with h | h
    · exact Or.inr (Or.inr (Or.inl h))
    · exact Or.inr (Or.inr (Or.inr (Or.inl h)))
/-- what a parser keeps to -/
def PF (n : Nat) (P : Nat → LPR) : Prop := ∀ p, p ≤ n → (∀ f, P p = .inl f → f ≤ n) ∧ ∀ q, P p = .inr q → p < q.1 ∧ q.1 ≤ n ∧ p + q.2.length ≤ q.1 ∧ Gd q.2
section PARSE
variable {t : Nat → Nat} {n : Nat}
theorem cA_lt {p : Nat} (h : cA t n p < 256) : p < n := by
  unfold cA at h
  by_cases hp : p < n
  · exact hp
  · rw [if_neg hp] at h; omega
theorem isJ_lt {l c : Nat} (h : isJ l c = true) : c < 256 ∧ isB c = true := by
  unfold isJ at h
  repeat' split at h
  all_goals simp only [Bool.or_eq_true, beq_iff_eq] at h
  · subst h; decide
  · subst h; decide
  · rcases h with (rfl | rfl) | rfl <;> decide
  · rcases h with rfl | rfl <;> decide
  · rcases h with (rfl | rfl) | rfl <;> decide
theorem loopP_F {sub : Nat → LPR} {l : Nat} (hs : PF n sub) : ∀ (k p0 p : Nat) (s : List LSt), p0 < p → p ≤ n → p0 + s.length ≤ p → Gd s → (∀ f, loopP t n sub l k p s = .inl f → f ≤ n) ∧ ∀ q, loopP t n sub l k p s = .inr q → p0 < q.1 ∧ q.1 ≤ n ∧ p0 + q.2.length ≤ q.1 ∧ Gd q.2
  | 0, p0, p, s, h1, h2, h3, h4 => ⟨fun f h => by (unfold loopP at h; cases h), fun q h => by unfold loopP at h; cases h; exact ⟨h1, h2, h3, h4⟩⟩
  | k + 1, p0, p, s, h1, h2, h3, h4 => by
    unfold loopP
    by_cases hj : isJ l (cA t n p) = true
    · rw [if_pos hj]
      have hpn := cA_lt (isJ_lt hj).1
      obtain ⟨g1, g2⟩ := hs (p + 1) (by omega)
      cases e : sub (p + 1) with
      | inl f => exact ⟨fun f' h => by cases h; exact g1 f e, fun q h => by cases h⟩
      | inr q =>
        obtain ⟨a1, a2, a3, a4⟩ := g2 q e
        exact loopP_F hs k p0 q.1 _ (by omega) a2 (by simp; omega) (Gd_bin h4 a4 (isJ_lt hj).2).1
    · rw [if_neg hj]
      exact ⟨fun f h => by (cases h), fun q h => by cases h; exact ⟨h1, h2, h3, h4⟩⟩
theorem lvP_F {sub : Nat → LPR} {l most : Nat} (hs : PF n sub) : PF n (lvP t n sub l most) := by
  intro p hp
  obtain ⟨g1, g2⟩ := hs p hp
  unfold lvP
  cases e : sub p with
  | inl f => exact ⟨fun f' h => by cases h; exact g1 f e, fun q h => by cases h⟩
  | inr q =>
    obtain ⟨a1, a2, a3, a4⟩ := g2 q e
    exact loopP_F hs most p q.1 q.2 a1 a2 a3 a4
theorem EP_F {sub : Nat → LPR} (hs : PF n sub) : PF n (EP t n sub) := lvP_F (lvP_F (lvP_F (lvP_F (lvP_F hs))))
theorem numP_F : ∀ (k p : Nat) (v : Int32), p ≤ n → p ≤ (numP t n k p v).1 ∧ (numP t n k p v).1 ≤ n
  | 0, p, v, h => ⟨Nat.le_refl _, h⟩
  | k + 1, p, v, h => by
    unfold numP
    by_cases hd : isDg (cA t n p) = true
    · rw [if_pos hd]
      have : cA t n p < 256 := by unfold isDg at hd; simp at hd; omega
      have hp := cA_lt this
      have := numP_F k (p + 1) (10 * v + nI (cA t n p) - 48) (by omega)
      omega
    · rw [if_neg hd]; exact ⟨Nat.le_refl _, h⟩
theorem num4 {p : Nat} (hp : p ≤ n) (hd : isDg (cA t n p) = true) : p < (numP t n 4 p 0).1 ∧ (numP t n 4 p 0).1 ≤ n := by
  have h256 : cA t n p < 256 := by unfold isDg at hd; simp at hd; omega
  have hpn := cA_lt h256
  have key : numP t n 4 p 0 = numP t n 3 (p + 1) (10 * 0 + nI (cA t n p) - 48) := by
    show (if isDg (cA t n p) then numP t n 3 (p + 1) (10 * 0 + nI (cA t n p) - 48) else (p, 0)) = _
    rw [if_pos hd]
  rw [key]
  have := numP_F (t := t) (n := n) 3 (p + 1) (10 * 0 + nI (cA t n p) - 48) (by omega)
  omega
theorem nmX_lt {c : Nat} (h : nmX c < 6) : c < 256 := by
  unfold nmX at h
  repeat' split at h
  all_goals omega
theorem opP_F : ∀ o : Nat, PF n (opP t n o)
  | 0 => by
    intro p hp
    unfold opP
    by_cases hd : isDg (cA t n p) = true
    · rw [if_pos hd]
      have := num4 hp hd
      exact ⟨fun f h => by (cases h), fun q h => by cases h; exact ⟨this.1, this.2, by simp; omega, Gd_num.1⟩⟩
    · rw [if_neg hd]
      by_cases hm : nmX (cA t n p) < 6
      · rw [if_pos hm]
        have hpn := cA_lt (nmX_lt hm)
        exact ⟨fun f h => by (cases h), fun q h => by cases h; exact ⟨by simp, by simp; omega, by simp, (Gd_nm hm).1⟩⟩
      · rw [if_neg hm]; exact ⟨fun f h => by cases h; exact hp, fun q h => by cases h⟩
  | o + 1 => by
    intro p hp
    unfold opP
    by_cases hd : isDg (cA t n p) = true
    · rw [if_pos hd]
      have := num4 hp hd
      exact ⟨fun f h => by (cases h), fun q h => by cases h; exact ⟨this.1, this.2, by simp; omega, Gd_num.1⟩⟩
    · rw [if_neg hd]
      by_cases hm : nmX (cA t n p) < 6
      · rw [if_pos hm]
        have hpn := cA_lt (nmX_lt hm)
        exact ⟨fun f h => by (cases h), fun q h => by cases h; exact ⟨by simp, by simp; omega, by simp, (Gd_nm hm).1⟩⟩
      · rw [if_neg hm]
        by_cases h40 : cA t n p = 40
        · rw [if_pos h40]
          have hpn : p < n := cA_lt (t := t) (by omega)
          obtain ⟨g1, g2⟩ := EP_F (t := t) (opP_F o) (p + 1) (by omega)
          cases e : EP t n (opP t n o) (p + 1) with
          | inl f => exact ⟨fun f' h => by cases h; exact g1 f e, fun q h => by cases h⟩
          | inr q =>
            obtain ⟨a1, a2, a3, a4⟩ := g2 q e
            dsimp only
            by_cases h41 : cA t n q.1 = 41
            · rw [if_pos h41]
              have hqn : q.1 < n := cA_lt (t := t) (by omega)
              exact ⟨fun f h => by (cases h), fun r h => by cases h; exact ⟨by dsimp only; omega, by dsimp only; omega, by dsimp only; omega, a4⟩⟩
            · rw [if_neg h41]; exact ⟨fun f h => by cases h; exact a2, fun q h => by cases h⟩
        · rw [if_neg h40]
          by_cases hu : cA t n p = 33 ∨ cA t n p = 45
          · rw [if_pos hu]
            have hpn : p < n := cA_lt (t := t) (by omega)
            obtain ⟨g1, g2⟩ := opP_F o (p + 1) (by omega)
            cases e : opP t n o (p + 1) with
            | inl f => exact ⟨fun f' h => by cases h; exact g1 f e, fun q h => by cases h⟩
            | inr q =>
              obtain ⟨a1, a2, a3, a4⟩ := g2 q e
              refine ⟨fun f h => by (cases h), fun r h => ?_⟩
              cases h
              refine ⟨by dsimp only; omega, a2, by simp; omega, (Gd_un a4 (by split <;> simp)).1⟩
          · rw [if_neg hu]; exact ⟨fun f h => by cases h; exact hp, fun q h => by cases h⟩
theorem E6_F : PF n (EP t n (opP t n 6)) := EP_F (opP_F 6)
def flL1 (ln : LLn) : List LSt := match ln.1 with
  | none => ln.2 ++ [(59, 0)]
  | some c => c ++ ([(63, 0)] ++ (ln.2 ++ [(59, 0)]))
def flT : List LLn → List LSt
  | [] => []
  | ln :: r => flL1 ln ++ flT r
def GdL (ln : LLn) : Prop := Gd ln.2 ∧ ∀ c, ln.1 = some c → Gd c
theorem lineP_F {p : Nat} (hp : p ≤ n) : (∀ f, lineP t n p = .inl f → f ≤ n) ∧ ∀ q, lineP t n p = .inr q → p < q.1 ∧ q.1 ≤ n ∧ p + (flL1 q.2).length ≤ q.1 + 1 ∧ GdL q.2 := by
  obtain ⟨g1, g2⟩ := E6_F (t := t) p hp
  unfold lineP
  cases e : EP t n (opP t n 6) p with
  | inl f => exact ⟨fun f' h => by cases h; exact g1 f e, fun q h => by cases h⟩
  | inr q =>
    obtain ⟨a1, a2, a3, a4⟩ := g2 q e
    dsimp only
    by_cases h63 : cA t n q.1 = 63
    · rw [if_pos h63]
      have hqn : q.1 < n := cA_lt (t := t) (by omega)
      obtain ⟨g3, g4⟩ := E6_F (t := t) (n := n) (q.1 + 1) (by omega)
      cases e2 : EP t n (opP t n 6) (q.1 + 1) with
      | inl f => exact ⟨fun f' h => by cases h; exact g3 f e2, fun q h => by cases h⟩
      | inr r =>
        obtain ⟨b1, b2, b3, b4⟩ := g4 r e2
        refine ⟨fun f h => by (cases h), fun z h => ?_⟩
        cases h
        refine ⟨by dsimp only; omega, b2, by simp [flL1]; omega, b4, fun c hc => by cases hc; exact a4⟩
    · rw [if_neg h63]
      refine ⟨fun f h => by (cases h), fun z h => ?_⟩
      cases h
      exact ⟨a1, a2, by simp [flL1]; omega, a4, fun c hc => by cases hc⟩
theorem textP_F : ∀ (k p : Nat), p ≤ n → n + 1 < k + p → (∀ f, textP t n k p = .inl f → f ≤ n) ∧ ∀ ls, textP t n k p = .inr ls → (∀ ln ∈ ls, GdL ln) ∧ p + (flT ls).length ≤ n + 1
  | 0, p, h1, h2 => by omega
  | k + 1, p, h1, h2 => by
    obtain ⟨g1, g2⟩ := lineP_F (t := t) h1
    unfold textP
    cases e : lineP t n p with
    | inl f => exact ⟨fun f' h => by cases h; exact g1 f e, fun q h => by cases h⟩
    | inr q =>
      obtain ⟨a1, a2, a3, a4⟩ := g2 q e
      dsimp only
      by_cases h59 : cA t n q.1 = 59
      · rw [if_pos h59]
        have hqn : q.1 < n := cA_lt (t := t) (by omega)
        obtain ⟨g3, g4⟩ := textP_F k (q.1 + 1) (by omega) (by omega)
        cases e2 : textP t n k (q.1 + 1) with
        | inl f => exact ⟨fun f' h => by cases h; exact g3 f e2, fun q h => by cases h⟩
        | inr r =>
          obtain ⟨b1, b2⟩ := g4 r e2
          refine ⟨fun f h => by (cases h), fun z h => ?_⟩
          cases h
          refine ⟨fun ln hl => ?_, by simp [flT]; omega⟩
          rcases List.mem_cons.mp hl with rfl | hl
          · exact a4
          · exact b1 ln hl
      · rw [if_neg h59]
        by_cases hqn : q.1 < n
        · rw [if_pos hqn]; exact ⟨fun f h => by cases h; exact a2, fun q h => by cases h⟩
        · rw [if_neg hqn]
          refine ⟨fun f h => by (cases h), fun z h => ?_⟩
          cases h
          refine ⟨fun ln hl => ?_, by simp [flT]; omega⟩
          rcases List.mem_cons.mp hl with rfl | hl
          · exact a4
          · cases hl
end PARSE
/-- what the lines come to: the first that counts -/
def stL (nm : Nat → Int32) (st : Option Int32) (ln : LLn) : Option Int32 := match st with
  | some v => some v
  | none => match ln.1 with
    | none => some (vaS nm ln.2)
    | some c => if vaS nm c = 0 then none else some (vaS nm ln.2)
def evL (nm : Nat → Int32) (ls : List LLn) : Int32 := (ls.foldl (stL nm) none).getD 0
theorem stL_some (nm : Nat → Int32) (v : Int32) : ∀ ls : List LLn, ls.foldl (stL nm) (some v) = some v
  | [] => rfl
  | _ :: r => stL_some nm v r
theorem evL_cons (nm : Nat → Int32) (ln : LLn) (r : List LLn) : evL nm (ln :: r) = (match stL nm none ln with
    | some v => v
    | none => evL nm r) := by
  unfold evL
  rw [List.foldl_cons]
  cases h : stL nm none ln with
  | none => rfl
  | some v => rw [stL_some]; rfl
theorem exs_eq {a b : Nat → Int32} (h : ∀ k, k < 6 → a k = b k) : ∀ (s : List LSt) (st : List Int32), (∀ q ∈ s, okS q) → exs a s st = exs b s st
  | [], _, _ => rfl
  | q :: s, st, hs => by
    have hq := hs q (List.mem_cons_self)
    have e1 : ex1 a q st = ex1 b q st := by
      unfold ex1
      by_cases h35 : q.1 = 35
      · rw [if_pos h35, if_pos h35]
      · rw [if_neg h35, if_neg h35]
        by_cases h110 : q.1 = 110
        · rw [if_pos h110, if_pos h110]
          have : q.2.toNatClampNeg < 6 := by
            rcases hq with h | h | h | h | h
            · exact absurd h h35
            · rw [clampN]; omega
            · omega
            · omega
            · rw [h110] at h; exact absurd h (by decide)
          rw [h _ this]
        · rw [if_neg h110, if_neg h110]
    show exs a s (ex1 a q st) = exs b s (ex1 b q st)
    rw [e1]
    exact exs_eq h s _ (fun q hq => hs q (List.mem_cons_of_mem _ hq))
theorem evL_x {ls : List LLn} (hg : ∀ ln ∈ ls, GdL ln) : LFx (fun nm => evL nm ls) := by
  intro a b h
  show evL a ls = evL b ls
  induction ls with
  | nil => rfl
  | cons ln r ih =>
    have g := hg ln (List.mem_cons_self)
    have e2 : vaS a ln.2 = vaS b ln.2 := by unfold vaS; rw [exs_eq h _ _ g.1.1]
    rw [evL_cons, evL_cons, ih (fun l hl => hg l (List.mem_cons_of_mem _ hl))]
    have : stL a none ln = stL b none ln := by
      unfold stL
      cases hc : ln.1 with
      | none => simp only [e2]
      | some c =>
        have e3 : vaS a c = vaS b c := by unfold vaS; rw [exs_eq h _ _ (g.2 c hc).1]
        simp only [e2, e3]
    rw [this]
