/-! ===== the memory behind the constructors ===== -/
def f10 : Nat → Int32 := upd (upd (upd (upd (upd (upd (fun _ => 0) (Int32.toNatClampNeg 0) (10 * 0)) (Int32.toNatClampNeg 1) (10 * 1)) (Int32.toNatClampNeg 2) (10 * 2)) (Int32.toNatClampNeg 3) (10 * 3)) (Int32.toNatClampNeg 4) (10 * 4)) (Int32.toNatClampNeg 5) (10 * 5)
def fneg : Nat → Int32 := upd (upd (upd (upd (upd (upd (fun _ => 0) (Int32.toNatClampNeg 0) (-1)) (Int32.toNatClampNeg 1) (-1)) (Int32.toNatClampNeg 2) (-1)) (Int32.toNatClampNeg 3) (-1)) (Int32.toNatClampNeg 4) (-1)) (Int32.toNatClampNeg 5) (-1)
def mm0 : Mm := (fun o k => if o = 3 ∨ o = 59 then f10 k else if o = 79 then fneg k else if o = 58 ∧ k = 13 then -1 else 0, fun _ _ => 0, fun o k => if o = 1 ∧ k = 4 then 50 else if o = 15 ∧ k = 1 then 54 else 0)
theorem m0_0 {o k : Nat} (h1 : ¬ o = 3) (h2 : ¬ o = 59) (h3 : ¬ o = 79) (h4 : ¬ (o = 58 ∧ k = 13)) : gI mm0 o k = 0 := by
  show (if o = 3 ∨ o = 59 then f10 k else if o = 79 then fneg k else if o = 58 ∧ k = 13 then -1 else 0) = 0
  rw [if_neg (by omega), if_neg h3, if_neg h4]
theorem f10_hi {k : Nat} (h : 6 ≤ k) : f10 k = 0 := by
  have e : ∀ x : Nat, x < 6 → ¬ k = x := fun x hx => by omega
  unfold f10 upd
  simp [Int32.toNatClampNeg, e]
theorem mm0_J : JJ mm0 := by
  have z0 : (0 : Int32).toInt = 0 := rfl
  have e59 : ∀ k, gI mm0 59 k = f10 k := fun k => rfl
  have e3 : ∀ k, gI mm0 3 k = f10 k := fun k => rfl
  refine ⟨0, 0, 0, 0, fun _ => 0, none, ⟨⟨⟨by omega, by omega, rfl, rfl, rfl, rfl⟩, ?_, ?_, ?_, ?_⟩, ?_, rfl, ?_⟩, ⟨⟨by omega, rfl, rfl, ?_⟩, Or.inl ⟨rfl, rfl⟩⟩, ⟨0, 0, Nat.le_refl _, by omega, rfl, rfl, rfl, rfl, fun i hi => absurd hi (by omega)⟩, ⟨fun k _ => rfl, Or.inl ⟨rfl, rfl⟩⟩, ⟨by omega, rfl, rfl, fun k hk => absurd hk (by omega), rfl, ?_, ?_⟩⟩
  · intro w g hw hg
    rcases (by omega : w = 0 ∨ 0 < w) with e | e
    · subst e
      rw [show 6 * 0 + g = g by omega, e59, show 3 + 0 = 3 by omega, e3]
      rcases (by omega : g = 0 ∨ g = 1 ∨ g = 2 ∨ g = 3 ∨ g = 4 ∨ g = 5) with e | e | e | e | e | e <;> subst e <;> exact ⟨rfl, by decide, by decide, fun z => absurd z (by omega)⟩
    · rw [e59, f10_hi (by omega), m0_0 (o := 3 + w) (by omega) (by omega) (by omega) (by omega)]
      exact ⟨rfl, by decide, by decide, fun _ => by decide⟩
  · intro k hk; omega
  · intro k _ hk; exact rfl
  · intro k hk; omega
  · exact ⟨Or.inl rfl, by decide⟩
  · refine ⟨by omega, fun d hd => Or.inl ⟨m0_0 (o := 38 + d) (by omega) (by omega) (by omega) (by omega), ?_⟩⟩
    rcases (by omega : d = 0 ∨ d = 1 ∨ d = 2 ∨ d = 3 ∨ d = 4 ∨ d = 5) with e | e | e | e | e | e <;> subst e <;> rfl
  · intro p hp; omega
  · exact Int.le_refl _
  · intro k _ hk
    exact absurd hk (by show ¬ (k : Int) < (0 : Int32).toInt; rw [z0]; omega)
