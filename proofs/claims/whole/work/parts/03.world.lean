/-! ===== the pure memory of a system whose objects are made once: ints, longs, references by object number and place ===== -/
abbrev Mm : Type := (Nat → Nat → Int32) × (Nat → Nat → Int64) × (Nat → Nat → Nat)
def gI (m : Mm) (o k : Nat) : Int32 := m.1 o k
def gL (m : Mm) (o k : Nat) : Int64 := m.2.1 o k
def gR (m : Mm) (o k : Nat) : Nat := m.2.2 o k
def sI (m : Mm) (o k : Nat) (v : Int32) : Mm := (fun a b => if a = o ∧ b = k then v else m.1 a b, m.2)
def sL (m : Mm) (o k : Nat) (v : Int64) : Mm := (m.1, fun a b => if a = o ∧ b = k then v else m.2.1 a b, m.2.2)
def sR (m : Mm) (o k : Nat) (v : Nat) : Mm := (m.1, m.2.1, fun a b => if a = o ∧ b = k then v else m.2.2 a b)
def rI (m : Mm) (o : Nat) (f : Nat → Int32) : Mm := (fun a b => if a = o then f b else m.1 a b, m.2)
def rL (m : Mm) (o : Nat) (f : Nat → Int64) : Mm := (m.1, fun a b => if a = o then f b else m.2.1 a b, m.2.2)
abbrev Shp : Type := (Nat × List (Nat × Nat)) ⊕ (Nat × Nat × Nat)
def fvOf (ad : Nat → Nat) (m : Mm) (o j : Nat) (t : Nat × Nat) : Value :=
  if t.1 = 0 then .int (m.1 o j) else if t.1 = 1 then .long (m.2.1 o j) else if t.1 = 2 then .ref (ad t.2) else .ref (ad (m.2.2 o j))
def avOf (ad : Nat → Nat) (m : Mm) (o k n b : Nat) : vp_A :=
  (n, if k < 3 then .inl (m.1 o) else if k = 3 then .inr (.inl (m.2.1 o)) else .inr (.inr (.inr (.inr (fun i => if i < n then some (ad (b + i)) else none)))))
def flOf (ad : Nat → Nat) (m : Mm) (o : Nat) (ts : List (Nat × Nat)) : List Value := (List.range ts.length).map (fun j => fvOf ad m o j (ts.getD j (0, 0)))
def ceOf (ad : Nat → Nat) (ca : Nat → ClassId) (sh : Nat → Shp) (m : Mm) (o : Nat) : va_E := match sh o with
  | .inl q => .inr (q.1, flOf ad m o q.2)
  | .inr q => .inl (ca q.1, avOf ad m o q.1 q.2.1 q.2.2)
def wld (N : Nat) (ad : Nat → Nat) (ca : Nat → ClassId) (sh : Nat → Shp) (m : Mm) : va_W := (List.range N).map (fun o => (ad o, ceOf ad ca sh m o))
section WLD
variable {N : Nat} {ad : Nat → Nat} {ca : Nat → ClassId} {sh : Nat → Shp} {m m' : Mm} {o k : Nat}
theorem wld_get (ho : o < N) : (wld N ad ca sh m)[o]? = some (ad o, ceOf ad ca sh m o) := by
  simp [wld, ho]
theorem wld_set {e : va_E} (ho : o < N) (he : ceOf ad ca sh m' o = e) (hne : ∀ a, a ≠ o → ceOf ad ca sh m' a = ceOf ad ca sh m a) : (wld N ad ca sh m).set o (ad o, e) = wld N ad ca sh m' := by
  apply List.ext_getElem?
  intro i
  by_cases hi : i = o
  · subst hi
    rw [List.getElem?_set_self (by simp [wld, ho]), wld_get ho, he]
  · rw [List.getElem?_set_ne (Ne.symm hi)]
    by_cases hN : i < N
    · rw [wld_get hN, wld_get hN, hne i hi]
    · simp [wld, hN]
theorem ce_o {ci : Nat} {ts : List (Nat × Nat)} (hs : sh o = .inl (ci, ts)) : ceOf ad ca sh m o = .inr (ci, flOf ad m o ts) := by
  unfold ceOf; rw [hs]
theorem ce_a {q n b : Nat} (hs : sh o = .inr (q, n, b)) : ceOf ad ca sh m o = .inl (ca q, avOf ad m o q n b) := by
  unfold ceOf; rw [hs]
theorem fl_get {ts : List (Nat × Nat)} (hk : k < ts.length) : (flOf ad m o ts)[k]? = some (fvOf ad m o k (ts.getD k (0, 0))) := by
  simp [flOf, hk]
theorem fl_len {ts : List (Nat × Nat)} : (flOf ad m o ts).length = ts.length := by simp [flOf]
theorem fl_set {ts : List (Nat × Nat)} {v : Value} (hk : k < ts.length) (h1 : fvOf ad m' o k (ts.getD k (0, 0)) = v) (h2 : ∀ j, j ≠ k → ∀ t, fvOf ad m' o j t = fvOf ad m o j t) : (flOf ad m o ts).set k v = flOf ad m' o ts := by
  apply List.ext_getElem?
  intro i
  by_cases hi : i = k
  · subst hi
    rw [List.getElem?_set_self (by rw [fl_len]; exact hk), fl_get hk, h1]
  · rw [List.getElem?_set_ne (Ne.symm hi)]
    by_cases hN : i < ts.length
    · rw [fl_get hN, fl_get hN, h2 i hi]
    · simp [flOf, hN]
theorem ce_ne (h : ∀ a, a ≠ o → (∀ j, m'.1 a j = m.1 a j) ∧ (∀ j, m'.2.1 a j = m.2.1 a j) ∧ ∀ j, m'.2.2 a j = m.2.2 a j) : ∀ a, a ≠ o → ceOf ad ca sh m' a = ceOf ad ca sh m a := by
  intro a ha
  obtain ⟨h1, h2, h3⟩ := h a ha
  have e1 : m'.1 a = m.1 a := funext h1
  have e2 : m'.2.1 a = m.2.1 a := funext h2
  have e3 : m'.2.2 a = m.2.2 a := funext h3
  unfold ceOf
  cases sh a with
  | inl q => simp only [flOf, fvOf, e1, e2, e3]
  | inr q => simp only [avOf, e1, e2]
theorem sI_ne (v : Int32) : ∀ a, a ≠ o → (∀ j, (sI m o k v).1 a j = m.1 a j) ∧ (∀ j, (sI m o k v).2.1 a j = m.2.1 a j) ∧ ∀ j, (sI m o k v).2.2 a j = m.2.2 a j := fun a h => ⟨fun j => by simp [sI, h], fun _ => rfl, fun _ => rfl⟩
theorem sL_ne (v : Int64) : ∀ a, a ≠ o → (∀ j, (sL m o k v).1 a j = m.1 a j) ∧ (∀ j, (sL m o k v).2.1 a j = m.2.1 a j) ∧ ∀ j, (sL m o k v).2.2 a j = m.2.2 a j := fun a h => ⟨fun _ => rfl, fun j => by simp [sL, h], fun _ => rfl⟩
theorem sR_ne (v : Nat) : ∀ a, a ≠ o → (∀ j, (sR m o k v).1 a j = m.1 a j) ∧ (∀ j, (sR m o k v).2.1 a j = m.2.1 a j) ∧ ∀ j, (sR m o k v).2.2 a j = m.2.2 a j := fun a h => ⟨fun _ => rfl, fun _ => rfl, fun j => by simp [sR, h]⟩
theorem rI_ne (f : Nat → Int32) : ∀ a, a ≠ o → (∀ j, (rI m o f).1 a j = m.1 a j) ∧ (∀ j, (rI m o f).2.1 a j = m.2.1 a j) ∧ ∀ j, (rI m o f).2.2 a j = m.2.2 a j := fun a h => ⟨fun j => by simp [rI, h], fun _ => rfl, fun _ => rfl⟩
theorem rL_ne (f : Nat → Int64) : ∀ a, a ≠ o → (∀ j, (rL m o f).1 a j = m.1 a j) ∧ (∀ j, (rL m o f).2.1 a j = m.2.1 a j) ∧ ∀ j, (rL m o f).2.2 a j = m.2.2 a j := fun a h => ⟨fun _ => rfl, fun j => by simp [rL, h], fun _ => rfl⟩
theorem wld_sI {ci : Nat} {ts : List (Nat × Nat)} {v : Int32} (ho : o < N) (hs : sh o = .inl (ci, ts)) (hk : k < ts.length) (ht : (ts.getD k (0, 0)).1 = 0) : (wld N ad ca sh m).set o (ad o, .inr (ci, (flOf ad m o ts).set k (.int v))) = wld N ad ca sh (sI m o k v) := by
  refine wld_set ho ?_ (ce_ne (sI_ne v))
  rw [ce_o hs, fl_set (m' := sI m o k v) hk]
  · unfold fvOf; rw [if_pos ht]; simp [sI]
  · intro j hj t
    simp [fvOf, sI, hj]
theorem wld_sR {ci : Nat} {ts : List (Nat × Nat)} {v : Nat} (ho : o < N) (hs : sh o = .inl (ci, ts)) (hk : k < ts.length) (ht : (ts.getD k (0, 0)).1 = 3) : (wld N ad ca sh m).set o (ad o, .inr (ci, (flOf ad m o ts).set k (.ref (ad v)))) = wld N ad ca sh (sR m o k v) := by
  refine wld_set ho ?_ (ce_ne (sR_ne v))
  rw [ce_o hs, fl_set (m' := sR m o k v) hk]
  · unfold fvOf; rw [if_neg (by rw [ht]; decide), if_neg (by rw [ht]; decide), if_neg (by rw [ht]; decide)]; simp [sR]
  · intro j hj t
    simp [fvOf, sR, hj]
theorem av_I {q n b : Nat} (hq : q < 3) : avOf ad m o q n b = (n, .inl (m.1 o)) := by unfold avOf; rw [if_pos hq]
theorem av_L {n b : Nat} : avOf ad m o 3 n b = (n, .inr (.inl (m.2.1 o))) := by unfold avOf; rw [if_neg (by decide), if_pos rfl]
theorem av_R {q n b : Nat} (hq : 3 < q) : avOf ad m o q n b = (n, .inr (.inr (.inr (.inr (fun i => if i < n then some (ad (b + i)) else none))))) := by unfold avOf; rw [if_neg (by omega), if_neg (by omega)]
theorem wld_aI {q n b : Nat} {f : Nat → Int32} (ho : o < N) (hs : sh o = .inr (q, n, b)) (hq : q < 3) (hf : ∀ j, m'.1 o j = f j) (hne : ∀ a, a ≠ o → (∀ j, m'.1 a j = m.1 a j) ∧ (∀ j, m'.2.1 a j = m.2.1 a j) ∧ ∀ j, m'.2.2 a j = m.2.2 a j) : (wld N ad ca sh m).set o (ad o, .inl (ca q, n, .inl f)) = wld N ad ca sh m' := by
  refine wld_set ho ?_ (ce_ne hne)
  rw [ce_a hs, av_I hq, show m'.1 o = f from funext hf]
theorem wld_aL {n b : Nat} {f : Nat → Int64} (ho : o < N) (hs : sh o = .inr (3, n, b)) (hf : ∀ j, m'.2.1 o j = f j) (hne : ∀ a, a ≠ o → (∀ j, m'.1 a j = m.1 a j) ∧ (∀ j, m'.2.1 a j = m.2.1 a j) ∧ ∀ j, m'.2.2 a j = m.2.2 a j) : (wld N ad ca sh m).set o (ad o, .inl (ca 3, n, .inr (.inl f))) = wld N ad ca sh m' := by
  refine wld_set ho ?_ (ce_ne hne)
  rw [ce_a hs, av_L, show m'.2.1 o = f from funext hf]
/-- the addresses are the same whatever the memory -/
theorem wld_D {A : Nat → Prop} (h : va_D A (wld N ad ca sh m)) : va_D A (wld N ad ca sh m') := by
  have key : ∀ (k : Nat) (q : Nat × va_E), (wld N ad ca sh m')[k]? = some q → ∃ e, (wld N ad ca sh m)[k]? = some (q.1, e) := by
    intro k q hq
    by_cases hk : k < N
    · rw [wld_get hk] at hq
      cases hq
      exact ⟨_, wld_get hk⟩
    · simp [wld, hk] at hq
  refine ⟨fun i j x y hi hj hxy => ?_, fun k q hk => ?_⟩
  · obtain ⟨e1, h1⟩ := key i x hi
    obtain ⟨e2, h2⟩ := key j y hj
    exact h.1 i j _ _ h1 h2 hxy
  · obtain ⟨e1, h1⟩ := key k q hk
    exact h.2 k (q.1, e1) h1
end WLD
def tyA (ca : Nat → ClassId) : List (ClassId × FieldType) := [(ca 0, .int), (ca 1, .char), (ca 2, .boolean), (ca 3, .long), (ca 4, .object "BlindSacks$Shelf"), (ca 5, .array .int)]
def Hx (N : Nat) (ad : Nat → Nat) (ca : Nat → ClassId) (sh : Nat → Shp) (D : va_G) (A : Nat → Prop) (H0 : Heap) (m : Mm) (H : Heap) (locs : List Loc) : Prop := va_P D vwCl (wld N ad ca sh m) H ∧ va_D A (wld N ad ca sh m) ∧ va_S A H0 H locs
