/-! ===== constructors: more rules ===== -/
section KTOR2
variable {p : Program} {l : Launch} {e : Env} {R : Room} {s : State} {m : MethodId} {args : Array Value} {below : List Frame} {meth : Method} {c : Code} {H : Heap} {locs : List Loc} {Q : State → Prop} {cells slots : Nat}
variable {cc : ByteArray} {own : String} {n : Nat} {pc : Nat} {ls : Array Slot} {rest : List Value} {D : va_G} {ca : Nat → ClassId} {A : Nat → Prop} {ws : va_W}
theorem kGe {ci idx NN a : Nat} {T : u_T} {fs : List Value} {v : Value} (C : Cy D ca p s m args meth c cc own n) (hH : Hy D A s ws H locs) (hin : ∀ w ∈ u_ws own T NN, w ∈ wdT) (q0 : Nat) (he : ws[q0]? = some (a, .inr (ci, fs))) (hc : vwCl[ci]? = some (own, T, NN)) (k : Nat) (hk : k < NN) (hl : Cond.fieldLink own idx (T k).1 (T k).2.1 (T k).2.2.1 ∈ wdT) (hv : fs[k]? = some v) (hdg : decode cc pc = .ok (.getfield idx, 3))
    (kk : W p l e R s m args below meth c H locs cells slots Q (F0 m (pc + 3) ls (v :: rest))) : W p l e R s m args below meth c H locs cells slots Q (F0 m pc ls (.ref a :: rest)) := by
  obtain ⟨hx, hb, hr, hml, hown, hts, hlk, hK, -⟩ := C
  exact va_get (v := v) hx hb hts hin hown hK hH.1 q0 he hc k hk (hts _ hl) (fun _ h => h) hv hdg kk
theorem kAs {a k : Nat} {f : Nat → Int32} {i x : Int32} (C : Cy D ca p s m args meth c cc own n) (hH : Hy D A s ws H locs) (q0 : Nat) (he : ws[q0]? = some (a, .inl (ca 0, k, .inl f))) (hin : vp_in i k) (hdg : decode cc pc = .ok (.iastore, 1))
    (kk : ∀ (H1 : Heap) (locs1 : List Loc), Hy D A s (ws.set q0 (a, .inl (ca 0, k, .inl (upd f i.toNatClampNeg x)))) H1 locs1 → W p l e R s m args below meth c H1 locs1 cells slots Q (F0 m (pc + 1) ls rest)) : W p l e R s m args below meth c H locs cells slots Q (F0 m pc ls (.int x :: .int i :: .ref a :: rest)) := by
  obtain ⟨hx, hb, hr, hml, hown, hts, hlk, hK, -⟩ := C
  obtain ⟨hP, hD, hS⟩ := hH
  exact va_iast hx hb hK hP hD hS q0 0 he rfl hin hdg (fun H1 l1 h1 h2 h3 => kk H1 l1 ⟨h1, h2, h3⟩)
theorem kAg {a k v : Nat} {f : Nat → Option Nat} {i : Int32} (C : Cy D ca p s m args meth c cc own n) (hH : Hy D A s ws H locs) (q0 : Nat) (he : ws[q0]? = some (a, .inl (ca 5, k, .inr (.inr (.inr (.inr f)))))) (hin : vp_in i k) (hv : f i.toNatClampNeg = some v) (hdg : decode cc pc = .ok (.aaload, 1))
    (kk : W p l e R s m args below meth c H locs cells slots Q (F0 m (pc + 1) ls (.ref v :: rest))) : W p l e R s m args below meth c H locs cells slots Q (F0 m pc ls (.int i :: .ref a :: rest)) := by
  obtain ⟨hx, hb, hr, hml, hown, hts, hlk, hK, -⟩ := C
  have hlt : i.toNatClampNeg < k := Nat.not_le.mp fun q => hin (Or.inr q)
  exact W.aald (v := .ref v) (ty := .array .int) hx hb (hH.1 q0 _ he) ((hK.2 5 (ca 5, .array .int) rfl).1 k (fun j => va_rf (f j))) rfl (fun q => by cases q) (by show ¬ (i < 0 ∨ (arrV _ _ _).slots.size ≤ _); rw [arrV_size]; exact hin) (by show (arrV _ _ _).slots[_]? = _; rw [arrV_read _ _ hlt, hv]; rfl) rfl rfl hdg kk
theorem kAn {idx N' : Nat} {x : Int32} (C : Cy D ca p s m args meth c cc own n) (hA : ∀ q : Nat, s.heap.size ≤ q → A q) (hH : Hy D A s ws H locs) (f1 : Cond.classLink own idx RX8 ∈ wdT) (hn : ¬ x < 0) (hN : x.toNatClampNeg = N') (hbytes : N' * 4 ≤ 536870912) (hcells : cells + 1 ≤ R.cells) (hslots : slots + N' ≤ R.slots) (hdg : decode cc pc = .ok (.anewarray idx, 3))
    (kk : ∀ (q : Nat) (H1 : Heap), Hy D A s (ws ++ [(q, .inl (ca 4, N', .inr (.inr (.inr (.inr (fun _ => none))))))]) H1 locs → W p l e R s m args below meth c H1 locs (cells + 1) (slots + N') Q (F0 m (pc + 3) ls (.ref q :: rest))) : W p l e R s m args below meth c H locs cells slots Q (F0 m pc ls (.int x :: rest)) := by
  obtain ⟨hx, hb, hr, hml, hown, hts, hlk, hK, -, hN8⟩ := C
  obtain ⟨hP, hD, hS⟩ := hH
  refine va_newq hx hb hown (hts _ f1) hN8.2.2.2.2.2.2.1 hK hP hD hS hA hn hN hbytes hcells hslots hdg (fun q cA H1 hK1 hP1 hD1 hS1 => ?_)
  obtain ⟨k1, c1, -, -, -, z1⟩ := (hK1.2 6 (cA, .object RX8) rfl).2
  obtain ⟨k2, c2, -, -, -, z2⟩ := (hK.2 4 (ca 4, .object RX8) rfl).2
  have e : cA = ca 4 := Option.some.inj (z1.symm.trans z2)
  subst e
  exact kk q H1 ⟨hP1, hD1, hS1⟩
theorem kAq {a k v : Nat} {vs : List Value} {f : Nat → Option Nat} {i : Int32} (C : Cy D ca p s m args meth c cc own n) (hH : Hy D A s ws H locs) (q0 qk : Nat) (he : ws[q0]? = some (a, .inl (ca 4, k, .inr (.inr (.inr (.inr f)))))) (hv : ws[qk]? = some (v, .inr (8, vs))) (hin : vp_in i k) (hdg : decode cc pc = .ok (.aastore, 1))
    (kk : ∀ (H1 : Heap) (locs1 : List Loc), Hy D A s (ws.set q0 (a, .inl (ca 4, k, .inr (.inr (.inr (.inr (va_up f i.toNatClampNeg (some v)))))))) H1 locs1 → W p l e R s m args below meth c H1 locs1 cells slots Q (F0 m (pc + 1) ls rest)) : W p l e R s m args below meth c H locs cells slots Q (F0 m pc ls (.ref v :: .int i :: .ref a :: rest)) := by
  obtain ⟨hx, hb, hr, hml, hown, hts, hlk, hK, -⟩ := C
  obtain ⟨hP, hD, hS⟩ := hH
  exact va_astq (r := (RX8, TX8, 5)) hx hb hK hP hD hS q0 4 qk 8 he rfl hv rfl hin hdg (fun H1 l1 h1 h2 h3 => kk H1 l1 ⟨h1, h2, h3⟩)
theorem outer_sl (c : ClassId) (N h0 : Nat) : ∀ i, ∃ sl, Jvm.Free.Multi.outerC c N h0 i = { cls := c, slots := sl, vm := .none }
  | 0 => ⟨_, rfl⟩
  | i + 1 => by
    obtain ⟨sl, h⟩ := outer_sl c N h0 i
    refine ⟨sl.setIfInBounds i (.ref (h0 + 1 + i)), ?_⟩
    show (Jvm.Free.Multi.outerC c N h0 i).setSlot i (.ref (h0 + 1 + i)) = _
    rw [h]; rfl
theorem outer_arr (c : ClassId) (N h0 : Nat) : Jvm.Free.Multi.outerC c N h0 N = arrV c N (fun j => va_rf (if j < N then some (h0 + 1 + j) else none)) := by
  obtain ⟨sl, h⟩ := outer_sl c N h0 N
  have h1 := (Jvm.Free.Multi.outerC_facts c N h0 N).2.2
  have h2 := Jvm.Free.Multi.outerC_slot c N h0 N
  rw [h] at h1 h2 ⊢
  have e : sl = (arrV c N (fun j => va_rf (if j < N then some (h0 + 1 + j) else none))).slots := by
    apply Array.ext_getElem?
    intro j
    by_cases hj : j < N
    · rw [arrV_read c _ hj, if_pos hj]
      have := h2 j hj
      rw [if_pos hj] at this
      exact this
    · rw [Array.getElem?_eq_none (by show sl.size ≤ j; have : sl.size = N := h1; omega), Array.getElem?_eq_none (by rw [arrV_size]; omega)]
  rw [e]; rfl
/-- the rows of a new array of arrays -/
def mulW (ca : Nat → ClassId) (q N M : Nat) : va_W := (q, .inl (ca 5, N, .inr (.inr (.inr (.inr (fun i => if i < N then some (q + 1 + i) else none)))))) :: (List.range N).map (fun i => (q + 1 + i, .inl (ca 0, M, .inl (fun _ => 0))))
theorem mulW_a {q N M k : Nat} {x : Nat × va_E} (h : (mulW ca q N M)[k]? = some x) : x.1 = q + k := by
  unfold mulW at h
  cases k with
  | zero => rw [List.getElem?_cons_zero] at h; cases h; rfl
  | succ k =>
    rw [List.getElem?_cons_succ, List.getElem?_map] at h
    by_cases hk : k < N
    · rw [List.getElem?_range hk] at h
      cases h
      show q + 1 + k = q + (k + 1); omega
    · rw [List.getElem?_eq_none (by rw [List.length_range]; omega)] at h
      cases h
theorem kMul {idx N M : Nat} {x y : Int32} (C : Cy D ca p s m args meth c cc own n) (hA : ∀ q : Nat, s.heap.size ≤ q → A q) (hH : Hy D A s ws H locs) (hl : Cond.classLink own idx "[[I" ∈ wdT) (harr : Cond.arrayClass .int ∈ wdT) (hx0 : ¬ x < 0) (hxN : x.toNatClampNeg = N) (hy0 : ¬ y < 0) (hyM : y.toNatClampNeg = M) (hb1 : N * 4 ≤ 536870912) (hb2 : M * 4 ≤ 536870912) (hcells : cells + (1 + N) ≤ R.cells) (hslots : slots + (N + N * M) ≤ R.slots) (hdg : decode cc pc = .ok (.multianewarray idx 2, 4))
    (kk : ∀ (q : Nat) (H1 : Heap), Hy D A s (ws ++ mulW ca q N M) H1 locs → W p l e R s m args below meth c H1 locs (cells + 1 + N) (slots + N + N * M) Q (F0 m (pc + 4) ls (.ref q :: rest))) : W p l e R s m args below meth c H locs cells slots Q (F0 m pc ls (.int y :: .int x :: rest)) := by
  obtain ⟨hx, hb, hr, hml, hown, hts, hlk, hK, -, hN8⟩ := C
  obtain ⟨hP, hD, hS⟩ := hH
  subst hxN; subst hyM
  intro T hT X
  obtain ⟨vm₁, cA, comp, hW, hfA, hfC, hO, hI, X1, step⟩ := X.multianewarray2F (ty := .int) (g := F0 m pc ls (.int y :: .int x :: rest)) hx hown (hts _ hl) hN8.2.2.2.2.2.2.2 (hts _ harr) rfl (by rw [hb]; exact hdg) rfl hx0 hy0 hb1 hb2 (by omega) rfl rfl hcells hslots
  have z5 : s.vm.findClass ("[" ++ (FieldType.array .int).toString) = some (ca 5) := (hK.2 5 (ca 5, .array .int) rfl).2
  have z0 : s.vm.findClass (FieldType.array .int).toString = some (ca 0) := (hK.2 0 (ca 0, .int) rfl).2
  have e5 : cA = ca 5 := Option.some.inj (hfA.symm.trans z5)
  have e0 : comp = ca 0 := Option.some.inj (hfC.symm.trans z0)
  subst e5; subst e0
  obtain ⟨f1, f2, f3, f4⟩ := Jvm.Free.Multi.fill_facts (T.setVm vm₁) (ca 5) (ca 0) x.toNatClampNeg y.toNatClampNeg (defaultValue .int) x.toNatClampNeg
  have fo := fun (a : Addr) (ha : a < T.heap.size) => Jvm.Free.Multi.fill_old (T.setVm vm₁) (ca 5) (ca 0) x.toNatClampNeg y.toNatClampNeg (defaultValue .int) (a := a) ha x.toNatClampNeg
  have fi := fun (j : Nat) (hj : j < x.toNatClampNeg) => Jvm.Free.Multi.fill_inner (T.setVm vm₁) (ca 5) (ca 0) x.toNatClampNeg y.toNatClampNeg (defaultValue .int) x.toNatClampNeg j hj
  generalize Jvm.Free.Multi.fill (T.setVm vm₁) (ca 5) (ca 0) x.toNatClampNeg y.toNatClampNeg (defaultValue .int) x.toNatClampNeg = T2 at f1 f2 f3 f4 fo fi X1 step
  have hsz : (T.setVm vm₁).heap.size = H.size := by rw [← hT]; rfl
  have hth : (T.setVm vm₁).heap = H := by rw [← hT]; rfl
  rw [hsz] at f1 f2
  have fo' : ∀ q : Nat, q < H.size → T2.heap[q]? = H[q]? := fun q hq => by rw [fo q (by rw [hT]; exact hq), hth]
  have fi' : ∀ j : Nat, j < x.toNatClampNeg → T2.heap[H.size + 1 + j]? = some (Jvm.Free.Multi.innerC (ca 0) y.toNatClampNeg (defaultValue .int)) := fun j hj => by
    have := fi j hj
    rw [hsz] at this
    exact this
  have hk : ∀ (k : Nat) (q : Nat × va_E), ws[k]? = some q → T2.heap[q.1]? = H[q.1]? := fun k q hq => fo' q.1 ((hP k q hq).lt)
  have hPn : va_P D vwCl (mulW ca H.size x.toNatClampNeg y.toNatClampNeg) T2.heap := fun k q hq => by
    unfold mulW at hq
    cases k with
    | zero =>
      rw [List.getElem?_cons_zero] at hq
      cases hq
      show T2.heap[H.size]? = some (vp_cell _ _)
      rw [f2, outer_arr]; rfl
    | succ k =>
      rw [List.getElem?_cons_succ, List.getElem?_map] at hq
      by_cases hkN : k < x.toNatClampNeg
      · rw [List.getElem?_range hkN] at hq
        cases hq
        show T2.heap[H.size + 1 + k]? = some (vp_cell _ _)
        rw [fi' k hkN]
        exact congrArg some (arrV_new (ca 0) _ _)
      · rw [List.getElem?_eq_none (by rw [List.length_range]; omega)] at hq
        cases hq
  have hDn : va_D A (mulW ca H.size x.toNatClampNeg y.toNatClampNeg) := ⟨fun i j p q hi hj hpq => by
    have := mulW_a hi
    have := mulW_a hj
    omega, fun k q hq => hA _ (by have := mulW_a hq; have := hS.1; omega)⟩
  have hDa : va_D A (ws ++ mulW ca H.size x.toNatClampNeg y.toNatClampNeg) := va_D.app hD hDn (fun i j p q hi hj hpq => by
    have := (hP i p hi).lt
    have := mulW_a hj
    omega)
  obtain ⟨t, a1, b1⟩ := kk H.size T2.heap ⟨(hP.kept hk).app hPn, hDa, Nat.le_trans hS.1 (by rw [f1]; omega), fun q h1 h2 => (fo' q (Nat.lt_of_lt_of_le h1 hS.1)).trans (hS.2.1 q h1 h2), hS.2.2⟩ T2 rfl X1
  rw [hT] at step
  exact ⟨t, step t a1, b1⟩
end KTOR2
