/-! ===== statics, the ambient facts, contracts ===== -/
def tbLEAST (k : Nat) : Int32 := ([0, 0, 0, 0, 0, 0, 0, 0, 1] : List Int32).getD k 0
def tbMOST (k : Nat) : Int32 := ([99, 3, 3, 3, 5, 99, 999, 6, 11] : List Int32).getD k 0
def tbABOVE (k : Nat) : Int32 := ([-1, 0, 0, 2, 1, 3, 0, 4] : List Int32).getD k 0
def tbOWN (k : Nat) : Int32 := ([1, 10, 11, 2, 20, 0, 0, 0, 0, 30, 0, 0, 0, 41, 40, 0, 0, 0, 50, 0, 0, 0, 0, 60, 70, 0, 0, 0, 0, 80, 0, 81] : List Int32).getD k 0
def tbPLACES (k : Nat) : Int32 := ([161051, 14641, 1331, 121, 11, 1] : List Int32).getD k 0
def tbNAMES (k : Nat) : Int32 := ([112, 119, 97, 115, 103, 98] : List Int32).getD k 0
def StT (C n : String) (N : Nat) (tb : Nat → Int32) (A : Nat → Prop) (U : State) (H : Heap) : Prop := ∃ t : Nat, va_Z C n "[I" (.ref t) A U H ∧ va_T .int t N (fun k => .int (tb k)) A U H
def StS (A : Nat → Prop) (U : State) (H : Heap) : Prop := ∃ q t : Nat, vk_R RX6 65 "pwasgb" q U ∧ va_O "java/lang/String" q A U H ∧ va_OF "java/lang/String" "coder" "B" (.int 0) q A U H ∧ va_OF "java/lang/String" "value" "[B" (.ref t) q A U H ∧ va_T .byte t 6 (fun k => .int (tbNAMES k)) A U H ∧ va_Z "java/lang/String" "COMPACT_STRINGS" "Z" (.int 1) A U H
def StA (A : Nat → Prop) (U : State) (H : Heap) : Prop := StT RX7 "LEAST" 9 tbLEAST A U H ∧ StT RX7 "MOST" 9 tbMOST A U H ∧ StT RX4 "ABOVE" 8 tbABOVE A U H ∧ StT RX4 "OWN" 32 tbOWN A U H ∧ StT RX2 "PLACES" 6 tbPLACES A U H ∧ StS A U H
theorem StT.go {C n : String} {N : Nat} {tb : Nat → Int32} {A : Nat → Prop} {s U : State} {H H1 : Heap} (hvm : s.vm.Alike U.vm) (hq : ∀ a : Nat, a < H.size → ¬ A a → H1[a]? = H[a]?) (h : StT C n N tb A s H) : StT C n N tb A U H1 := by
  obtain ⟨t, h1, h2⟩ := h
  exact ⟨t, (h1.moved hvm).kept hq, (h2.moved hvm).kept hq⟩
theorem StT.narrow {C n : String} {N : Nat} {tb : Nat → Int32} {A B : Nat → Prop} {s : State} {H : Heap} (h : StT C n N tb A s H) (hAB : ∀ q, B q → A q) : StT C n N tb B s H := by
  obtain ⟨t, h1, h2⟩ := h
  exact ⟨t, h1.narrow hAB, h2.narrow hAB⟩
theorem StS.narrow {A B : Nat → Prop} {s : State} {H : Heap} (h : StS A s H) (hAB : ∀ q, B q → A q) : StS B s H := by
  obtain ⟨q, t, h1, h2, h3, h4, h5, h6⟩ := h
  exact ⟨q, t, h1, h2.narrow hAB, h3.narrow hAB, h4.narrow hAB, h5.narrow hAB, h6.narrow hAB⟩
theorem StA.narrow {A B : Nat → Prop} {s : State} {H : Heap} (h : StA A s H) (hAB : ∀ q, B q → A q) : StA B s H :=
  ⟨h.1.narrow hAB, h.2.1.narrow hAB, h.2.2.1.narrow hAB, h.2.2.2.1.narrow hAB, h.2.2.2.2.1.narrow hAB, h.2.2.2.2.2.narrow hAB⟩
theorem StA.go {A : Nat → Prop} {s U : State} {H H1 : Heap} (hW : s.WarmedH U.vm) (hq : ∀ a : Nat, a < H.size → ¬ A a → H1[a]? = H[a]?) (h : StA A s H) : StA A U H1 := by
  obtain ⟨h1, h2, h3, h4, h5, q, t, g1, g2, g3, g4, g5, g6⟩ := h
  have hv := hW.alike
  exact ⟨h1.go hv hq, h2.go hv hq, h3.go hv hq, h4.go hv hq, h5.go hv hq, q, t, g1.warm hW, (va_O.moved hv g2).kept hq, (va_OF.moved hv g3).kept hq, (va_OF.moved hv g4).kept hq, (va_T.moved hv g5).kept hq, (va_Z.moved hv g6).kept hq⟩
theorem StA.calling {A : Nat → Prop} {U : State} {g : JFrame} {mk : MethodId} {a : Array Value} (h : StA A U U.heap) : StA A (U.calling g mk a) (U.calling g mk a).heap := by
  obtain ⟨h1, h2, h3, h4, h5, q, t, g1, g2, g3, g4, g5, g6⟩ := h
  have hv : U.vm.Alike (U.calling g mk a).vm := Vm.Alike.refl U.vm
  have hq : ∀ b : Nat, b < U.heap.size → ¬ A b → (U.calling g mk a).heap[b]? = U.heap[b]? := fun _ _ _ => rfl
  exact ⟨h1.go hv hq, h2.go hv hq, h3.go hv hq, h4.go hv hq, h5.go hv hq, q, t, vk_R.same (u := U) rfl g1, (va_O.moved hv g2).kept hq, (va_OF.moved hv g3).kept hq, (va_OF.moved hv g4).kept hq, (va_T.moved hv g5).kept hq, (va_Z.moved hv g6).kept hq⟩
def wdT : List Cond := lw_tbl.filter goodWord
theorem mem_wd {w : Cond} (i : Nat) (h : lw_tbl[i]? = some w) (g : goodWord w = true) : w ∈ wdT := List.mem_filter.mpr ⟨List.mem_of_getElem? h, g⟩
def Cx (D : va_G) (ca : Nat → ClassId) (A : Nat → Prop) (p : Program) (s : State) (m : MethodId) (args : Array Value) (meth : Method) (c : Code) (cc : ByteArray) (own : String) (n : Nat) (ret : Option FieldType) : Prop :=
  p.tables.exec = Jvm.exec ∧ c.code = cc ∧ meth.sig.returnType = ret ∧ c.maxLocals = n ∧ s.vm.findClass own = some m.cls ∧ (∀ w ∈ wdT, w.before args s = true) ∧ meth.locks = false ∧ va_K D vwCl (tyA ca) s ∧ StA A s s.heap
def rmk (k : Nat) : Room := { frames := k, cells := 0, slots := 0, locals := 40 * k }
def wsOf (y : MethodName) (cc : ByteArray) (n : Nat) (ret : Option FieldType) : List Cond := Cond.code y cc n ret :: wdT
def PcX (N : Nat) (ad : Nat → Nat) (ca : Nat → ClassId) (sh : Nat → Shp) (D : va_G) (A : Nat → Prop) (as : List Value) (mm : Mm) : Array Value → State → Prop :=
  va_Pc as (fun U => va_P D vwCl (wld N ad ca sh mm) U.heap ∧ va_K D vwCl (tyA ca) U ∧ va_D A (wld N ad ca sh mm) ∧ StA A U U.heap)
def QcI (N : Nat) (ad : Nat → Nat) (ca : Nat → ClassId) (sh : Nat → Shp) (D : va_G) (A : Nat → Prop) (pz : Int32 → Prop) (r : Int32 × Mm) : Array Value → State → Outcome → State → Prop :=
  va_Qi (fun (x : Int32) (u : Mm) => x = r.1 ∧ u = r.2 ∧ pz r.1) (fun u t => va_P D vwCl (wld N ad ca sh u) t.heap) A
def QcL (N : Nat) (ad : Nat → Nat) (ca : Nat → ClassId) (sh : Nat → Shp) (D : va_G) (A : Nat → Prop) (r : Int64 × Mm) : Array Value → State → Outcome → State → Prop :=
  va_Ql (fun (x : Int64) (u : Mm) => x = r.1 ∧ u = r.2) (fun u t => va_P D vwCl (wld N ad ca sh u) t.heap) A
def QcV (N : Nat) (ad : Nat → Nat) (ca : Nat → ClassId) (sh : Nat → Shp) (D : va_G) (A : Nat → Prop) (r : Unit × Mm) : Array Value → State → Outcome → State → Prop :=
  va_Qv (fun (u : Mm) => u = r.2) (fun u t => va_P D vwCl (wld N ad ca sh u) t.heap) A
def QcR (N : Nat) (ad : Nat → Nat) (ca : Nat → ClassId) (sh : Nat → Shp) (D : va_G) (A : Nat → Prop) (r : Nat × Mm) : Array Value → State → Outcome → State → Prop :=
  va_Qr (fun (u : Mm) => u = r.2) (fun u a t => a = ad r.1 ∧ va_P D vwCl (wld N ad ca sh u) t.heap) A
theorem gd_tbl {y : MethodName} {cc : ByteArray} {n : Nat} {ret : Option FieldType} (hc : Cond.code y cc n ret ∈ wdT) : GoodIn wdT (wsOf y cc n ret) := by
  intro w hw
  have hm : w ∈ wdT := by
    rcases List.mem_cons.mp hw with rfl | h
    · exact hc
    · exact h
  exact ⟨hm, good_of_word (List.mem_filter.mp hm).2⟩
def pzT : Int32 → Prop := fun _ => True
def pzZ : Int32 → Prop := fun x => x = 0 ∨ x = 1
section RUL
variable {p : Program} {l : Launch} {e : Env} {R : Room} {s : State} {m : MethodId} {args : Array Value} {below : List Frame} {meth : Method} {c : Code} {H : Heap} {locs : List Loc} {Q : State → Prop}
variable {cc : ByteArray} {own : String} {n : Nat} {ret : Option FieldType} {pc : Nat} {ls : Array Slot} {rest : List Value} {D : va_G} {ca : Nat → ClassId} {A : Nat → Prop} {N : Nat} {ad : Nat → Nat} {sh : Nat → Shp} {mm : Mm}
theorem ent {y : MethodName} {lev : Nat} {as : List Value} {Qc : Array Value → State → Outcome → State → Prop} (hy : plainName y.cls = true) (hn : (lg_sl as).length ≤ n)
    (body : ∀ (p : Program) (e : Env) (s : State) (m : MethodId) (args : Array Value) (below : List Frame) (meth : Method) (c : Code), args = as.toArray → Cx D ca A p s m args meth c cc y.cls n ret → Hx N ad ca sh D A s.heap mm s.heap [] → ∀ ls : Array Slot, lv_has ls n (lv_args 0 as) → W p l e (rmk lev) s m args below meth c s.heap [] 0 0 (MQ below Qc args s 0 0 A) (F0 m 0 ls [])) :
    Met l y (wsOf y cc n ret) (rmk lev) (PcX N ad ca sh D A as mm) Qc 0 0 A := by
  refine Met.ofW (cc := cc) (maxL := n) (ret := ret) hy rfl ?_
  intro p e s m args below meth c s₁ B hml hv
  obtain ⟨rfl, hP, hK, hD, hSt⟩ := hv
  have hts := atoms_spec (ws := wsOf y cc n ret) B.pre
  have hl := lv_entry as (n := n) hn
  rw [lg_entry_eq]
  generalize (lg_sl as ++ List.replicate (n - (lg_sl as).length) Slot.unset).toArray = ls at hl ⊢
  exact body p e s m _ below meth c rfl ⟨B.exec, B.bytes, B.returns, hml, findClass_of_methodNamed B.named, fun w h => hts w (List.mem_cons_of_mem _ h), B.notSynchronized, hK, hSt⟩ ⟨hP, hD, va_S.rf⟩ ls hl
theorem retI {lev : Nat} {v : Int32} {m2 : Mm} {pz : Int32 → Prop} (C : Cx D ca A p s m args meth c cc own n (some .int)) (hH : Hx N ad ca sh D A s.heap m2 H locs) (hz : pz v) (hdg : decode cc pc = .ok (.ireturn, 1)) :
    W p l e (rmk lev) s m args below meth c H locs 0 0 (MQ below (QcI N ad ca sh D A pz (v, m2)) args s 0 0 A) (F0 m pc ls [.int v]) :=
  W.iret (v := v) C.1 C.2.1 C.2.2.1 (fun t ht hW => ⟨⟨v, m2, rfl, ⟨rfl, rfl, hz⟩, by show va_P _ _ _ t.heap; rw [ht]; exact hH.1⟩, hH.2.2.F ht⟩) hH.2.2.2.2 hdg C.2.2.2.2.2.2.1
theorem retZ {lev : Nat} {v : Int32} {m2 : Mm} (C : Cx D ca A p s m args meth c cc own n (some .boolean)) (hH : Hx N ad ca sh D A s.heap m2 H locs) (hz : pzZ v) (hdg : decode cc pc = .ok (.ireturn, 1)) :
    W p l e (rmk lev) s m args below meth c H locs 0 0 (MQ below (QcI N ad ca sh D A pzZ (v, m2)) args s 0 0 A) (F0 m pc ls [.int v]) := by
  refine W.zret (v := v) C.1 C.2.1 C.2.2.1 ?_ (fun t ht hW => ⟨⟨v, m2, rfl, ⟨rfl, rfl, hz⟩, by show va_P _ _ _ t.heap; rw [ht]; exact hH.1⟩, hH.2.2.F ht⟩) hH.2.2.2.2 hdg C.2.2.2.2.2.2.1
  rcases hz with rfl | rfl <;> rfl
theorem retL {lev : Nat} {v : Int64} {m2 : Mm} (C : Cx D ca A p s m args meth c cc own n (some .long)) (hH : Hx N ad ca sh D A s.heap m2 H locs) (hdg : decode cc pc = .ok (.lreturn, 1)) :
    W p l e (rmk lev) s m args below meth c H locs 0 0 (MQ below (QcL N ad ca sh D A (v, m2)) args s 0 0 A) (F0 m pc ls [.long v]) :=
  W.lret (v := v) C.1 C.2.1 C.2.2.1 (fun t ht hW => ⟨⟨v, m2, rfl, ⟨rfl, rfl⟩, by show va_P _ _ _ t.heap; rw [ht]; exact hH.1⟩, hH.2.2.F ht⟩) hH.2.2.2.2 hdg C.2.2.2.2.2.2.1
theorem retV {lev : Nat} {v : Unit} {m2 : Mm} (C : Cx D ca A p s m args meth c cc own n none) (hH : Hx N ad ca sh D A s.heap m2 H locs) (hdg : decode cc pc = .ok (.return_, 1)) :
    W p l e (rmk lev) s m args below meth c H locs 0 0 (MQ below (QcV N ad ca sh D A (v, m2)) args s 0 0 A) (F0 m pc ls []) :=
  W.vret C.1 C.2.1 C.2.2.1 (fun t ht hW => ⟨⟨m2, rfl, rfl, by show va_P _ _ _ t.heap; rw [ht]; exact hH.1⟩, hH.2.2.F ht⟩) hH.2.2.2.2 hdg C.2.2.2.2.2.2.1
/-- fields -/
theorem wgI (C : Cx D ca A p s m args meth c cc own n ret) (hH : Hx N ad ca sh D A s.heap mm H locs) {cells slots o ci k idx NN : Nat} {ts : List (Nat × Nat)} {Cn : String} {T : u_T} (ho : o < N) (hs : sh o = .inl (ci, ts)) (hk : k < ts.length) (ht : (ts.getD k (0, 0)).1 = 0) (hc : vwCl[ci]? = some (Cn, T, NN)) (hkn : k < NN) (hin : ∀ w ∈ u_ws Cn T NN, w ∈ wdT) (hl : Cond.fieldLink own idx (T k).1 (T k).2.1 (T k).2.2.1 ∈ wdT) (hdg : decode cc pc = .ok (.getfield idx, 3))
    (kk : W p l e R s m args below meth c H locs cells slots Q (F0 m (pc + 3) ls (.int (gI mm o k) :: rest))) : W p l e R s m args below meth c H locs cells slots Q (F0 m pc ls (.ref (ad o) :: rest)) := by
  obtain ⟨hx, hb, hr, hml, hown, hts, hlk, hK, hSt⟩ := C
  refine va_get (v := .int (gI mm o k)) hx hb hts hin hown hK hH.1 o ((wld_get ho).trans (by rw [ce_o hs])) hc k hkn (hts _ hl) (fun _ h => h) ?_ hdg kk
  rw [fl_get hk]; unfold fvOf; rw [if_pos ht]; rfl
theorem wgS (C : Cx D ca A p s m args meth c cc own n ret) (hH : Hx N ad ca sh D A s.heap mm H locs) {cells slots o o2 ci k idx NN : Nat} {ts : List (Nat × Nat)} {Cn : String} {T : u_T} (ho : o < N) (hs : sh o = .inl (ci, ts)) (hk : k < ts.length) (ht : ts.getD k (0, 0) = (2, o2)) (hc : vwCl[ci]? = some (Cn, T, NN)) (hkn : k < NN) (hin : ∀ w ∈ u_ws Cn T NN, w ∈ wdT) (hl : Cond.fieldLink own idx (T k).1 (T k).2.1 (T k).2.2.1 ∈ wdT) (hdg : decode cc pc = .ok (.getfield idx, 3))
    (kk : W p l e R s m args below meth c H locs cells slots Q (F0 m (pc + 3) ls (.ref (ad o2) :: rest))) : W p l e R s m args below meth c H locs cells slots Q (F0 m pc ls (.ref (ad o) :: rest)) := by
  obtain ⟨hx, hb, hr, hml, hown, hts, hlk, hK, hSt⟩ := C
  refine va_get (v := .ref (ad o2)) hx hb hts hin hown hK hH.1 o ((wld_get ho).trans (by rw [ce_o hs])) hc k hkn (hts _ hl) (fun _ h => h) ?_ hdg kk
  rw [fl_get hk, ht]; rfl
theorem wgD (C : Cx D ca A p s m args meth c cc own n ret) (hH : Hx N ad ca sh D A s.heap mm H locs) {cells slots o ci k idx NN : Nat} {ts : List (Nat × Nat)} {Cn : String} {T : u_T} (ho : o < N) (hs : sh o = .inl (ci, ts)) (hk : k < ts.length) (ht : (ts.getD k (0, 0)).1 = 3) (hc : vwCl[ci]? = some (Cn, T, NN)) (hkn : k < NN) (hin : ∀ w ∈ u_ws Cn T NN, w ∈ wdT) (hl : Cond.fieldLink own idx (T k).1 (T k).2.1 (T k).2.2.1 ∈ wdT) (hdg : decode cc pc = .ok (.getfield idx, 3))
    (kk : W p l e R s m args below meth c H locs cells slots Q (F0 m (pc + 3) ls (.ref (ad (gR mm o k)) :: rest))) : W p l e R s m args below meth c H locs cells slots Q (F0 m pc ls (.ref (ad o) :: rest)) := by
  obtain ⟨hx, hb, hr, hml, hown, hts, hlk, hK, hSt⟩ := C
  refine va_get (v := .ref (ad (gR mm o k))) hx hb hts hin hown hK hH.1 o ((wld_get ho).trans (by rw [ce_o hs])) hc k hkn (hts _ hl) (fun _ h => h) ?_ hdg kk
  rw [fl_get hk]; unfold fvOf; rw [if_neg (by rw [ht]; decide), if_neg (by rw [ht]; decide), if_neg (by rw [ht]; decide)]; rfl
theorem wpI (C : Cx D ca A p s m args meth c cc own n ret) (hH : Hx N ad ca sh D A s.heap mm H locs) {cells slots o ci k idx NN : Nat} {ts : List (Nat × Nat)} {Cn : String} {T : u_T} {tf : Nat → FieldType} {v : Int32} {ty : FieldType} (ho : o < N) (hs : sh o = .inl (ci, ts)) (hk : k < ts.length) (ht : (ts.getD k (0, 0)).1 = 0) (hc : vwCl[ci]? = some (Cn, T, NN)) (hkn : k < NN) (hin : ∀ w ∈ u_ws Cn T NN, w ∈ wdT) (hty : ∀ k, k < NN → parseFieldDescriptor (T k).2.2.1 = some (tf k)) (hnm : ∀ a, a < NN → ∀ b, b < NN → a ≠ b → (T a).2.1 ≠ (T b).2.1) (hl : Cond.fieldLink own idx (T k).1 (T k).2.1 (T k).2.2.1 ∈ wdT) (hfin : (T k).2.2.2 = false) (hd : tf k = ty) (hn : narrow ty (.int v) = .int v) (hf : fits ty (.int v) = true) (hdg : decode cc pc = .ok (.putfield idx, 3))
    (kk : ∀ (H : Heap) (locs : List Loc), Hx N ad ca sh D A s.heap (sI mm o k v) H locs → W p l e R s m args below meth c H locs cells slots Q (F0 m (pc + 3) ls rest)) : W p l e R s m args below meth c H locs cells slots Q (F0 m pc ls (.int v :: .ref (ad o) :: rest)) := by
  obtain ⟨hx, hb, hr, hml, hown, hts, hlk, hK, hSt⟩ := C
  obtain ⟨hP, hD, hS⟩ := hH
  refine va_put (v := .int v) (ty := ty) hx hb hts hin tf hty hnm hown hK hP hD hS o ((wld_get ho).trans (by rw [ce_o hs])) hc k hkn (hts _ hl) (fun _ h => h) hfin (by rw [hty k hkn, hd]) hn hf (by rw [fl_len]; exact hk) hdg (fun H1 l1 q1 q2 q3 => kk H1 l1 ?_)
  rw [wld_sI ho hs hk ht] at q1 q2
  exact ⟨q1, q2, q3⟩
theorem wpD (C : Cx D ca A p s m args meth c cc own n ret) (hH : Hx N ad ca sh D A s.heap mm H locs) {cells slots o ci k idx NN v : Nat} {ts : List (Nat × Nat)} {Cn : String} {T : u_T} {tf : Nat → FieldType} {ty : FieldType} (ho : o < N) (hs : sh o = .inl (ci, ts)) (hk : k < ts.length) (ht : (ts.getD k (0, 0)).1 = 3) (hc : vwCl[ci]? = some (Cn, T, NN)) (hkn : k < NN) (hin : ∀ w ∈ u_ws Cn T NN, w ∈ wdT) (hty : ∀ k, k < NN → parseFieldDescriptor (T k).2.2.1 = some (tf k)) (hnm : ∀ a, a < NN → ∀ b, b < NN → a ≠ b → (T a).2.1 ≠ (T b).2.1) (hl : Cond.fieldLink own idx (T k).1 (T k).2.1 (T k).2.2.1 ∈ wdT) (hfin : (T k).2.2.2 = false) (hd : tf k = ty) (hn : ∀ a : Nat, narrow ty (.ref a) = .ref a) (hf : ∀ a : Nat, fits ty (.ref a) = true) (hdg : decode cc pc = .ok (.putfield idx, 3))
    (kk : ∀ (H : Heap) (locs : List Loc), Hx N ad ca sh D A s.heap (sR mm o k v) H locs → W p l e R s m args below meth c H locs cells slots Q (F0 m (pc + 3) ls rest)) : W p l e R s m args below meth c H locs cells slots Q (F0 m pc ls (.ref (ad v) :: .ref (ad o) :: rest)) := by
  obtain ⟨hx, hb, hr, hml, hown, hts, hlk, hK, hSt⟩ := C
  obtain ⟨hP, hD, hS⟩ := hH
  refine va_put (v := .ref (ad v)) (ty := ty) hx hb hts hin tf hty hnm hown hK hP hD hS o ((wld_get ho).trans (by rw [ce_o hs])) hc k hkn (hts _ hl) (fun _ h => h) hfin (by rw [hty k hkn, hd]) (hn _) (hf _) (by rw [fl_len]; exact hk) hdg (fun H1 l1 q1 q2 q3 => kk H1 l1 ?_)
  rw [wld_sR ho hs hk ht] at q1 q2
  exact ⟨q1, q2, q3⟩
/-- arrays -/
theorem waI (C : Cx D ca A p s m args meth c cc own n ret) (hH : Hx N ad ca sh D A s.heap mm H locs) {cells slots o k b : Nat} {i : Int32} (ho : o < N) (hs : sh o = .inr (0, k, b)) (hi : vp_in i k) (hdg : decode cc pc = .ok (.iaload, 1))
    (kk : W p l e R s m args below meth c H locs cells slots Q (F0 m (pc + 1) ls (.int (gI mm o i.toNatClampNeg) :: rest))) : W p l e R s m args below meth c H locs cells slots Q (F0 m pc ls (.int i :: .ref (ad o) :: rest)) :=
  va_iald C.1 C.2.1 C.2.2.2.2.2.2.2.1 hH.1 o 0 ((wld_get ho).trans (by rw [ce_a hs, av_I (by decide)]; rfl)) rfl hi hdg kk
theorem waC (C : Cx D ca A p s m args meth c cc own n ret) (hH : Hx N ad ca sh D A s.heap mm H locs) {cells slots o k b : Nat} {i : Int32} (ho : o < N) (hs : sh o = .inr (1, k, b)) (hi : vp_in i k) (hdg : decode cc pc = .ok (.caload, 1))
    (kk : W p l e R s m args below meth c H locs cells slots Q (F0 m (pc + 1) ls (.int (gI mm o i.toNatClampNeg) :: rest))) : W p l e R s m args below meth c H locs cells slots Q (F0 m pc ls (.int i :: .ref (ad o) :: rest)) :=
  va_cald C.1 C.2.1 C.2.2.2.2.2.2.2.1 hH.1 o 1 ((wld_get ho).trans (by rw [ce_a hs, av_I (by decide)]; rfl)) rfl hi hdg kk
theorem waZ (C : Cx D ca A p s m args meth c cc own n ret) (hH : Hx N ad ca sh D A s.heap mm H locs) {cells slots o k b : Nat} {i : Int32} (ho : o < N) (hs : sh o = .inr (2, k, b)) (hi : vp_in i k) (hdg : decode cc pc = .ok (.baload, 1))
    (kk : W p l e R s m args below meth c H locs cells slots Q (F0 m (pc + 1) ls (.int (gI mm o i.toNatClampNeg) :: rest))) : W p l e R s m args below meth c H locs cells slots Q (F0 m pc ls (.int i :: .ref (ad o) :: rest)) :=
  va_zald C.1 C.2.1 C.2.2.2.2.2.2.2.1 hH.1 o 2 ((wld_get ho).trans (by rw [ce_a hs, av_I (by decide)]; rfl)) rfl hi hdg kk
theorem waL (C : Cx D ca A p s m args meth c cc own n ret) (hH : Hx N ad ca sh D A s.heap mm H locs) {cells slots o k b : Nat} {i : Int32} (ho : o < N) (hs : sh o = .inr (3, k, b)) (hi : vp_in i k) (hdg : decode cc pc = .ok (.laload, 1))
    (kk : W p l e R s m args below meth c H locs cells slots Q (F0 m (pc + 1) ls (.long (gL mm o i.toNatClampNeg) :: rest))) : W p l e R s m args below meth c H locs cells slots Q (F0 m pc ls (.int i :: .ref (ad o) :: rest)) :=
  va_lald C.1 C.2.1 C.2.2.2.2.2.2.2.1 hH.1 o 3 ((wld_get ho).trans (by rw [ce_a hs, av_L]; rfl)) rfl hi hdg kk
theorem waS (C : Cx D ca A p s m args meth c cc own n ret) (hH : Hx N ad ca sh D A s.heap mm H locs) {cells slots o k b : Nat} {i : Int32} (ho : o < N) (hs : sh o = .inr (4, k, b)) (hi : vp_in i k) (hdg : decode cc pc = .ok (.aaload, 1))
    (kk : W p l e R s m args below meth c H locs cells slots Q (F0 m (pc + 1) ls (.ref (ad (b + i.toNatClampNeg)) :: rest))) : W p l e R s m args below meth c H locs cells slots Q (F0 m pc ls (.int i :: .ref (ad o) :: rest)) := by
  refine va_aldq C.1 C.2.1 C.2.2.2.2.2.2.2.1 hH.1 o 4 ((wld_get ho).trans (by rw [ce_a hs, av_R (by decide)])) rfl hi hdg ?_
  have hlt : i.toNatClampNeg < k := Nat.not_le.mp fun q => hi (Or.inr q)
  rw [if_pos hlt]
  exact kk
theorem waG (C : Cx D ca A p s m args meth c cc own n ret) (hH : Hx N ad ca sh D A s.heap mm H locs) {cells slots o k b : Nat} {i : Int32} (ho : o < N) (hs : sh o = .inr (5, k, b)) (hi : vp_in i k) (hdg : decode cc pc = .ok (.aaload, 1))
    (kk : W p l e R s m args below meth c H locs cells slots Q (F0 m (pc + 1) ls (.ref (ad (b + i.toNatClampNeg)) :: rest))) : W p l e R s m args below meth c H locs cells slots Q (F0 m pc ls (.int i :: .ref (ad o) :: rest)) := by
  have hlt : i.toNatClampNeg < k := Nat.not_le.mp fun q => hi (Or.inr q)
  have hK := C.2.2.2.2.2.2.2.1
  have ha := hH.1 o _ ((wld_get (ad := ad) (ca := ca) (sh := sh) (m := mm) ho).trans (by rw [ce_a hs, av_R (by decide)]))
  refine W.aald (v := .ref (ad (b + i.toNatClampNeg))) (ty := .array .int) C.1 C.2.1 ha ((hK.2 5 (ca 5, .array .int) rfl).1 k (fun j => va_rf (if j < k then some (ad (b + j)) else none))) rfl (fun q => by cases q) (by show ¬ (i < 0 ∨ (arrV _ _ _).slots.size ≤ _); rw [arrV_size]; exact hi) (by show (arrV _ _ _).slots[_]? = _; rw [arrV_read _ _ hlt]; show some (va_rf (if _ then _ else _)) = _; rw [if_pos hlt]; rfl) rfl rfl hdg kk
theorem wsI (C : Cx D ca A p s m args meth c cc own n ret) (hH : Hx N ad ca sh D A s.heap mm H locs) {cells slots o k b : Nat} {i v : Int32} (ho : o < N) (hs : sh o = .inr (0, k, b)) (hi : vp_in i k) (hdg : decode cc pc = .ok (.iastore, 1))
    (kk : ∀ (H : Heap) (locs : List Loc), Hx N ad ca sh D A s.heap (sI mm o i.toNatClampNeg v) H locs → W p l e R s m args below meth c H locs cells slots Q (F0 m (pc + 1) ls rest)) : W p l e R s m args below meth c H locs cells slots Q (F0 m pc ls (.int v :: .int i :: .ref (ad o) :: rest)) := by
  obtain ⟨hP, hD, hS⟩ := hH
  refine va_iast C.1 C.2.1 C.2.2.2.2.2.2.2.1 hP hD hS o 0 ((wld_get ho).trans (by rw [ce_a hs, av_I (by decide)])) rfl hi hdg (fun H1 l1 q1 q2 q3 => kk H1 l1 ?_)
  rw [wld_aI (m' := sI mm o i.toNatClampNeg v) ho hs (by decide) (fun j => by simp [sI, upd]) (sI_ne v)] at q1 q2
  exact ⟨q1, q2, q3⟩
theorem wsC (C : Cx D ca A p s m args meth c cc own n ret) (hH : Hx N ad ca sh D A s.heap mm H locs) {cells slots o k b : Nat} {i v : Int32} (ho : o < N) (hs : sh o = .inr (1, k, b)) (hi : vp_in i k) (hdg : decode cc pc = .ok (.castore, 1))
    (kk : ∀ (H : Heap) (locs : List Loc), Hx N ad ca sh D A s.heap (sI mm o i.toNatClampNeg (vp_nar .char v)) H locs → W p l e R s m args below meth c H locs cells slots Q (F0 m (pc + 1) ls rest)) : W p l e R s m args below meth c H locs cells slots Q (F0 m pc ls (.int v :: .int i :: .ref (ad o) :: rest)) := by
  obtain ⟨hP, hD, hS⟩ := hH
  refine va_cast C.1 C.2.1 C.2.2.2.2.2.2.2.1 hP hD hS o 1 ((wld_get ho).trans (by rw [ce_a hs, av_I (by decide)])) rfl hi hdg (fun H1 l1 q1 q2 q3 => kk H1 l1 ?_)
  rw [wld_aI (m' := sI mm o i.toNatClampNeg (vp_nar .char v)) ho hs (by decide) (fun j => by simp [sI, upd]) (sI_ne _)] at q1 q2
  exact ⟨q1, q2, q3⟩
theorem wsZ (C : Cx D ca A p s m args meth c cc own n ret) (hH : Hx N ad ca sh D A s.heap mm H locs) {cells slots o k b : Nat} {i v : Int32} (ho : o < N) (hs : sh o = .inr (2, k, b)) (hi : vp_in i k) (hdg : decode cc pc = .ok (.bastore, 1))
    (kk : ∀ (H : Heap) (locs : List Loc), Hx N ad ca sh D A s.heap (sI mm o i.toNatClampNeg (vp_nar .boolean v)) H locs → W p l e R s m args below meth c H locs cells slots Q (F0 m (pc + 1) ls rest)) : W p l e R s m args below meth c H locs cells slots Q (F0 m pc ls (.int v :: .int i :: .ref (ad o) :: rest)) := by
  obtain ⟨hP, hD, hS⟩ := hH
  refine va_zast C.1 C.2.1 C.2.2.2.2.2.2.2.1 hP hD hS o 2 ((wld_get ho).trans (by rw [ce_a hs, av_I (by decide)])) rfl hi hdg (fun H1 l1 q1 q2 q3 => kk H1 l1 ?_)
  rw [wld_aI (m' := sI mm o i.toNatClampNeg (vp_nar .boolean v)) ho hs (by decide) (fun j => by simp [sI, upd]) (sI_ne _)] at q1 q2
  exact ⟨q1, q2, q3⟩
theorem wsL (C : Cx D ca A p s m args meth c cc own n ret) (hH : Hx N ad ca sh D A s.heap mm H locs) {cells slots o k b : Nat} {i : Int32} {v : Int64} (ho : o < N) (hs : sh o = .inr (3, k, b)) (hi : vp_in i k) (hdg : decode cc pc = .ok (.lastore, 1))
    (kk : ∀ (H : Heap) (locs : List Loc), Hx N ad ca sh D A s.heap (sL mm o i.toNatClampNeg v) H locs → W p l e R s m args below meth c H locs cells slots Q (F0 m (pc + 1) ls rest)) : W p l e R s m args below meth c H locs cells slots Q (F0 m pc ls (.long v :: .int i :: .ref (ad o) :: rest)) := by
  obtain ⟨hP, hD, hS⟩ := hH
  refine va_last C.1 C.2.1 C.2.2.2.2.2.2.2.1 hP hD hS o 3 ((wld_get ho).trans (by rw [ce_a hs, av_L])) rfl hi hdg (fun H1 l1 q1 q2 q3 => kk H1 l1 ?_)
  rw [wld_aL (m' := sL mm o i.toNatClampNeg v) ho hs (fun j => by simp [sL, vp_updL]) (sL_ne _)] at q1 q2
  exact ⟨q1, q2, q3⟩
theorem wln (C : Cx D ca A p s m args meth c cc own n ret) (hH : Hx N ad ca sh D A s.heap mm H locs) {cells slots o q k b : Nat} {v : Int32} {ty : FieldType} (ho : o < N) (hs : sh o = .inr (q, k, b)) (ht : (tyA ca)[q]? = some (ca q, ty)) (hv : Int32.ofNat k = v) (hdg : decode cc pc = .ok (.arraylength, 1))
    (kk : W p l e R s m args below meth c H locs cells slots Q (F0 m (pc + 1) ls (.int v :: rest))) : W p l e R s m args below meth c H locs cells slots Q (F0 m pc ls (.ref (ad o) :: rest)) :=
  va_alen C.1 C.2.1 C.2.2.2.2.2.2.2.1 hH.1 o q ((wld_get ho).trans (by rw [ce_a hs])) ht (by exact hv) hdg kk
end RUL
