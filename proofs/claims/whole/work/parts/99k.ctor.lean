/-! ===== constructors: rules ===== -/
def NwI (U : State) : Prop := va_Nw (.methodLinkNest RX7 22 yX5_init RX9) U ∧ va_Nw (.methodLinkNest RX9 18 yX6_init RX9) U ∧ va_Nw (.methodLinkNest RX6 17 yX5_init RX9) U ∧ va_Nw (.methodLinkNest RX9 48 yX1_init RX9) U ∧ va_Nw (.methodLinkNest RX9 55 yX4_init RX9) U ∧ va_Nw (.methodLinkNest RX9 66 yX8_init RX9) U ∧ va_AO RX8 U ∧ va_Nw (.arrayOver (.array .int)) U
theorem NwI.calling {U : State} {g : JFrame} {mk : MethodId} {a : Array Value} (h : NwI U) : NwI (U.calling g mk a) := by
  obtain ⟨h1, h2, h3, h4, h5, h6, h7, h8⟩ := h
  have e : U.vm = (U.calling g mk a).vm := rfl
  exact ⟨va_tabs rfl e h1, va_tabs rfl e h2, va_tabs rfl e h3, va_tabs rfl e h4, va_tabs rfl e h5, va_tabs rfl e h6, h7.moved (Vm.Alike.refl U.vm), Stand.arrayOver_alikeB (Vm.Alike.refl U.vm) h8⟩
theorem NwI.warm {s U : State} (hW : s.WarmedH U.vm) (h : NwI s) : NwI U := by
  obtain ⟨h1, h2, h3, h4, h5, h6, h7, h8⟩ := h
  exact ⟨h1.warmM hW, h2.warmM hW, h3.warmM hW, h4.warmM hW, h5.warmM hW, h6.warmM hW, h7.moved hW.alike, Stand.arrayOver_alikeB hW.alike h8⟩
section KTOR
variable {p : Program} {l : Launch} {e : Env} {R : Room} {s : State} {m : MethodId} {args : Array Value} {below : List Frame} {meth : Method} {c : Code} {H : Heap} {locs : List Loc} {Q : State → Prop} {cells slots : Nat}
variable {cc : ByteArray} {own : String} {n : Nat} {pc : Nat} {ls : Array Slot} {rest : List Value} {D : va_G} {ca : Nat → ClassId} {A : Nat → Prop} {ws : va_W}
def Cy (D : va_G) (ca : Nat → ClassId) (p : Program) (s : State) (m : MethodId) (args : Array Value) (meth : Method) (c : Code) (cc : ByteArray) (own : String) (n : Nat) : Prop :=
  p.tables.exec = Jvm.exec ∧ c.code = cc ∧ meth.sig.returnType = none ∧ c.maxLocals = n ∧ s.vm.findClass own = some m.cls ∧ (∀ w ∈ wdT, w.before args s = true) ∧ meth.locks = false ∧ va_K D vwCl (tyA ca) s ∧ meth.name = "<init>" ∧ NwI s
def Hy (D : va_G) (A : Nat → Prop) (s : State) (ws : va_W) (H : Heap) (locs : List Loc) : Prop := va_P D vwCl ws H ∧ va_D A ws ∧ va_S A s.heap H locs
abbrev rmi (k mc ms : Nat) : Room := { frames := k, cells := mc, slots := ms, locals := 40 * k }
def CtP (D : va_G) (ca : Nat → ClassId) (as : List Value) (w0 : va_W) (sz : Nat) : Array Value → State → Prop := va_Pc as (fun U => U.heap.size = sz ∧ va_P D vwCl w0 U.heap ∧ va_K D vwCl (tyA ca) U ∧ va_D (fun _ => True) w0 ∧ NwI U)
def CtQ {S : Type} (D : va_G) (A : Nat → Prop) (Wf : S → va_W) : Array Value → State → Outcome → State → Prop := va_Qv (fun _ : S => True) (fun u t => va_P D vwCl (Wf u) t.heap ∧ va_D A (Wf u)) A
theorem entC {S : Type} {y : MethodName} {as : List Value} {w0 : va_W} {sz lev mc ms : Nat} {Wf : S → va_W} (hy : plainName y.cls = true) (hn : (lg_sl as).length ≤ n) (hi : y.name = "<init>")
    (body : ∀ (p : Program) (e : Env) (s : State) (m : MethodId) (args : Array Value) (below : List Frame) (meth : Method) (c : Code) (A : Nat → Prop), Cy D ca p s m args meth c cc y.cls n → (∀ q : Nat, s.heap.size ≤ q → A q) → Hy D A s w0 s.heap [] → ∀ ls : Array Slot, lv_has ls n (lv_args 0 as) → W p l e (rmi lev mc ms) s m args below meth c s.heap [] 0 0 (MQ below (CtQ D A Wf) args s mc ms A) (F0 m 0 ls [])) :
    Met l y (wsOf y cc n none) (rmi lev mc ms) (CtP D ca as w0 sz) (CtQ D (va_A w0 sz) Wf) mc ms (va_A w0 sz) := by
  refine Met.ofW (cc := cc) (maxL := n) (ret := none) hy rfl ?_
  intro p e s m args below meth c s₁ B hml hv
  obtain ⟨rfl, hsz, hP, hK, hD0, hNw⟩ := hv
  have hts := atoms_spec (ws := wsOf y cc n none) B.pre
  subst hsz
  have hD := hD0.self (sz := s.heap.size)
  have hin : meth.name = "<init>" := ((name_of_methodNamed B.named B.method).1).trans hi
  have hl := lv_entry as (n := n) hn
  rw [lg_entry_eq]
  generalize (lg_sl as ++ List.replicate (n - (lg_sl as).length) Slot.unset).toArray = ls at hl ⊢
  exact body p e s m _ below meth c _ ⟨B.exec, B.bytes, B.returns, hml, findClass_of_methodNamed B.named, fun w h => hts w (List.mem_cons_of_mem _ h), B.notSynchronized, hK, hin, hNw⟩ (fun q h => Or.inr h) ⟨hP, hD, va_S.rf⟩ ls hl
theorem retC {S : Type} {Wf : S → va_W} {mc ms : Nat} (C : Cy D ca p s m args meth c cc own n) (u : S) (hH : Hy D A s (Wf u) H locs) (hc : cells ≤ mc) (hs : slots ≤ ms) (hdg : decode cc pc = .ok (.return_, 1)) : W p l e R s m args below meth c H locs cells slots (MQ below (CtQ D A Wf) args s mc ms A) (F0 m pc ls []) :=
  W.widen hc hs (W.vret C.1 C.2.1 C.2.2.1 (fun t ht hW => ⟨⟨u, rfl, trivial, by rw [ht]; exact hH.1, hH.2.1⟩, hH.2.2.F ht⟩) hH.2.2.2.2 hdg C.2.2.2.2.2.2.1)
theorem kObj (C : Cy D ca p s m args meth c cc own n) (hl : ls.size = n) {idx a : Nat} (f1 : Cond.methodLink own idx Lib.objectInit ∈ wdT) (f2 : Cond.instanceMethod Lib.objectInit ∈ wdT) (f3 : Cond.code Lib.objectInit ⟨#[0xb1]⟩ 1 none ∈ wdT) (hR : 1 ≤ R.frames ∧ 40 ≤ R.locals) (hdg : decode cc pc = .ok (.invokespecial idx, 3))
    (kk : W p l e R s m args below meth c H locs cells slots Q (F0 m (pc + 3) ls [])) : W p l e R s m args below meth c H locs cells slots Q (F0 m pc ls [.ref a]) := by
  obtain ⟨hx, hb, hr, hml, hown, hts, -⟩ := C
  exact W.objInit hx hb hown (hts _ f1) (hts _ f2) (hts _ f3) rfl (hl.trans hml.symm) rfl hdg hR.1 (by show 2 * 0 + 0 + 12 ≤ R.locals; omega) kk
theorem kNew {j : Nat} {atype : ArrayType} {ty : FieldType} (C : Cy D ca p s m args meth c cc own n) (hA : ∀ q : Nat, s.heap.size ≤ q → A q) (hH : Hy D A s ws H locs) (hty : newarray.typeOf atype = ty) (hj : (tyA ca)[j]? = some (ca j, ty)) (hnm : ∀ (U : State) (k : ClassId), va_RA U k ty = (U.vm.findClass ("[" ++ ty.toString) = some k)) (harr : Cond.arrayClass (newarray.typeOf atype) ∈ wdT) {x : Int32} {N' : Nat} {a0 : vp_A} (ha : ∀ cA : ClassId, vp_cell cA a0 = arrV cA N' (fun _ => defaultValue ty)) (hn : ¬ x < 0) (hN : x.toNatClampNeg = N') (hbytes : N' * componentBytes ty ≤ 536870912) (hcells : cells + 1 ≤ R.cells) (hslots : slots + N' ≤ R.slots) (hdg : decode cc pc = .ok (.newarray atype, 2))
    (kk : ∀ (q : Nat) (H1 : Heap), Hy D A s (ws ++ [(q, .inl (ca j, a0))]) H1 locs → W p l e R s m args below meth c H1 locs (cells + 1) (slots + N') Q (F0 m (pc + 2) ls (.ref q :: rest))) : W p l e R s m args below meth c H locs cells slots Q (F0 m pc ls (.int x :: rest)) := by
  obtain ⟨hx, hb, hr, hml, hown, hts, hlk, hK, -⟩ := C
  obtain ⟨hP, hD, hS⟩ := hH
  refine va_newa hx hb (hts _ harr) hty hK hP hD hS hA ha hn hN hbytes hcells hslots hdg (fun q cA H1 hK1 hP1 hD1 hS1 => ?_)
  have z1 := (hK1.2 6 (cA, ty) rfl).2
  have z2 := (hK.2 j _ hj).2
  rw [hnm] at z1 z2
  have e : cA = ca j := Option.some.inj (z1.symm.trans z2)
  subst e
  exact kk q H1 ⟨hP1, hD1, hS1⟩
theorem kObN {ci idx NN : Nat} {Cn : String} {T : u_T} (C : Cy D ca p s m args meth c cc own n) (hA : ∀ q : Nat, s.heap.size ≤ q → A q) (hH : Hy D A s ws H locs) (hin : ∀ w ∈ u_ws Cn T NN, w ∈ wdT) (tf : Nat → FieldType) (hty : ∀ k, k < NN → parseFieldDescriptor (T k).2.2.1 = some (tf k)) (f1 : Cond.classLink own idx Cn ∈ wdT) (f2 : Cond.instantiable Cn NN ∈ wdT) (f3 : Cond.initialized Cn ∈ wdT) (hc : vwCl[ci]? = some (Cn, T, NN)) {fs : List Value} (hfs : ∀ j, j < NN → defaultValue (tf j) = vp_V fs j) (hcells : cells + 1 ≤ R.cells) (hslots : slots + NN ≤ R.slots) (hdg : decode cc pc = .ok (.new idx, 3))
    (kk : ∀ (q : Nat) (H1 : Heap), Hy D A s (ws ++ [(q, .inr (ci, fs))]) H1 locs → W p l e R s m args below meth c H1 locs (cells + 1) (slots + NN) Q (F0 m (pc + 3) ls (.ref q :: rest))) : W p l e R s m args below meth c H locs cells slots Q (F0 m pc ls rest) := by
  obtain ⟨hx, hb, hr, hml, hown, hts, hlk, hK, -⟩ := C
  obtain ⟨hP, hD, hS⟩ := hH
  exact va_new hx hb hts hin tf hty hown (hts _ f1) (hts _ f2) (hts _ f3) hK hP hD hS hA hc hfs hcells hslots hdg (fun q H1 h1 h2 h3 => kk q H1 ⟨h1, h2, h3⟩)
theorem kPuF {ci idx NN a : Nat} {T : u_T} {fs : List Value} (C : Cy D ca p s m args meth c cc own n) (hH : Hy D A s ws H locs) (hin : ∀ w ∈ u_ws own T NN, w ∈ wdT) (tf : Nat → FieldType) (hty : ∀ k, k < NN → parseFieldDescriptor (T k).2.2.1 = some (tf k)) (hnm : ∀ a, a < NN → ∀ b, b < NN → a ≠ b → (T a).2.1 ≠ (T b).2.1) (q0 : Nat) (he : ws[q0]? = some (a, .inr (ci, fs))) (hc : vwCl[ci]? = some (own, T, NN)) (k : Nat) (hk : k < NN) (hl : Cond.fieldLink own idx (T k).1 (T k).2.1 (T k).2.2.1 ∈ wdT) (hfin : (T k).2.2.2 = true) (hdecl : (T k).1 = own) {v : Value} (hn : narrow (tf k) v = v) (hfit : fits (tf k) v = true) (hlen : k < fs.length) (hdg : decode cc pc = .ok (.putfield idx, 3))
    (kk : ∀ (H1 : Heap) (locs1 : List Loc), Hy D A s (ws.set q0 (a, .inr (ci, fs.set k v))) H1 locs1 → W p l e R s m args below meth c H1 locs1 cells slots Q (F0 m (pc + 3) ls rest)) : W p l e R s m args below meth c H locs cells slots Q (F0 m pc ls (v :: .ref a :: rest)) := by
  obtain ⟨hx, hb, hr, hml, hown, hts, hlk, hK, hni, -⟩ := C
  obtain ⟨hP, hD, hS⟩ := hH
  exact va_putF hx hb hts hin tf hty hnm hown hK hP hD hS q0 he hc k hk (hts _ hl) (fun _ h => h) hfin hni hdecl (hty k hk) hn hfit hlen hdg (fun H1 l1 h1 h2 h3 => kk H1 l1 ⟨h1, h2, h3⟩)
theorem kPu {ci idx NN a : Nat} {T : u_T} {fs : List Value} (C : Cy D ca p s m args meth c cc own n) (hH : Hy D A s ws H locs) (hin : ∀ w ∈ u_ws own T NN, w ∈ wdT) (tf : Nat → FieldType) (hty : ∀ k, k < NN → parseFieldDescriptor (T k).2.2.1 = some (tf k)) (hnm : ∀ a, a < NN → ∀ b, b < NN → a ≠ b → (T a).2.1 ≠ (T b).2.1) (q0 : Nat) (he : ws[q0]? = some (a, .inr (ci, fs))) (hc : vwCl[ci]? = some (own, T, NN)) (k : Nat) (hk : k < NN) (hl : Cond.fieldLink own idx (T k).1 (T k).2.1 (T k).2.2.1 ∈ wdT) (hfin : (T k).2.2.2 = false) {v : Value} (hn : narrow (tf k) v = v) (hfit : fits (tf k) v = true) (hlen : k < fs.length) (hdg : decode cc pc = .ok (.putfield idx, 3))
    (kk : ∀ (H1 : Heap) (locs1 : List Loc), Hy D A s (ws.set q0 (a, .inr (ci, fs.set k v))) H1 locs1 → W p l e R s m args below meth c H1 locs1 cells slots Q (F0 m (pc + 3) ls rest)) : W p l e R s m args below meth c H locs cells slots Q (F0 m pc ls (v :: .ref a :: rest)) := by
  obtain ⟨hx, hb, hr, hml, hown, hts, hlk, hK, -⟩ := C
  obtain ⟨hP, hD, hS⟩ := hH
  exact va_put hx hb hts hin tf hty hnm hown hK hP hD hS q0 he hc k hk (hts _ hl) (fun _ h => h) hfin (hty k hk) hn hfit hlen hdg (fun H1 l1 h1 h2 h3 => kk H1 l1 ⟨h1, h2, h3⟩)
theorem ctP_blind {as : List Value} {w0 : va_W} {sz : Nat} : FrameBlind (CtP D ca as w0 sz) := fun a U g mk q => by
  obtain ⟨q0, q1, qP, qK, qD, qN⟩ := q
  exact ⟨q0, q1, qP, va_K.moved (u := U) (U := U.calling g mk a) (Vm.Alike.refl U.vm) qK, qD, qN.calling⟩
theorem ctP_at {as : List Value} {w0 : va_W} (C : Cy D ca p s m args meth c cc own n) (hP : va_P D vwCl w0 H) (hD : va_D A w0) : ∀ U : State, U.heap = H → s.WarmedH U.vm → CtP D ca as w0 H.size as.toArray U := fun U hU hW =>
  ⟨rfl, by rw [hU], by rw [hU]; exact hP, va_K.moved hW.alike C.2.2.2.2.2.2.2.1, hD.weaken (fun _ _ _ _ => trivial), C.2.2.2.2.2.2.2.2.2.warm hW⟩
/-- a constructor that the tables link as a nest mate's -/
theorem kCaN {S : Type} {idx q n' lev' mc' ms' kA : Nat} {y : MethodName} {host : String} {cc' : ByteArray} {as st : List Value} {w0 wr : va_W} {Wf : S → va_W} (C : Cy D ca p s m args meth c cc own n) (hA : ∀ q : Nat, s.heap.size ≤ q → A q) (hH : Hy D A s ws H locs) (hl : ls.size = n) (hM : Met l y (wsOf y cc' n' none) (rmi lev' mc' ms') (CtP D ca (.ref q :: as) w0 H.size) (CtQ D (va_A w0 H.size) Wf) mc' ms' (va_A w0 H.size)) (link : va_Nw (.methodLinkNest own idx y host) s) (f2 : Cond.instanceMethod y ∈ wdT) (f4 : Cond.initialized y.cls ∈ wdT) (f5 : Cond.code y cc' n' none ∈ wdT) (hy1 : y.name = "<init>") (hd : y.cls ≠ "java/lang/invoke/MethodHandle" ∧ y.cls ≠ "java/lang/invoke/VarHandle" ∧ (parseMethodDescriptor y.desc).map (fun d => d.parameters.length) = some kA) (hk : as.length = kA) (isC isR : List Nat) (hC : isC.map (fun i => ws[i]?) = w0.map some) (hRr : isR.map (fun i => ws[i]?) = wr.map some) (hnd0 : va_nd isC = true) (hnd : va_nd isR = true) (hdis : ∀ i ∈ isR, i ∉ isC) (hR : lev' + 1 ≤ R.frames ∧ 8 + (n' + 11) + 40 * lev' ≤ R.locals) (hcs : cells + mc' ≤ R.cells ∧ slots + ms' ≤ R.slots) (hst : st = as.reverse ++ .ref q :: rest) (hW : (rest.map fun v => v.category).sum ≤ 8) (hdg : decode cc pc = .ok (.invokespecial idx, 3))
    (kk : ∀ (u : S) (H1 : Heap) (locs1 : List Loc), Hy D A s (wr ++ Wf u) H1 locs1 → W p l e R s m args below meth c H1 locs1 (cells + mc') (slots + ms') Q (F0 m (pc + 3) ls rest)) : W p l e R s m args below meth c H locs cells slots Q (F0 m pc ls st) := by
  obtain ⟨hP, hD, hS⟩ := hH
  have hts := C.2.2.2.2.2.1
  have hPc : va_P D vwCl w0 H := fun k x hx => by
    have h1 : (isC.map (fun i => ws[i]?))[k]? = some (some x) := by rw [hC, List.getElem?_map, hx]; rfl
    rw [List.getElem?_map] at h1
    cases hi : isC[k]? with
    | none => rw [hi] at h1; cases h1
    | some i => rw [hi] at h1; exact hP i x (Option.some.inj h1)
  have hDc : va_D A w0 := hD.sub isC hnd0 hC
  have hF := va_free hD hS hA isC hC
  refine va_callv (va_runIN (As := as) (rest := rest) ⟨C.1, C.2.1, C.2.2.2.1, C.2.2.2.2.1, hts⟩ hM ⟨va_cnB kA hts (gd_tbl f5) rfl rfl rfl link (hts _ f4) hd hR, hy1, hts _ f2⟩ ⟨ctP_blind, ctP_at C hPc hDc⟩ rfl hk hl hst (by show 2 * 0 + _ ≤ 8; omega) hdg hcs) hS (fun q _ h => hF q h) hF (fun u t H1 locs1 ht hvm _ hB _ hk1 hS1 => ?_)
  obtain ⟨hP1, hD1⟩ := hB
  rw [ht] at hP1
  have z := va_join hP hD isC isR hC hRr hnd hdis hk1 hF hP1 hD1
  exact kk u H1 locs1 ⟨z.1, z.2, hS1⟩
/-- and one that they link plainly -/
theorem kCaP {S : Type} {idx q n' lev' mc' ms' kA : Nat} {y : MethodName} {cc' : ByteArray} {as st : List Value} {w0 wr : va_W} {Wf : S → va_W} (C : Cy D ca p s m args meth c cc own n) (hA : ∀ q : Nat, s.heap.size ≤ q → A q) (hH : Hy D A s ws H locs) (hl : ls.size = n) (hM : Met l y (wsOf y cc' n' none) (rmi lev' mc' ms') (CtP D ca (.ref q :: as) w0 H.size) (CtQ D (va_A w0 H.size) Wf) mc' ms' (va_A w0 H.size)) (f1 : Cond.methodLink own idx y ∈ wdT) (f2 : Cond.instanceMethod y ∈ wdT) (f4 : Cond.initialized y.cls ∈ wdT) (f5 : Cond.code y cc' n' none ∈ wdT) (hy1 : y.name = "<init>") (hd : y.cls ≠ "java/lang/invoke/MethodHandle" ∧ y.cls ≠ "java/lang/invoke/VarHandle" ∧ (parseMethodDescriptor y.desc).map (fun d => d.parameters.length) = some kA) (hk : as.length = kA) (isC isR : List Nat) (hC : isC.map (fun i => ws[i]?) = w0.map some) (hRr : isR.map (fun i => ws[i]?) = wr.map some) (hnd0 : va_nd isC = true) (hnd : va_nd isR = true) (hdis : ∀ i ∈ isR, i ∉ isC) (hR : lev' + 1 ≤ R.frames ∧ 8 + (n' + 11) + 40 * lev' ≤ R.locals) (hcs : cells + mc' ≤ R.cells ∧ slots + ms' ≤ R.slots) (hst : st = as.reverse ++ .ref q :: rest) (hW : (rest.map fun v => v.category).sum ≤ 8) (hdg : decode cc pc = .ok (.invokespecial idx, 3))
    (kk : ∀ (u : S) (H1 : Heap) (locs1 : List Loc), Hy D A s (wr ++ Wf u) H1 locs1 → W p l e R s m args below meth c H1 locs1 (cells + mc') (slots + ms') Q (F0 m (pc + 3) ls rest)) : W p l e R s m args below meth c H locs cells slots Q (F0 m pc ls st) := by
  obtain ⟨hP, hD, hS⟩ := hH
  have hts := C.2.2.2.2.2.1
  have hPc : va_P D vwCl w0 H := fun k x hx => by
    have h1 : (isC.map (fun i => ws[i]?))[k]? = some (some x) := by rw [hC, List.getElem?_map, hx]; rfl
    rw [List.getElem?_map] at h1
    cases hi : isC[k]? with
    | none => rw [hi] at h1; cases h1
    | some i => rw [hi] at h1; exact hP i x (Option.some.inj h1)
  have hDc : va_D A w0 := hD.sub isC hnd0 hC
  have hF := va_free hD hS hA isC hC
  refine va_callv (va_runI (As := as) (rest := rest) ⟨C.1, C.2.1, C.2.2.2.1, C.2.2.2.2.1, hts⟩ hM (cwI kA hts (gd_tbl f5) rfl rfl rfl (hts _ f4) (hts _ f1) (hts _ f2) hy1 hd hR) ⟨ctP_blind, ctP_at C hPc hDc⟩ rfl hk hl hst (by show 2 * 0 + _ ≤ 8; omega) hdg hcs) hS (fun q _ h => hF q h) hF (fun u t H1 locs1 ht hvm _ hB _ hk1 hS1 => ?_)
  obtain ⟨hP1, hD1⟩ := hB
  rw [ht] at hP1
  have z := va_join hP hD isC isR hC hRr hnd hdis hk1 hF hP1 hD1
  exact kk u H1 locs1 ⟨z.1, z.2, hS1⟩
end KTOR
