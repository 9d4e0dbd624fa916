/-! ===== rules of the walk over this system's memory ===== -/
section WK
variable {p : Program} {l : Launch} {e : Env} {R : Room} {s : State} {m : MethodId} {args : Array Value} {below : List Frame} {meth : Method} {c : Code} {H : Heap} {locs : List Loc} {Q : State → Prop} {cells slots : Nat}
variable {cc : ByteArray} {own : String} {n : Nat} {ret : Option FieldType} {pc : Nat} {ls : Array Slot} {rest : List Value} {D : va_G} {ca : Nat → ClassId} {A : Nat → Prop} {ad : Nat → Nat} {mm : Mm}
theorem rgI (C : Cx D ca A p s m args meth c cc own n ret) (hH : Hx WN ad ca WS D A s.heap mm H locs) {o k idx : Nat} (f : FI own idx o k) (hdg : decode cc pc = .ok (.getfield idx, 3))
    (kk : W p l e R s m args below meth c H locs cells slots Q (F0 m (pc + 3) ls (.int (gI mm o k) :: rest))) : W p l e R s m args below meth c H locs cells slots Q (F0 m pc ls (.ref (ad o) :: rest)) := by
  obtain ⟨ci, ts, Cn, T, NN, ⟨ho, hs, hk, hc, hkn, hin, hl⟩, ht⟩ := f
  exact wgI C hH ho hs hk ht hc hkn hin hl hdg kk
theorem rgS (C : Cx D ca A p s m args meth c cc own n ret) (hH : Hx WN ad ca WS D A s.heap mm H locs) {o k idx o2 : Nat} (f : FS own idx o k o2) (hdg : decode cc pc = .ok (.getfield idx, 3))
    (kk : W p l e R s m args below meth c H locs cells slots Q (F0 m (pc + 3) ls (.ref (ad o2) :: rest))) : W p l e R s m args below meth c H locs cells slots Q (F0 m pc ls (.ref (ad o) :: rest)) := by
  obtain ⟨ci, ts, Cn, T, NN, ⟨ho, hs, hk, hc, hkn, hin, hl⟩, ht⟩ := f
  exact wgS C hH ho hs hk ht hc hkn hin hl hdg kk
theorem rgD (C : Cx D ca A p s m args meth c cc own n ret) (hH : Hx WN ad ca WS D A s.heap mm H locs) {o k idx : Nat} (f : FD own idx o k) (hdg : decode cc pc = .ok (.getfield idx, 3))
    (kk : W p l e R s m args below meth c H locs cells slots Q (F0 m (pc + 3) ls (.ref (ad (gR mm o k)) :: rest))) : W p l e R s m args below meth c H locs cells slots Q (F0 m pc ls (.ref (ad o) :: rest)) := by
  obtain ⟨ci, ts, Cn, T, NN, ⟨ho, hs, hk, hc, hkn, hin, hl⟩, ht⟩ := f
  exact wgD C hH ho hs hk ht hc hkn hin hl hdg kk
theorem rpI (C : Cx D ca A p s m args meth c cc own n ret) (hH : Hx WN ad ca WS D A s.heap mm H locs) {o k idx : Nat} {v : Int32} {ty : FieldType} (f : FPI own idx o k ty) (hn : narrow ty (.int v) = .int v) (hf : fits ty (.int v) = true) (hdg : decode cc pc = .ok (.putfield idx, 3))
    (kk : ∀ (H : Heap) (locs : List Loc), Hx WN ad ca WS D A s.heap (sI mm o k v) H locs → W p l e R s m args below meth c H locs cells slots Q (F0 m (pc + 3) ls rest)) : W p l e R s m args below meth c H locs cells slots Q (F0 m pc ls (.int v :: .ref (ad o) :: rest)) := by
  obtain ⟨ci, ts, Cn, T, NN, ⟨ho, hs, hk, hc, hkn, hin, hl⟩, ht, tf, h1, h2, h3, h4⟩ := f
  exact wpI C hH ho hs hk ht hc hkn hin h1 h2 hl h3 h4 hn hf hdg kk
theorem rpD (C : Cx D ca A p s m args meth c cc own n ret) (hH : Hx WN ad ca WS D A s.heap mm H locs) {o k idx v : Nat} {cn : String} (f : FPD own idx o k (.object cn)) (hdg : decode cc pc = .ok (.putfield idx, 3))
    (kk : ∀ (H : Heap) (locs : List Loc), Hx WN ad ca WS D A s.heap (sR mm o k v) H locs → W p l e R s m args below meth c H locs cells slots Q (F0 m (pc + 3) ls rest)) : W p l e R s m args below meth c H locs cells slots Q (F0 m pc ls (.ref (ad v) :: .ref (ad o) :: rest)) := by
  obtain ⟨ci, ts, Cn, T, NN, ⟨ho, hs, hk, hc, hkn, hin, hl⟩, ht, tf, h1, h2, h3, h4⟩ := f
  exact wpD C hH ho hs hk ht hc hkn hin h1 h2 hl h3 h4 (fun _ => rfl) (fun _ => rfl) hdg kk
/-- stack rows in the denotations' words -/
theorem lv_irem' (hexec : p.tables.exec = Jvm.exec) (hb : c.code = cc) {x y : Int32} (hdg : decode cc pc = .ok (.irem, 1)) (hne : ¬ y = 0) (k : W p l e R s m args below meth c H locs cells slots Q (F0 m (pc + 1) ls (.int (iRem x y) :: rest))) : W p l e R s m args below meth c H locs cells slots Q (F0 m pc ls (.int y :: .int x :: rest)) := lv_irem hexec hb hdg hne k
theorem lv_lrem' (hexec : p.tables.exec = Jvm.exec) (hb : c.code = cc) {x y : Int64} (hdg : decode cc pc = .ok (.lrem, 1)) (hne : ¬ y = 0) (k : W p l e R s m args below meth c H locs cells slots Q (F0 m (pc + 1) ls (.long (lRem x y) :: rest))) : W p l e R s m args below meth c H locs cells slots Q (F0 m pc ls (.long y :: .long x :: rest)) := lv_lrem hexec hb hdg hne k
theorem lv_ishl' (hexec : p.tables.exec = Jvm.exec) (hb : c.code = cc) {x y : Int32} (hdg : decode cc pc = .ok (.ishl, 1)) (k : W p l e R s m args below meth c H locs cells slots Q (F0 m (pc + 1) ls (.int (iShl x y) :: rest))) : W p l e R s m args below meth c H locs cells slots Q (F0 m pc ls (.int y :: .int x :: rest)) := lv_ishl hexec hb hdg k
theorem lv_ishr' (hexec : p.tables.exec = Jvm.exec) (hb : c.code = cc) {x y : Int32} (hdg : decode cc pc = .ok (.ishr, 1)) (k : W p l e R s m args below meth c H locs cells slots Q (F0 m (pc + 1) ls (.int (iShr x y) :: rest))) : W p l e R s m args below meth c H locs cells slots Q (F0 m pc ls (.int y :: .int x :: rest)) := lv_ishr hexec hb hdg k
theorem lv_iushr' (hexec : p.tables.exec = Jvm.exec) (hb : c.code = cc) {x y : Int32} (hdg : decode cc pc = .ok (.iushr, 1)) (k : W p l e R s m args below meth c H locs cells slots Q (F0 m (pc + 1) ls (.int (iUshr x y) :: rest))) : W p l e R s m args below meth c H locs cells slots Q (F0 m pc ls (.int y :: .int x :: rest)) := lv_iushr hexec hb hdg rfl k
theorem lv_lshl' (hexec : p.tables.exec = Jvm.exec) (hb : c.code = cc) {x : Int64} {y : Int32} (hdg : decode cc pc = .ok (.lshl, 1)) (k : W p l e R s m args below meth c H locs cells slots Q (F0 m (pc + 1) ls (.long (lShl x y) :: rest))) : W p l e R s m args below meth c H locs cells slots Q (F0 m pc ls (.int y :: .long x :: rest)) := lv_lshl hexec hb hdg rfl k
theorem lv_i2c' (hexec : p.tables.exec = Jvm.exec) (hb : c.code = cc) {x : Int32} (hdg : decode cc pc = .ok (.i2c, 1)) (k : W p l e R s m args below meth c H locs cells slots Q (F0 m (pc + 1) ls (.int (iC x) :: rest))) : W p l e R s m args below meth c H locs cells slots Q (F0 m pc ls (.int x :: rest)) := lv_i2c hexec hb hdg rfl k
theorem lv_i2b' (hexec : p.tables.exec = Jvm.exec) (hb : c.code = cc) {x : Int32} (hdg : decode cc pc = .ok (.i2b, 1)) (k : W p l e R s m args below meth c H locs cells slots Q (F0 m (pc + 1) ls (.int (iB x) :: rest))) : W p l e R s m args below meth c H locs cells slots Q (F0 m pc ls (.int x :: rest)) := lv_i2b hexec hb hdg rfl k
theorem lv_i2s' (hexec : p.tables.exec = Jvm.exec) (hb : c.code = cc) {x : Int32} (hdg : decode cc pc = .ok (.i2s, 1)) (k : W p l e R s m args below meth c H locs cells slots Q (F0 m (pc + 1) ls (.int (iS x) :: rest))) : W p l e R s m args below meth c H locs cells slots Q (F0 m pc ls (.int x :: rest)) := lv_i2s hexec hb hdg rfl k
theorem lv_i2l' (hexec : p.tables.exec = Jvm.exec) (hb : c.code = cc) {x : Int32} (hdg : decode cc pc = .ok (.i2l, 1)) (k : W p l e R s m args below meth c H locs cells slots Q (F0 m (pc + 1) ls (.long x.toInt64 :: rest))) : W p l e R s m args below meth c H locs cells slots Q (F0 m pc ls (.int x :: rest)) := lv_i2l hexec hb hdg rfl k
theorem lv_l2i' (hexec : p.tables.exec = Jvm.exec) (hb : c.code = cc) {x : Int64} (hdg : decode cc pc = .ok (.l2i, 1)) (k : W p l e R s m args below meth c H locs cells slots Q (F0 m (pc + 1) ls (.int x.toInt32 :: rest))) : W p l e R s m args below meth c H locs cells slots Q (F0 m pc ls (.long x :: rest)) := lv_l2i hexec hb hdg rfl k
theorem lc_le (hexec : p.tables.exec = Jvm.exec) (hb : c.code = cc) {x y : Int64} {off : Int} {tgt : Nat} (hd1 : decode cc pc = .ok (.lcmp, 1)) (hdg : decode cc (pc + 1) = .ok (.ifCond .le off, 3)) (ht : ((pc + 1 : Nat) : Int) + off = (tgt : Int)) (kt : x ≤ y → W p l e R s m args below meth c H locs cells slots Q (F0 m tgt ls rest)) (kf : ¬ x ≤ y → W p l e R s m args below meth c H locs cells slots Q (F0 m (pc + 1 + 3) ls rest)) : W p l e R s m args below meth c H locs cells slots Q (F0 m pc ls (.long y :: .long x :: rest)) :=
  W.lcmp hexec hb hd1 (lv_if_le hexec hb hdg ht (fun h => kt ((lg_cmp_le x y).mp h)) (fun h => kf (fun q => h ((lg_cmp_le x y).mpr q))))
theorem lc_lt (hexec : p.tables.exec = Jvm.exec) (hb : c.code = cc) {x y : Int64} {off : Int} {tgt : Nat} (hd1 : decode cc pc = .ok (.lcmp, 1)) (hdg : decode cc (pc + 1) = .ok (.ifCond .lt off, 3)) (ht : ((pc + 1 : Nat) : Int) + off = (tgt : Int)) (kt : x < y → W p l e R s m args below meth c H locs cells slots Q (F0 m tgt ls rest)) (kf : ¬ x < y → W p l e R s m args below meth c H locs cells slots Q (F0 m (pc + 1 + 3) ls rest)) : W p l e R s m args below meth c H locs cells slots Q (F0 m pc ls (.long y :: .long x :: rest)) :=
  W.lcmp hexec hb hd1 (lv_if_lt hexec hb hdg ht (fun h => kt ((lg_cmp_lt x y).mp h)) (fun h => kf (fun q => h ((lg_cmp_lt x y).mpr q))))
theorem lc_ge (hexec : p.tables.exec = Jvm.exec) (hb : c.code = cc) {x y : Int64} {off : Int} {tgt : Nat} (hd1 : decode cc pc = .ok (.lcmp, 1)) (hdg : decode cc (pc + 1) = .ok (.ifCond .ge off, 3)) (ht : ((pc + 1 : Nat) : Int) + off = (tgt : Int)) (kt : y ≤ x → W p l e R s m args below meth c H locs cells slots Q (F0 m tgt ls rest)) (kf : ¬ y ≤ x → W p l e R s m args below meth c H locs cells slots Q (F0 m (pc + 1 + 3) ls rest)) : W p l e R s m args below meth c H locs cells slots Q (F0 m pc ls (.long y :: .long x :: rest)) :=
  W.lcmp hexec hb hd1 (lv_if_ge hexec hb hdg ht (fun h => kt ((lg_cmp_ge x y).mp h)) (fun h => kf (fun q => h ((lg_cmp_ge x y).mpr q))))
theorem lc_gt (hexec : p.tables.exec = Jvm.exec) (hb : c.code = cc) {x y : Int64} {off : Int} {tgt : Nat} (hd1 : decode cc pc = .ok (.lcmp, 1)) (hdg : decode cc (pc + 1) = .ok (.ifCond .gt off, 3)) (ht : ((pc + 1 : Nat) : Int) + off = (tgt : Int)) (kt : y < x → W p l e R s m args below meth c H locs cells slots Q (F0 m tgt ls rest)) (kf : ¬ y < x → W p l e R s m args below meth c H locs cells slots Q (F0 m (pc + 1 + 3) ls rest)) : W p l e R s m args below meth c H locs cells slots Q (F0 m pc ls (.long y :: .long x :: rest)) :=
  W.lcmp hexec hb hd1 (lv_if_gt hexec hb hdg ht (fun h => kt ((lg_cmp_gt x y).mp h)) (fun h => kf (fun q => h ((lg_cmp_gt x y).mpr q))))
theorem lc_eq (hexec : p.tables.exec = Jvm.exec) (hb : c.code = cc) {x y : Int64} {off : Int} {tgt : Nat} (hd1 : decode cc pc = .ok (.lcmp, 1)) (hdg : decode cc (pc + 1) = .ok (.ifCond .eq off, 3)) (ht : ((pc + 1 : Nat) : Int) + off = (tgt : Int)) (kt : x = y → W p l e R s m args below meth c H locs cells slots Q (F0 m tgt ls rest)) (kf : ¬ x = y → W p l e R s m args below meth c H locs cells slots Q (F0 m (pc + 1 + 3) ls rest)) : W p l e R s m args below meth c H locs cells slots Q (F0 m pc ls (.long y :: .long x :: rest)) :=
  W.lcmp hexec hb hd1 (lv_if_eq hexec hb hdg ht (fun h => kt ((lg_cmp_eq x y).mp h)) (fun h => kf (fun q => h ((lg_cmp_eq x y).mpr q))))
theorem lc_ne (hexec : p.tables.exec = Jvm.exec) (hb : c.code = cc) {x y : Int64} {off : Int} {tgt : Nat} (hd1 : decode cc pc = .ok (.lcmp, 1)) (hdg : decode cc (pc + 1) = .ok (.ifCond .ne off, 3)) (ht : ((pc + 1 : Nat) : Int) + off = (tgt : Int)) (kt : ¬ x = y → W p l e R s m args below meth c H locs cells slots Q (F0 m tgt ls rest)) (kf : x = y → W p l e R s m args below meth c H locs cells slots Q (F0 m (pc + 1 + 3) ls rest)) : W p l e R s m args below meth c H locs cells slots Q (F0 m pc ls (.long y :: .long x :: rest)) :=
  W.lcmp hexec hb hd1 (lv_if_ne hexec hb hdg ht (fun h => kt (fun q => h ((lg_cmp_eq x y).mpr q))) (fun h => kf ((lg_cmp_eq x y).mp h)))
/-- constants, statics, Math, arraycopy -/
theorem rldc (C : Cx D ca A p s m args meth c cc own n ret) {v : Int32} {idx : Nat} (h : Cond.constant own idx v ∈ wdT) (hdg : decode cc pc = .ok (.ldc idx, 2)) (k : W p l e R s m args below meth c H locs cells slots Q (F0 m (pc + 2) ls (.int v :: rest))) : W p l e R s m args below meth c H locs cells slots Q (F0 m pc ls rest) := lv_ldc C.1 C.2.1 C.2.2.2.2.1 (C.2.2.2.2.2.1 _ h) hdg k
theorem rldcw (C : Cx D ca A p s m args meth c cc own n ret) {v : Int32} {idx : Nat} (h : Cond.constant own idx v ∈ wdT) (hdg : decode cc pc = .ok (.ldc_w idx, 3)) (k : W p l e R s m args below meth c H locs cells slots Q (F0 m (pc + 3) ls (.int v :: rest))) : W p l e R s m args below meth c H locs cells slots Q (F0 m pc ls rest) := lv_ldcw C.1 C.2.1 C.2.2.2.2.1 (C.2.2.2.2.2.1 _ h) hdg k
theorem rldc2 (C : Cx D ca A p s m args meth c cc own n ret) {v : Int64} {idx : Nat} (h : Cond.constantLong own idx v ∈ wdT) (hdg : decode cc pc = .ok (.ldc2_w idx, 3)) (k : W p l e R s m args below meth c H locs cells slots Q (F0 m (pc + 3) ls (.long v :: rest))) : W p l e R s m args below meth c H locs cells slots Q (F0 m pc ls rest) := lv_ldc2 C.1 C.2.1 C.2.2.2.2.1 (C.2.2.2.2.2.1 _ h) hdg k
theorem rst (C : Cx D ca A p s m args meth c cc own n ret) (hH : Hx WN ad ca WS D A s.heap mm H locs) {Cn fn : String} {NT idx : Nat} {tb : Nat → Int32} (hT : StT Cn fn NT tb A s s.heap) (h : Cond.fieldLink own idx Cn fn "[I" ∈ wdT) (hdg : decode cc pc = .ok (.getstatic idx, 3))
    (k : ∀ t : Nat, va_T .int t NT (fun k => .int (tb k)) A s s.heap → W p l e R s m args below meth c H locs cells slots Q (F0 m (pc + 3) ls (.ref t :: rest))) : W p l e R s m args below meth c H locs cells slots Q (F0 m pc ls rest) := by
  obtain ⟨t, h1, h2⟩ := hT
  exact va_gets C.1 C.2.1 h1 hH.2.2 C.2.2.2.2.1 (C.2.2.2.2.2.1 _ h) (fun _ q => q) hdg (k t h2)
theorem rsti (C : Cx D ca A p s m args meth c cc own n ret) (hH : Hx WN ad ca WS D A s.heap mm H locs) {NT t : Nat} {tb : Nat → Int32} {i : Int32} (hT : va_T .int t NT (fun k => .int (tb k)) A s s.heap) (hi : vp_in i NT) (hdg : decode cc pc = .ok (.iaload, 1))
    (k : W p l e R s m args below meth c H locs cells slots Q (F0 m (pc + 1) ls (.int (tb i.toNatClampNeg) :: rest))) : W p l e R s m args below meth c H locs cells slots Q (F0 m pc ls (.int i :: .ref t :: rest)) := va_ti C.1 C.2.1 hT hH.2.2 hi rfl hdg k
theorem rstl (C : Cx D ca A p s m args meth c cc own n ret) (hH : Hx WN ad ca WS D A s.heap mm H locs) {NT t : Nat} {tb : Nat → Int32} {v : Int32} (hT : va_T .int t NT (fun k => .int (tb k)) A s s.heap) (hv : Int32.ofNat NT = v) (hdg : decode cc pc = .ok (.arraylength, 1))
    (k : W p l e R s m args below meth c H locs cells slots Q (F0 m (pc + 1) ls (.int v :: rest))) : W p l e R s m args below meth c H locs cells slots Q (F0 m pc ls (.ref t :: rest)) := va_tlen C.1 C.2.1 hT hH.2.2 hv hdg k
theorem rmax (C : Cx D ca A p s m args meth c cc own n ret) (hl : ls.size = n) {x y : Int32} {idx : Nat} (f : Cond.methodLink own idx Lib.Math.max.name ∈ wdT ∧ Cond.static Lib.Math.max.name ∈ wdT ∧ Cond.initialized "java/lang/Math" ∈ wdT ∧ Cond.code Lib.Math.max.name Lib.Math.max.code 2 (some .int) ∈ wdT) (hR : RR R 0 2 cells slots) (hW : (rest.map fun v => v.category).sum ≤ 8) (hdg : decode cc pc = .ok (.invokestatic idx, 3))
    (k : W p l e R s m args below meth c H locs cells slots Q (F0 m (pc + 3) ls (.int (iMax x y) :: rest))) : W p l e R s m args below meth c H locs cells slots Q (F0 m pc ls (.int y :: .int x :: rest)) := by
  obtain ⟨hx, hb, hr, hml, hown, hts, hlk, hK, hSt⟩ := C
  exact va_mmax hx hb (hml.trans hl.symm) hown (hts _ f.1) (hts _ f.2.1) (hts _ f.2.2.1) (hts _ f.2.2.2) (by have := hR.1.1; omega) (by have := hR.1.2; omega) hR.2.1 hR.2.2 hdg k
theorem rmin (C : Cx D ca A p s m args meth c cc own n ret) (hl : ls.size = n) {x y : Int32} {idx : Nat} (f : Cond.methodLink own idx Lib.Math.min.name ∈ wdT ∧ Cond.static Lib.Math.min.name ∈ wdT ∧ Cond.initialized "java/lang/Math" ∈ wdT ∧ Cond.code Lib.Math.min.name Lib.Math.min.code 2 (some .int) ∈ wdT) (hR : RR R 0 2 cells slots) (hW : (rest.map fun v => v.category).sum ≤ 8) (hdg : decode cc pc = .ok (.invokestatic idx, 3))
    (k : W p l e R s m args below meth c H locs cells slots Q (F0 m (pc + 3) ls (.int (iMin x y) :: rest))) : W p l e R s m args below meth c H locs cells slots Q (F0 m pc ls (.int y :: .int x :: rest)) := by
  obtain ⟨hx, hb, hr, hml, hown, hts, hlk, hK, hSt⟩ := C
  exact va_mmin hx hb (hml.trans hl.symm) hown (hts _ f.1) (hts _ f.2.1) (hts _ f.2.2.1) (hts _ f.2.2.2) (by have := hR.1.1; omega) (by have := hR.1.2; omega) hR.2.1 hR.2.2 hdg k
theorem rmaxl (C : Cx D ca A p s m args meth c cc own n ret) (hl : ls.size = n) {x y : Int64} {idx : Nat} (f : Cond.methodLink own idx Lib.MathLoose.max_long.x ∈ wdT ∧ Cond.static Lib.MathLoose.max_long.x ∈ wdT ∧ Cond.initialized "java/lang/Math" ∈ wdT ∧ Cond.code Lib.MathLoose.max_long.x Lib.MathLoose.max_long.code 4 (some .long) ∈ wdT) (hR : RR R 0 4 cells slots) (hW : (rest.map fun v => v.category).sum ≤ 8) (hdg : decode cc pc = .ok (.invokestatic idx, 3))
    (k : W p l e R s m args below meth c H locs cells slots Q (F0 m (pc + 3) ls (.long (lMax x y) :: rest))) : W p l e R s m args below meth c H locs cells slots Q (F0 m pc ls (.long y :: .long x :: rest)) := by
  obtain ⟨hx, hb, hr, hml, hown, hts, hlk, hK, hSt⟩ := C
  exact va_mmax_long hx hb (hml.trans hl.symm) hown (hts _ f.1) (hts _ f.2.1) (hts _ f.2.2.1) (hts _ f.2.2.2) (by have := hR.1.1; omega) (by have := hR.1.2; omega) hR.2.1 hR.2.2 hdg k
abbrev CC (own : String) (idx : Nat) : Prop := Cond.methodLink own idx arraycopyName ∈ wdT ∧ Cond.native arraycopyName ∈ wdT ∧ Cond.static arraycopyName ∈ wdT ∧ Cond.initialized "java/lang/System" ∈ wdT
theorem rcpI (C : Cx D ca A p s m args meth c cc own n ret) (hH : Hx WN ad ca WS D A s.heap mm H locs) (hl : ls.size = n) {idx o o1 n0 n1 b0 b1 : Nat} {i j w : Int32} (f : CC own idx) (h0 : o < WN) (hs0 : WS o = .inr (0, n0, b0)) (h1 : o1 < WN) (hs1 : WS o1 = .inr (0, n1, b1)) (ok : cpOk i j w n0 n1) (hR : RR R 0 5 cells slots) (hW : (rest.map fun v => v.category).sum + (nativeFrameWords "java/lang/System" "arraycopy" 5 + 11) ≤ R.locals) (hdg : decode cc pc = .ok (.invokestatic idx, 3))
    (kk : ∀ (H : Heap) (locs : List Loc), Hx WN ad ca WS D A s.heap (cpI mm o o1 i j w) H locs → W p l e R s m args below meth c H locs cells slots Q (F0 m (pc + 3) ls rest)) : W p l e R s m args below meth c H locs cells slots Q (F0 m pc ls (.int w :: .int j :: .ref (ad o1) :: .int i :: .ref (ad o) :: rest)) := by
  obtain ⟨hx, hb, hr, hml, hown, hts, hlk, hK, hSt⟩ := C
  obtain ⟨hP, hD, hS⟩ := hH
  refine va_copyi hx hb (hml.trans hl.symm) hown (hts _ f.1) (hts _ f.2.1) (hts _ f.2.2.1) (hts _ f.2.2.2) hK hP hD hS o o1 0 0 ((wld_get h0).trans (by rw [ce_a hs0, av_I (by decide)])) ((wld_get h1).trans (by rw [ce_a hs1, av_I (by decide)])) rfl rfl rfl ok.1 ok.2.1 ok.2.2.1 ok.2.2.2.1 ok.2.2.2.2 (fun _ _ => rfl) (by have := hR.1.1; omega) hW hdg (fun H1 l1 q1 q2 q3 => kk H1 l1 ?_)
  rw [wld_aI (m' := cpI mm o o1 i j w) h1 hs1 (by decide) (fun j => by simp [cpI, rI]) (rI_ne _)] at q1 q2
  exact ⟨q1, q2, q3⟩
theorem rcpL (C : Cx D ca A p s m args meth c cc own n ret) (hH : Hx WN ad ca WS D A s.heap mm H locs) (hl : ls.size = n) {idx o o1 n0 n1 b0 b1 : Nat} {i j w : Int32} (f : CC own idx) (h0 : o < WN) (hs0 : WS o = .inr (3, n0, b0)) (h1 : o1 < WN) (hs1 : WS o1 = .inr (3, n1, b1)) (ok : cpOk i j w n0 n1) (hR : RR R 0 5 cells slots) (hW : (rest.map fun v => v.category).sum + (nativeFrameWords "java/lang/System" "arraycopy" 5 + 11) ≤ R.locals) (hdg : decode cc pc = .ok (.invokestatic idx, 3))
    (kk : ∀ (H : Heap) (locs : List Loc), Hx WN ad ca WS D A s.heap (cpL mm o o1 i j w) H locs → W p l e R s m args below meth c H locs cells slots Q (F0 m (pc + 3) ls rest)) : W p l e R s m args below meth c H locs cells slots Q (F0 m pc ls (.int w :: .int j :: .ref (ad o1) :: .int i :: .ref (ad o) :: rest)) := by
  obtain ⟨hx, hb, hr, hml, hown, hts, hlk, hK, hSt⟩ := C
  obtain ⟨hP, hD, hS⟩ := hH
  refine va_copyl hx hb (hml.trans hl.symm) hown (hts _ f.1) (hts _ f.2.1) (hts _ f.2.2.1) (hts _ f.2.2.2) hK hP hD hS o o1 3 3 ((wld_get h0).trans (by rw [ce_a hs0, av_L])) ((wld_get h1).trans (by rw [ce_a hs1, av_L])) rfl rfl rfl ok.1 ok.2.1 ok.2.2.1 ok.2.2.2.1 ok.2.2.2.2 (fun _ _ => rfl) (by have := hR.1.1; omega) hW hdg (fun H1 l1 q1 q2 q3 => kk H1 l1 ?_)
  rw [wld_aL (m' := cpL mm o o1 i j w) h1 hs1 (fun j => by simp [cpL, rL]) (rL_ne _)] at q1 q2
  exact ⟨q1, q2, q3⟩
theorem retR {lev : Nat} {v : Nat} {m2 : Mm} {cn : String} (C : Cx D ca A p s m args meth c cc own n (some (.object cn))) (hH : Hx WN ad ca WS D A s.heap m2 H locs) (hdg : decode cc pc = .ok (.areturn, 1)) :
    W p l e (rmk lev) s m args below meth c H locs 0 0 (MQ below (QcR WN ad ca WS D A (v, m2)) args s 0 0 A) (F0 m pc ls [.ref (ad v)]) :=
  W.aret (v := .ref (ad v)) (rt := .object cn) C.1 C.2.1 C.2.2.1 (Or.inl ⟨cn, rfl⟩) (Or.inr ⟨_, rfl⟩) (fun t ht hW => ⟨⟨m2, ad v, rfl, rfl, rfl, by show va_P _ _ _ t.heap; rw [ht]; exact hH.1⟩, hH.2.2.F ht⟩) hH.2.2.2.2 hdg C.2.2.2.2.2.2.1
/-- calls -/
theorem pcx_blind {as : List Value} : FrameBlind (PcX WN ad ca WS D A as mm) := fun a U g mk q => by
  obtain ⟨q0, qP, qK, qD, qS⟩ := q
  exact ⟨q0, qP, va_K.moved (u := U) (U := U.calling g mk a) (Vm.Alike.refl U.vm) qK, qD, qS.calling⟩
theorem pcx_at {as : List Value} (C : Cx D ca A p s m args meth c cc own n ret) (hH : Hx WN ad ca WS D A s.heap mm H locs) : ∀ U : State, U.heap = H → s.WarmedH U.vm → PcX WN ad ca WS D A as mm as.toArray U := by
  obtain ⟨hx, hb, hr, hml, hown, hts, hlk, hK, hSt⟩ := C
  obtain ⟨hP, hD, hS⟩ := hH
  intro U hU hW
  exact ⟨rfl, by rw [hU]; exact hP, va_K.moved hW.alike hK, hD, by rw [hU]; exact hSt.go hW hS.2.1⟩
theorem cell_at (C : Cx D ca A p s m args meth c cc own n ret) (hH : Hx WN ad ca WS D A s.heap mm H locs) {o : Nat} {Cn : String} (hr : RO o Cn) : ∃ cellB : Cell, H[ad o]? = some cellB ∧ cellB.vm.isStatics = false ∧ s.vm.findClass Cn = some cellB.cls := by
  obtain ⟨ci, ts, T, NN, ho, hs, hc⟩ := hr
  exact va_recv C.2.2.2.2.2.2.2.1 hH.1 hc ((wld_get ho).trans (by rw [ce_o hs]))
theorem cw_of (C : Cx D ca A p s m args meth c cc own n ret) {idx k n' lev' : Nat} {y : MethodName} {cc' : ByteArray} {rt : Option FieldType} (f : CF own idx y cc' n' rt k) (hR : RR R lev' n' cells slots) : CallW R s args own y.cls idx y cc' n' rt (wsOf y cc' n' rt) (rmk lev') 0 0 k := by
  obtain ⟨f1, f2, f3, f4, f5, f6, f7, f8⟩ := f
  have hts := C.2.2.2.2.2.1
  exact ⟨callB_of k hts (gd_tbl f5) rfl rfl rfl (hts _ f4) (hts _ f1) ⟨f6, f7, f8⟩ hR.1, hts _ f2, hts _ f3⟩
theorem cs_of (C : Cx D ca A p s m args meth c cc own n ret) {idx k n' lev' : Nat} {y : MethodName} {cc' : ByteArray} {rt : Option FieldType} (f : CS own idx y cc' n' rt k) (hR : RR R lev' n' cells slots) : CallB R s args own idx y cc' n' rt (wsOf y cc' n' rt) (rmk lev') 0 0 k ∧ (Cond.static y).before args s = true := by
  obtain ⟨f1, f2, f4, f5, f6, f7, f8⟩ := f
  have hts := C.2.2.2.2.2.1
  exact ⟨callB_of k hts (gd_tbl f5) rfl rfl rfl (hts _ f4) (hts _ f1) ⟨f6, f7, f8⟩ hR.1, hts _ f2⟩
theorem hx_back {m2 : Mm} {H1 : Heap} {locs1 : List Loc} {t : State} (hH : Hx WN ad ca WS D A s.heap mm H locs) (ht : t.heap = H1) (hP : va_P D vwCl (wld WN ad ca WS m2) t.heap) (hS : va_S A s.heap H1 locs1) : Hx WN ad ca WS D A s.heap m2 H1 locs1 := ⟨by rw [← ht]; exact hP, wld_D hH.2.1, hS⟩
theorem rcI (C : Cx D ca A p s m args meth c cc own n ret) (hH : Hx WN ad ca WS D A s.heap mm H locs) (hl : ls.size = n) {o idx k n' lev' : Nat} {y : MethodName} {cc' : ByteArray} {rt : Option FieldType} {as st : List Value} {pz : Int32 → Prop} {q : Int32 × Mm} (hM : Met l y (wsOf y cc' n' rt) (rmk lev') (PcX WN ad ca WS D A (.ref (ad o) :: as) mm) (QcI WN ad ca WS D A pz q) 0 0 A) (f : CF own idx y cc' n' rt k) (hr : RO o y.cls) (hR : RR R lev' n' cells slots) (hk : as.length = k) (hst : st = as.reverse ++ .ref (ad o) :: rest) (hW : (rest.map fun v => v.category).sum ≤ 8) (hdg : decode cc pc = .ok (.invokevirtual idx, 3))
    (kk : pz q.1 → ∀ (H : Heap) (locs : List Loc), Hx WN ad ca WS D A s.heap q.2 H locs → W p l e R s m args below meth c H locs cells slots Q (F0 m (pc + 3) ls (.int q.1 :: rest))) : W p l e R s m args below meth c H locs cells slots Q (F0 m pc ls st) :=
  va_calli (va_runV (As := as) (rest := rest) ⟨C.1, C.2.1, C.2.2.2.1, C.2.2.2.2.1, C.2.2.2.2.2.1⟩ hM (cw_of C f hR) ⟨pcx_blind, cell_at C hH hr, pcx_at C hH⟩ rfl hk hl hst (by show 2 * 0 + _ ≤ 8; omega) hdg ⟨hR.2.1, hR.2.2⟩) hH.2.2 (fun _ _ h => h) (fun _ h => h) (fun r u t H1 l1 ht _ hp hB _ _ hS => by
    obtain ⟨rfl, rfl, hz⟩ := hp
    exact kk hz H1 l1 (hx_back hH ht hB hS))
theorem rcL (C : Cx D ca A p s m args meth c cc own n ret) (hH : Hx WN ad ca WS D A s.heap mm H locs) (hl : ls.size = n) {o idx k n' lev' : Nat} {y : MethodName} {cc' : ByteArray} {rt : Option FieldType} {as st : List Value} {q : Int64 × Mm} (hM : Met l y (wsOf y cc' n' rt) (rmk lev') (PcX WN ad ca WS D A (.ref (ad o) :: as) mm) (QcL WN ad ca WS D A q) 0 0 A) (f : CF own idx y cc' n' rt k) (hr : RO o y.cls) (hR : RR R lev' n' cells slots) (hk : as.length = k) (hst : st = as.reverse ++ .ref (ad o) :: rest) (hW : (rest.map fun v => v.category).sum ≤ 8) (hdg : decode cc pc = .ok (.invokevirtual idx, 3))
    (kk : ∀ (H : Heap) (locs : List Loc), Hx WN ad ca WS D A s.heap q.2 H locs → W p l e R s m args below meth c H locs cells slots Q (F0 m (pc + 3) ls (.long q.1 :: rest))) : W p l e R s m args below meth c H locs cells slots Q (F0 m pc ls st) :=
  va_calll (va_runV (As := as) (rest := rest) ⟨C.1, C.2.1, C.2.2.2.1, C.2.2.2.2.1, C.2.2.2.2.2.1⟩ hM (cw_of C f hR) ⟨pcx_blind, cell_at C hH hr, pcx_at C hH⟩ rfl hk hl hst (by show 2 * 0 + _ ≤ 8; omega) hdg ⟨hR.2.1, hR.2.2⟩) hH.2.2 (fun _ _ h => h) (fun _ h => h) (fun r u t H1 l1 ht _ hp hB _ _ hS => by
    obtain ⟨rfl, rfl⟩ := hp
    exact kk H1 l1 (hx_back hH ht hB hS))
theorem rcV (C : Cx D ca A p s m args meth c cc own n ret) (hH : Hx WN ad ca WS D A s.heap mm H locs) (hl : ls.size = n) {o idx k n' lev' : Nat} {y : MethodName} {cc' : ByteArray} {rt : Option FieldType} {as st : List Value} {q : Unit × Mm} (hM : Met l y (wsOf y cc' n' rt) (rmk lev') (PcX WN ad ca WS D A (.ref (ad o) :: as) mm) (QcV WN ad ca WS D A q) 0 0 A) (f : CF own idx y cc' n' rt k) (hr : RO o y.cls) (hR : RR R lev' n' cells slots) (hk : as.length = k) (hst : st = as.reverse ++ .ref (ad o) :: rest) (hW : (rest.map fun v => v.category).sum ≤ 8) (hdg : decode cc pc = .ok (.invokevirtual idx, 3))
    (kk : ∀ (H : Heap) (locs : List Loc), Hx WN ad ca WS D A s.heap q.2 H locs → W p l e R s m args below meth c H locs cells slots Q (F0 m (pc + 3) ls rest)) : W p l e R s m args below meth c H locs cells slots Q (F0 m pc ls st) :=
  va_callv (va_runV (As := as) (rest := rest) ⟨C.1, C.2.1, C.2.2.2.1, C.2.2.2.2.1, C.2.2.2.2.2.1⟩ hM (cw_of C f hR) ⟨pcx_blind, cell_at C hH hr, pcx_at C hH⟩ rfl hk hl hst (by show 2 * 0 + _ ≤ 8; omega) hdg ⟨hR.2.1, hR.2.2⟩) hH.2.2 (fun _ _ h => h) (fun _ h => h) (fun u t H1 l1 ht _ hp hB _ _ hS => by
    subst hp
    exact kk H1 l1 (hx_back hH ht hB hS))
theorem rcR (C : Cx D ca A p s m args meth c cc own n ret) (hH : Hx WN ad ca WS D A s.heap mm H locs) (hl : ls.size = n) {o idx k n' lev' : Nat} {y : MethodName} {cc' : ByteArray} {rt : Option FieldType} {as st : List Value} {q : Nat × Mm} (hM : Met l y (wsOf y cc' n' rt) (rmk lev') (PcX WN ad ca WS D A (.ref (ad o) :: as) mm) (QcR WN ad ca WS D A q) 0 0 A) (f : CF own idx y cc' n' rt k) (hr : RO o y.cls) (hR : RR R lev' n' cells slots) (hk : as.length = k) (hst : st = as.reverse ++ .ref (ad o) :: rest) (hW : (rest.map fun v => v.category).sum ≤ 8) (hdg : decode cc pc = .ok (.invokevirtual idx, 3))
    (kk : ∀ (H : Heap) (locs : List Loc), Hx WN ad ca WS D A s.heap q.2 H locs → W p l e R s m args below meth c H locs cells slots Q (F0 m (pc + 3) ls (.ref (ad q.1) :: rest))) : W p l e R s m args below meth c H locs cells slots Q (F0 m pc ls st) :=
  va_callr (va_runV (As := as) (rest := rest) ⟨C.1, C.2.1, C.2.2.2.1, C.2.2.2.2.1, C.2.2.2.2.2.1⟩ hM (cw_of C f hR) ⟨pcx_blind, cell_at C hH hr, pcx_at C hH⟩ rfl hk hl hst (by show 2 * 0 + _ ≤ 8; omega) hdg ⟨hR.2.1, hR.2.2⟩) hH.2.2 (fun _ _ h => h) (fun _ h => h) (fun u a t H1 l1 ht _ hp hB _ _ hS => by
    subst hp
    obtain ⟨rfl, hB⟩ := hB
    exact kk H1 l1 (hx_back hH ht hB hS))
theorem rsI (C : Cx D ca A p s m args meth c cc own n ret) (hH : Hx WN ad ca WS D A s.heap mm H locs) (hl : ls.size = n) {idx k n' lev' : Nat} {y : MethodName} {cc' : ByteArray} {rt : Option FieldType} {as st : List Value} {pz : Int32 → Prop} {q : Int32 × Mm} (hM : Met l y (wsOf y cc' n' rt) (rmk lev') (PcX WN ad ca WS D A as mm) (QcI WN ad ca WS D A pz q) 0 0 A) (f : CS own idx y cc' n' rt k) (hR : RR R lev' n' cells slots) (hk : as.length = k) (hst : st = as.reverse ++ rest) (hW : (rest.map fun v => v.category).sum ≤ 8) (hdg : decode cc pc = .ok (.invokestatic idx, 3))
    (kk : pz q.1 → ∀ (H : Heap) (locs : List Loc), Hx WN ad ca WS D A s.heap q.2 H locs → W p l e R s m args below meth c H locs cells slots Q (F0 m (pc + 3) ls (.int q.1 :: rest))) : W p l e R s m args below meth c H locs cells slots Q (F0 m pc ls st) :=
  va_calli (va_runS (As := as) (rest := rest) ⟨C.1, C.2.1, C.2.2.2.1, C.2.2.2.2.1, C.2.2.2.2.2.1⟩ hM (cs_of C f hR) ⟨pcx_blind, pcx_at C hH⟩ rfl hk hl hst (by show 2 * 0 + _ ≤ 8; omega) hdg ⟨hR.2.1, hR.2.2⟩) hH.2.2 (fun _ _ h => h) (fun _ h => h) (fun r u t H1 l1 ht _ hp hB _ _ hS => by
    obtain ⟨rfl, rfl, hz⟩ := hp
    exact kk hz H1 l1 (hx_back hH ht hB hS))
theorem rsL (C : Cx D ca A p s m args meth c cc own n ret) (hH : Hx WN ad ca WS D A s.heap mm H locs) (hl : ls.size = n) {idx k n' lev' : Nat} {y : MethodName} {cc' : ByteArray} {rt : Option FieldType} {as st : List Value} {q : Int64 × Mm} (hM : Met l y (wsOf y cc' n' rt) (rmk lev') (PcX WN ad ca WS D A as mm) (QcL WN ad ca WS D A q) 0 0 A) (f : CS own idx y cc' n' rt k) (hR : RR R lev' n' cells slots) (hk : as.length = k) (hst : st = as.reverse ++ rest) (hW : (rest.map fun v => v.category).sum ≤ 8) (hdg : decode cc pc = .ok (.invokestatic idx, 3))
    (kk : ∀ (H : Heap) (locs : List Loc), Hx WN ad ca WS D A s.heap q.2 H locs → W p l e R s m args below meth c H locs cells slots Q (F0 m (pc + 3) ls (.long q.1 :: rest))) : W p l e R s m args below meth c H locs cells slots Q (F0 m pc ls st) :=
  va_calll (va_runS (As := as) (rest := rest) ⟨C.1, C.2.1, C.2.2.2.1, C.2.2.2.2.1, C.2.2.2.2.2.1⟩ hM (cs_of C f hR) ⟨pcx_blind, pcx_at C hH⟩ rfl hk hl hst (by show 2 * 0 + _ ≤ 8; omega) hdg ⟨hR.2.1, hR.2.2⟩) hH.2.2 (fun _ _ h => h) (fun _ h => h) (fun r u t H1 l1 ht _ hp hB _ _ hS => by
    obtain ⟨rfl, rfl⟩ := hp
    exact kk H1 l1 (hx_back hH ht hB hS))
theorem rsV (C : Cx D ca A p s m args meth c cc own n ret) (hH : Hx WN ad ca WS D A s.heap mm H locs) (hl : ls.size = n) {idx k n' lev' : Nat} {y : MethodName} {cc' : ByteArray} {rt : Option FieldType} {as st : List Value} {q : Unit × Mm} (hM : Met l y (wsOf y cc' n' rt) (rmk lev') (PcX WN ad ca WS D A as mm) (QcV WN ad ca WS D A q) 0 0 A) (f : CS own idx y cc' n' rt k) (hR : RR R lev' n' cells slots) (hk : as.length = k) (hst : st = as.reverse ++ rest) (hW : (rest.map fun v => v.category).sum ≤ 8) (hdg : decode cc pc = .ok (.invokestatic idx, 3))
    (kk : ∀ (H : Heap) (locs : List Loc), Hx WN ad ca WS D A s.heap q.2 H locs → W p l e R s m args below meth c H locs cells slots Q (F0 m (pc + 3) ls rest)) : W p l e R s m args below meth c H locs cells slots Q (F0 m pc ls st) :=
  va_callv (va_runS (As := as) (rest := rest) ⟨C.1, C.2.1, C.2.2.2.1, C.2.2.2.2.1, C.2.2.2.2.2.1⟩ hM (cs_of C f hR) ⟨pcx_blind, pcx_at C hH⟩ rfl hk hl hst (by show 2 * 0 + _ ≤ 8; omega) hdg ⟨hR.2.1, hR.2.2⟩) hH.2.2 (fun _ _ h => h) (fun _ h => h) (fun u t H1 l1 ht _ hp hB _ _ hS => by
    subst hp
    exact kk H1 l1 (hx_back hH ht hB hS))
theorem raI (C : Cx D ca A p s m args meth c cc own n ret) (hH : Hx WN ad ca WS D A s.heap mm H locs) {o N b k : Nat} {i : Int32} (ho : o < WN) (hs : WS o = .inr (0, N, b)) (hi : vp_in i N) (hk : i.toNatClampNeg = k) (hdg : decode cc pc = .ok (.iaload, 1))
    (kk : W p l e R s m args below meth c H locs cells slots Q (F0 m (pc + 1) ls (.int (gI mm o k) :: rest))) : W p l e R s m args below meth c H locs cells slots Q (F0 m pc ls (.int i :: .ref (ad o) :: rest)) := by
  subst hk; exact waI C hH ho hs hi hdg kk
theorem raC (C : Cx D ca A p s m args meth c cc own n ret) (hH : Hx WN ad ca WS D A s.heap mm H locs) {o N b k : Nat} {i : Int32} (ho : o < WN) (hs : WS o = .inr (1, N, b)) (hi : vp_in i N) (hk : i.toNatClampNeg = k) (hdg : decode cc pc = .ok (.caload, 1))
    (kk : W p l e R s m args below meth c H locs cells slots Q (F0 m (pc + 1) ls (.int (gI mm o k) :: rest))) : W p l e R s m args below meth c H locs cells slots Q (F0 m pc ls (.int i :: .ref (ad o) :: rest)) := by
  subst hk; exact waC C hH ho hs hi hdg kk
theorem raZ (C : Cx D ca A p s m args meth c cc own n ret) (hH : Hx WN ad ca WS D A s.heap mm H locs) {o N b k : Nat} {i : Int32} (ho : o < WN) (hs : WS o = .inr (2, N, b)) (hi : vp_in i N) (hk : i.toNatClampNeg = k) (hdg : decode cc pc = .ok (.baload, 1))
    (kk : W p l e R s m args below meth c H locs cells slots Q (F0 m (pc + 1) ls (.int (gI mm o k) :: rest))) : W p l e R s m args below meth c H locs cells slots Q (F0 m pc ls (.int i :: .ref (ad o) :: rest)) := by
  subst hk; exact waZ C hH ho hs hi hdg kk
theorem raL (C : Cx D ca A p s m args meth c cc own n ret) (hH : Hx WN ad ca WS D A s.heap mm H locs) {o N b k : Nat} {i : Int32} (ho : o < WN) (hs : WS o = .inr (3, N, b)) (hi : vp_in i N) (hk : i.toNatClampNeg = k) (hdg : decode cc pc = .ok (.laload, 1))
    (kk : W p l e R s m args below meth c H locs cells slots Q (F0 m (pc + 1) ls (.long (gL mm o k) :: rest))) : W p l e R s m args below meth c H locs cells slots Q (F0 m pc ls (.int i :: .ref (ad o) :: rest)) := by
  subst hk; exact waL C hH ho hs hi hdg kk
theorem raS (C : Cx D ca A p s m args meth c cc own n ret) (hH : Hx WN ad ca WS D A s.heap mm H locs) {o N b k : Nat} {i : Int32} (ho : o < WN) (hs : WS o = .inr (4, N, b)) (hi : vp_in i N) (hk : i.toNatClampNeg = k) (hdg : decode cc pc = .ok (.aaload, 1))
    (kk : W p l e R s m args below meth c H locs cells slots Q (F0 m (pc + 1) ls (.ref (ad (b + k)) :: rest))) : W p l e R s m args below meth c H locs cells slots Q (F0 m pc ls (.int i :: .ref (ad o) :: rest)) := by
  subst hk; exact waS C hH ho hs hi hdg kk
theorem raG (C : Cx D ca A p s m args meth c cc own n ret) (hH : Hx WN ad ca WS D A s.heap mm H locs) {o N b k : Nat} {i : Int32} (ho : o < WN) (hs : WS o = .inr (5, N, b)) (hi : vp_in i N) (hk : i.toNatClampNeg = k) (hdg : decode cc pc = .ok (.aaload, 1))
    (kk : W p l e R s m args below meth c H locs cells slots Q (F0 m (pc + 1) ls (.ref (ad (b + k)) :: rest))) : W p l e R s m args below meth c H locs cells slots Q (F0 m pc ls (.int i :: .ref (ad o) :: rest)) := by
  subst hk; exact waG C hH ho hs hi hdg kk
theorem rwI (C : Cx D ca A p s m args meth c cc own n ret) (hH : Hx WN ad ca WS D A s.heap mm H locs) {o N b k : Nat} {i v : Int32} (ho : o < WN) (hs : WS o = .inr (0, N, b)) (hi : vp_in i N) (hk : i.toNatClampNeg = k) (hdg : decode cc pc = .ok (.iastore, 1))
    (kk : ∀ (H : Heap) (locs : List Loc), Hx WN ad ca WS D A s.heap (sI mm o k v) H locs → W p l e R s m args below meth c H locs cells slots Q (F0 m (pc + 1) ls rest)) : W p l e R s m args below meth c H locs cells slots Q (F0 m pc ls (.int v :: .int i :: .ref (ad o) :: rest)) := by
  subst hk; exact wsI C hH ho hs hi hdg kk
theorem rwC (C : Cx D ca A p s m args meth c cc own n ret) (hH : Hx WN ad ca WS D A s.heap mm H locs) {o N b k : Nat} {i v : Int32} (ho : o < WN) (hs : WS o = .inr (1, N, b)) (hi : vp_in i N) (hk : i.toNatClampNeg = k) (hdg : decode cc pc = .ok (.castore, 1))
    (kk : ∀ (H : Heap) (locs : List Loc), Hx WN ad ca WS D A s.heap (sI mm o k (vp_nar .char v)) H locs → W p l e R s m args below meth c H locs cells slots Q (F0 m (pc + 1) ls rest)) : W p l e R s m args below meth c H locs cells slots Q (F0 m pc ls (.int v :: .int i :: .ref (ad o) :: rest)) := by
  subst hk; exact wsC C hH ho hs hi hdg kk
theorem rwZ (C : Cx D ca A p s m args meth c cc own n ret) (hH : Hx WN ad ca WS D A s.heap mm H locs) {o N b k : Nat} {i v : Int32} (ho : o < WN) (hs : WS o = .inr (2, N, b)) (hi : vp_in i N) (hk : i.toNatClampNeg = k) (hdg : decode cc pc = .ok (.bastore, 1))
    (kk : ∀ (H : Heap) (locs : List Loc), Hx WN ad ca WS D A s.heap (sI mm o k (vp_nar .boolean v)) H locs → W p l e R s m args below meth c H locs cells slots Q (F0 m (pc + 1) ls rest)) : W p l e R s m args below meth c H locs cells slots Q (F0 m pc ls (.int v :: .int i :: .ref (ad o) :: rest)) := by
  subst hk; exact wsZ C hH ho hs hi hdg kk
theorem rwL (C : Cx D ca A p s m args meth c cc own n ret) (hH : Hx WN ad ca WS D A s.heap mm H locs) {o N b k : Nat} {i : Int32} {v : Int64} (ho : o < WN) (hs : WS o = .inr (3, N, b)) (hi : vp_in i N) (hk : i.toNatClampNeg = k) (hdg : decode cc pc = .ok (.lastore, 1))
    (kk : ∀ (H : Heap) (locs : List Loc), Hx WN ad ca WS D A s.heap (sL mm o k v) H locs → W p l e R s m args below meth c H locs cells slots Q (F0 m (pc + 1) ls rest)) : W p l e R s m args below meth c H locs cells slots Q (F0 m pc ls (.long v :: .int i :: .ref (ad o) :: rest)) := by
  subst hk; exact wsL C hH ho hs hi hdg kk
/-- the String constant -/
def SB (q t : Nat) (A : Nat → Prop) (U : State) (H : Heap) : Prop := va_O "java/lang/String" q A U H ∧ va_OF "java/lang/String" "coder" "B" (.int 0) q A U H ∧ va_OF "java/lang/String" "value" "[B" (.ref t) q A U H ∧ va_T .byte t 6 (fun k => .int (tbNAMES k)) A U H ∧ va_Z "java/lang/String" "COMPACT_STRINGS" "Z" (.int 1) A U H
theorem SB.go {q t : Nat} {s U : State} {H H1 : Heap} (hv : s.vm.Alike U.vm) (hq : ∀ a : Nat, a < H.size → ¬ A a → H1[a]? = H[a]?) (h : SB q t A s H) : SB q t A U H1 := by
  obtain ⟨g2, g3, g4, g5, g6⟩ := h
  exact ⟨(va_O.moved hv g2).kept hq, (va_OF.moved hv g3).kept hq, (va_OF.moved hv g4).kept hq, (va_T.moved hv g5).kept hq, (va_Z.moved hv g6).kept hq⟩
def PcS (ad : Nat → Nat) (ca : Nat → ClassId) (D : va_G) (A : Nat → Prop) (q t : Nat) (as : List Value) (mm : Mm) : Array Value → State → Prop :=
  va_Pc as (fun U => (va_P D vwCl (wld WN ad ca WS mm) U.heap ∧ va_K D vwCl (tyA ca) U ∧ va_D A (wld WN ad ca WS mm) ∧ StA A U U.heap) ∧ SB q t A U U.heap)
theorem entS {y : MethodName} {lev q t : Nat} {as : List Value} {Qc : Array Value → State → Outcome → State → Prop} (hy : plainName y.cls = true) (hn : (lg_sl as).length ≤ n)
    (body : ∀ (p : Program) (e : Env) (s : State) (m : MethodId) (args : Array Value) (below : List Frame) (meth : Method) (c : Code), args = as.toArray → Cx D ca A p s m args meth c cc y.cls n ret → Hx WN ad ca WS D A s.heap mm s.heap [] → SB q t A s s.heap → ∀ ls : Array Slot, lv_has ls n (lv_args 0 as) → W p l e (rmk lev) s m args below meth c s.heap [] 0 0 (MQ below Qc args s 0 0 A) (F0 m 0 ls [])) :
    Met l y (wsOf y cc n ret) (rmk lev) (PcS ad ca D A q t as mm) Qc 0 0 A := by
  refine Met.ofW (cc := cc) (maxL := n) (ret := ret) hy rfl ?_
  intro p e s m args below meth c s₁ B hml hv
  obtain ⟨rfl, ⟨hP, hK, hD, hSt⟩, hB⟩ := hv
  have hts := atoms_spec (ws := wsOf y cc n ret) B.pre
  have hl := lv_entry as (n := n) hn
  rw [lg_entry_eq]
  generalize (lg_sl as ++ List.replicate (n - (lg_sl as).length) Slot.unset).toArray = ls at hl ⊢
  exact body p e s m _ below meth c rfl ⟨B.exec, B.bytes, B.returns, hml, findClass_of_methodNamed B.named, fun w h => hts w (List.mem_cons_of_mem _ h), B.notSynchronized, hK, hSt⟩ ⟨hP, hD, va_S.rf⟩ hB ls hl
theorem pcs_blind {q t : Nat} {as : List Value} : FrameBlind (PcS ad ca D A q t as mm) := fun a U g mk z => by
  obtain ⟨q0, ⟨qP, qK, qD, qS⟩, qB⟩ := z
  exact ⟨q0, ⟨qP, va_K.moved (u := U) (U := U.calling g mk a) (Vm.Alike.refl U.vm) qK, qD, qS.calling⟩, SB.go (U := U.calling g mk a) (H1 := U.heap) (Vm.Alike.refl U.vm) (fun _ _ _ => rfl) qB⟩
theorem pcs_at {q t : Nat} {as : List Value} (C : Cx D ca A p s m args meth c cc own n ret) (hH : Hx WN ad ca WS D A s.heap mm H locs) (hB : SB q t A s s.heap) : ∀ U : State, U.heap = H → s.WarmedH U.vm → PcS ad ca D A q t as mm as.toArray U := by
  obtain ⟨hx, hb, hr, hml, hown, hts, hlk, hK, hSt⟩ := C
  obtain ⟨hP, hD, hS⟩ := hH
  intro U hU hW
  exact ⟨rfl, ⟨by rw [hU]; exact hP, va_K.moved hW.alike hK, hD, by rw [hU]; exact hSt.go hW hS.2.1⟩, by rw [hU]; exact hB.go hW.alike hS.2.1⟩
theorem rcS (C : Cx D ca A p s m args meth c cc own n ret) (hH : Hx WN ad ca WS D A s.heap mm H locs) (hl : ls.size = n) {sq st0 : Nat} (hB : SB sq st0 A s s.heap) {idx k n' lev' : Nat} {y : MethodName} {cc' : ByteArray} {rt : Option FieldType} {as st : List Value} {v : Int32} (hM : Met l y (wsOf y cc' n' rt) (rmk lev') (PcS ad ca D A sq st0 (.ref sq :: as) mm) (QcI WN ad ca WS D A pzT (v, mm)) 0 0 A) (f : CF own idx y cc' n' rt k) (hy : y.cls = "java/lang/String") (hR : RR R lev' n' cells slots) (hk : as.length = k) (hst : st = as.reverse ++ .ref sq :: rest) (hW : (rest.map fun v => v.category).sum ≤ 8) (hdg : decode cc pc = .ok (.invokevirtual idx, 3))
    (kk : ∀ (H : Heap) (locs : List Loc), Hx WN ad ca WS D A s.heap mm H locs → W p l e R s m args below meth c H locs cells slots Q (F0 m (pc + 3) ls (.int v :: rest))) : W p l e R s m args below meth c H locs cells slots Q (F0 m pc ls st) :=
  va_calli (va_runV (As := as) (rest := rest) ⟨C.1, C.2.1, C.2.2.2.1, C.2.2.2.2.1, C.2.2.2.2.2.1⟩ hM (cw_of C f hR) ⟨pcs_blind, by
    obtain ⟨cell, h1, h2, h3, h4⟩ := hB.1.kept hH.2.2.2.1
    exact ⟨cell, h1, h2, by rw [hy]; exact h3⟩, pcs_at C hH hB⟩ rfl hk hl hst (by show 2 * 0 + _ ≤ 8; omega) hdg ⟨hR.2.1, hR.2.2⟩) hH.2.2 (fun _ _ h => h) (fun _ h => h) (fun r u t H1 l1 ht _ hp hB _ _ hS => by
    obtain ⟨rfl, rfl, hz⟩ := hp
    exact kk H1 l1 (hx_back hH ht hB hS))
theorem rsS (C : Cx D ca A p s m args meth c cc own n ret) (hH : Hx WN ad ca WS D A s.heap mm H locs) (hl : ls.size = n) {sq st0 : Nat} (hB : SB sq st0 A s s.heap) {idx k n' lev' : Nat} {y : MethodName} {cc' : ByteArray} {rt : Option FieldType} {as st : List Value} {v : Int32} (hM : Met l y (wsOf y cc' n' rt) (rmk lev') (PcS ad ca D A sq st0 as mm) (QcI WN ad ca WS D A pzT (v, mm)) 0 0 A) (f : CS own idx y cc' n' rt k) (hR : RR R lev' n' cells slots) (hk : as.length = k) (hst : st = as.reverse ++ rest) (hW : (rest.map fun v => v.category).sum ≤ 8) (hdg : decode cc pc = .ok (.invokestatic idx, 3))
    (kk : ∀ (H : Heap) (locs : List Loc), Hx WN ad ca WS D A s.heap mm H locs → W p l e R s m args below meth c H locs cells slots Q (F0 m (pc + 3) ls (.int v :: rest))) : W p l e R s m args below meth c H locs cells slots Q (F0 m pc ls st) :=
  va_calli (va_runS (As := as) (rest := rest) ⟨C.1, C.2.1, C.2.2.2.1, C.2.2.2.2.1, C.2.2.2.2.2.1⟩ hM (cs_of C f hR) ⟨pcs_blind, pcs_at C hH hB⟩ rfl hk hl hst (by show 2 * 0 + _ ≤ 8; omega) hdg ⟨hR.2.1, hR.2.2⟩) hH.2.2 (fun _ _ h => h) (fun _ h => h) (fun r u t H1 l1 ht _ hp hB _ _ hS => by
    obtain ⟨rfl, rfl, hz⟩ := hp
    exact kk H1 l1 (hx_back hH ht hB hS))
end WK
theorem la_lt {o : Nat} (h : isLa o) (k : Nat) (hk : k ≤ 3) : o + k < WN := Nat.lt_of_le_of_lt (Nat.add_le_add_left hk o) (laE h).2.2.1
