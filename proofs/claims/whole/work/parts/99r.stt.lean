/-! ===== what the start gives (laid by wip/whole/genst.py) ===== -/
section STT
variable {args : Array Value} {s : State} {A : Nat → Prop}
theorem stT {C n : String} {N : Nat} {tb : Nat → Int32} (hN : N < 2 ^ 31) (h1 : (Cond.arrayOf (Term.static C n "[I") .int).before args s = true) (h2 : (Cond.eq (Term.length (Term.static C n "[I")) (Term.int (Int32.ofNat N))).before args s = true) (h3 : ∀ j, j < N → (Cond.eq (Term.elem (Term.static C n "[I") (Term.int (Int32.ofNat j))) (Term.int (tb j))).before args s = true) (hl : (Cond.laysStatic C n "[I").before args s = true) (hini : (Cond.initialized C).before args s = true) (hA : ∀ a : Nat, a < s.heap.size → ¬ A a) : StT C n N tb A s s.heap := by
  obtain ⟨t, ht, hT⟩ := va_Tof (f := fun k => .int (tb k)) hN h1 (va_eqt h2) (fun j hj => va_eqt (h3 j hj)) hA
  exact ⟨t, va_Zref hl hini ht hA, hT⟩
set_option maxHeartbeats 4000000 in
theorem sta (hts : ∀ w ∈ lw_tbl, w.before args s = true) (hgv : (Jvm.Cond.and given_1 narrow_1).before args s = true) (hA : ∀ a : Nat, a < s.heap.size → ¬ A a) : StA A s s.heap := by
  have hs := flat_of_before _ hgv
  refine ⟨?_, ?_, ?_, ?_, ?_, ?_⟩
  · exact stT (C := RX7) (n := "LEAST") (N := 9) (tb := tbLEAST) (by decide) (hs _ (by decide +kernel)) (hs _ (by decide +kernel)) (fun j hj => by rcases (show j = 0 ∨ j = 1 ∨ j = 2 ∨ j = 3 ∨ j = 4 ∨ j = 5 ∨ j = 6 ∨ j = 7 ∨ j = 8 by omega) with rfl | rfl | rfl | rfl | rfl | rfl | rfl | rfl | rfl <;> exact hs _ (by decide +kernel)) (hts _ (List.mem_of_getElem? (i := 396) (by decide +kernel))) (hts _ (List.mem_of_getElem? (i := 73) (by decide +kernel))) hA
  · exact stT (C := RX7) (n := "MOST") (N := 9) (tb := tbMOST) (by decide) (hs _ (by decide +kernel)) (hs _ (by decide +kernel)) (fun j hj => by rcases (show j = 0 ∨ j = 1 ∨ j = 2 ∨ j = 3 ∨ j = 4 ∨ j = 5 ∨ j = 6 ∨ j = 7 ∨ j = 8 by omega) with rfl | rfl | rfl | rfl | rfl | rfl | rfl | rfl | rfl <;> exact hs _ (by decide +kernel)) (hts _ (List.mem_of_getElem? (i := 398) (by decide +kernel))) (hts _ (List.mem_of_getElem? (i := 73) (by decide +kernel))) hA
  · exact stT (C := RX4) (n := "ABOVE") (N := 8) (tb := tbABOVE) (by decide) (hs _ (by decide +kernel)) (hs _ (by decide +kernel)) (fun j hj => by rcases (show j = 0 ∨ j = 1 ∨ j = 2 ∨ j = 3 ∨ j = 4 ∨ j = 5 ∨ j = 6 ∨ j = 7 by omega) with rfl | rfl | rfl | rfl | rfl | rfl | rfl | rfl <;> exact hs _ (by decide +kernel)) (hts _ (List.mem_of_getElem? (i := 989) (by decide +kernel))) (hts _ (List.mem_of_getElem? (i := 80) (by decide +kernel))) hA
  · exact stT (C := RX4) (n := "OWN") (N := 32) (tb := tbOWN) (by decide) (hs _ (by decide +kernel)) (hs _ (by decide +kernel)) (fun j hj => by rcases (show j = 0 ∨ j = 1 ∨ j = 2 ∨ j = 3 ∨ j = 4 ∨ j = 5 ∨ j = 6 ∨ j = 7 ∨ j = 8 ∨ j = 9 ∨ j = 10 ∨ j = 11 ∨ j = 12 ∨ j = 13 ∨ j = 14 ∨ j = 15 ∨ j = 16 ∨ j = 17 ∨ j = 18 ∨ j = 19 ∨ j = 20 ∨ j = 21 ∨ j = 22 ∨ j = 23 ∨ j = 24 ∨ j = 25 ∨ j = 26 ∨ j = 27 ∨ j = 28 ∨ j = 29 ∨ j = 30 ∨ j = 31 by omega) with rfl | rfl | rfl | rfl | rfl | rfl | rfl | rfl | rfl | rfl | rfl | rfl | rfl | rfl | rfl | rfl | rfl | rfl | rfl | rfl | rfl | rfl | rfl | rfl | rfl | rfl | rfl | rfl | rfl | rfl | rfl | rfl <;> exact hs _ (by decide +kernel)) (hts _ (List.mem_of_getElem? (i := 987) (by decide +kernel))) (hts _ (List.mem_of_getElem? (i := 80) (by decide +kernel))) hA
  · exact stT (C := RX2) (n := "PLACES") (N := 6) (tb := tbPLACES) (by decide) (hs _ (by decide +kernel)) (hs _ (by decide +kernel)) (fun j hj => by rcases (show j = 0 ∨ j = 1 ∨ j = 2 ∨ j = 3 ∨ j = 4 ∨ j = 5 by omega) with rfl | rfl | rfl | rfl | rfl | rfl <;> exact hs _ (by decide +kernel)) (hts _ (List.mem_of_getElem? (i := 773) (by decide +kernel))) (hts _ (List.mem_of_getElem? (i := 77) (by decide +kernel))) hA
  · have hex : (Cond.exactly (Term.string RX6 65) "java/lang/String").before args s = true := hs _ (by decide +kernel)
    obtain ⟨q, c, cell, k, hq, -⟩ := Cond.exactly_spec hex
    obtain ⟨t, ht, hT⟩ := va_Tof (tm := Term.field (Term.string RX6 65) "java/lang/String" "value" "[B") (ty := .byte) (N := 6) (f := fun k => .int (tbNAMES k)) (A := A) (by decide) (hs _ (by decide +kernel)) (va_eqt (hs _ (by decide +kernel))) (fun j hj => va_eqt (by rcases (show j = 0 ∨ j = 1 ∨ j = 2 ∨ j = 3 ∨ j = 4 ∨ j = 5 by omega) with rfl | rfl | rfl | rfl | rfl | rfl <;> exact hs _ (by decide +kernel))) hA
    exact ⟨q, t, vk_R.of (hts _ (List.mem_of_getElem? (i := 480) (by decide +kernel))) hq, va_Oof hex hq hA, vk_OFof hq (va_eqt (hs _ (by decide +kernel))) hA, vk_OFof hq ht hA, hT, va_Zof (hts _ (List.mem_of_getElem? (i := 494) (by decide +kernel))) (hts _ (List.mem_of_getElem? (i := 84) (by decide +kernel))) (va_eqt (hs _ (by decide +kernel))) hA⟩
theorem k_start (hts : ∀ w ∈ lw_tbl, w.before args s = true) : ∃ (D : va_G) (ca : Nat → ClassId), va_K D vwCl (tyA ca) s := by
  have htw : ∀ w ∈ wdT, w.before args s = true := fun w h => hts w (List.mem_filter.mp h).1
  obtain ⟨c0, i0, h0⟩ := u_known (C := RX0) (T := TX0) (N := 2) (n := 2) htw inX0 (hts _ (List.mem_of_getElem? (i := 178) (by decide +kernel)))
  obtain ⟨c1, i1, h1⟩ := u_known (C := RX1) (T := TX1) (N := 6) (n := 6) htw inX1 (hts _ (List.mem_of_getElem? (i := 254) (by decide +kernel)))
  obtain ⟨c2, i2, h2⟩ := u_known (C := RX2) (T := TX2) (N := 6) (n := 6) htw inX2 (hts _ (List.mem_of_getElem? (i := 192) (by decide +kernel)))
  obtain ⟨c3, i3, h3⟩ := u_known (C := RX3) (T := TX3) (N := 9) (n := 9) htw inX3 (hts _ (List.mem_of_getElem? (i := 219) (by decide +kernel)))
  obtain ⟨c4, i4, h4⟩ := u_known (C := RX4) (T := TX4) (N := 5) (n := 5) htw inX4 (hts _ (List.mem_of_getElem? (i := 281) (by decide +kernel)))
  obtain ⟨c5, i5, h5⟩ := u_known (C := RX5) (T := TX5) (N := 4) (n := 4) htw inX5 (hts _ (List.mem_of_getElem? (i := 109) (by decide +kernel)))
  obtain ⟨c6, i6, h6⟩ := u_known (C := RX6) (T := TX6) (N := 5) (n := 5) htw inX6 (hts _ (List.mem_of_getElem? (i := 153) (by decide +kernel)))
  obtain ⟨c7, i7, h7⟩ := u_known (C := RX7) (T := TX7) (N := 5) (n := 5) htw inX7 (hts _ (List.mem_of_getElem? (i := 101) (by decide +kernel)))
  obtain ⟨c8, i8, h8⟩ := u_known (C := RX8) (T := TX8) (N := 5) (n := 5) htw inX8 (hts _ (List.mem_of_getElem? (i := 306) (by decide +kernel)))
  obtain ⟨c9, i9, h9⟩ := u_known (C := RX9) (T := TX9) (N := 8) (n := 8) htw inX9 (hts _ (List.mem_of_getElem? (i := 93) (by decide +kernel)))
  obtain ⟨c10, i10, h10⟩ := u_known (C := RX10) (T := TX10) (N := 42) (n := 42) htw inX10 (hts _ (List.mem_of_getElem? (i := 1064) (by decide +kernel)))
  obtain ⟨a0, k0, p0, x0, y0, z0⟩ := Cond.arrayClass_spec (type := .int) (hts (Cond.arrayClass .int) (List.mem_of_getElem? (i := 127) (by decide +kernel)))
  obtain ⟨a1, k1, p1, x1, y1, z1⟩ := Cond.arrayClass_spec (type := .char) (hts (Cond.arrayClass .char) (List.mem_of_getElem? (i := 128) (by decide +kernel)))
  obtain ⟨a2, k2, p2, x2, y2, z2⟩ := Cond.arrayClass_spec (type := .boolean) (hts (Cond.arrayClass .boolean) (List.mem_of_getElem? (i := 1196) (by decide +kernel)))
  obtain ⟨a3, k3, p3, x3, y3, z3⟩ := Cond.arrayClass_spec (type := .long) (hts (Cond.arrayClass .long) (List.mem_of_getElem? (i := 190) (by decide +kernel)))
  have ho4 : (Cond.arrayOver (.object RX8)).before args s = true := hts _ (List.mem_of_getElem? (i := 305) (by decide +kernel))
  have ho5 : (Cond.arrayOver (.array .int)).before args s = true := hts _ (List.mem_of_getElem? (i := 107) (by decide +kernel))
  obtain ⟨p4, a4, k4, w4, -, y4, z4, x4⟩ := Cond.arrayOver_spec ho4
  obtain ⟨p5, a5, k5, w5, -, y5, z5, x5⟩ := Stand.arrayOver_specB ho5
  refine ⟨(fun k => [c0, c1, c2, c3, c4, c5, c6, c7, c8, c9, c10].getD k c0, fun k => [i0, i1, i2, i3, i4, i5, i6, i7, i8, i9, i10].getD k i0), fun k => [a0, a1, a2, a3, a4, a5].getD k a0, fun k q hq => ?_, fun k q hq => ?_⟩
  · match k, hq with
    | 0, hq => cases hq; exact h0
    | 1, hq => cases hq; exact h1
    | 2, hq => cases hq; exact h2
    | 3, hq => cases hq; exact h3
    | 4, hq => cases hq; exact h4
    | 5, hq => cases hq; exact h5
    | 6, hq => cases hq; exact h6
    | 7, hq => cases hq; exact h7
    | 8, hq => cases hq; exact h8
    | 9, hq => cases hq; exact h9
    | 10, hq => cases hq; exact h10
    | k + 11, hq => simp [vwCl] at hq
  · match k, hq with
    | 0, hq => cases hq; exact ⟨fun n z => ⟨fun k h => (by cases h), k0, y0, p0, z0⟩, x0⟩
    | 1, hq => cases hq; exact ⟨fun n z => ⟨fun k h => (by cases h), k1, y1, p1, z1⟩, x1⟩
    | 2, hq => cases hq; exact ⟨fun n z => ⟨fun k h => (by cases h), k2, y2, p2, z2⟩, x2⟩
    | 3, hq => cases hq; exact ⟨fun n z => ⟨fun k h => (by cases h), k3, y3, p3, z3⟩, x3⟩
    | 4, hq => cases hq; exact ⟨fun n z => ⟨fun k h => (by cases h), k4, y4, p4, z4⟩, k4, p4, y4, z4, w4, x4⟩
    | 5, hq => cases hq; exact ⟨fun n z => ⟨fun k h => (by cases h), k5, y5, p5, z5⟩, x5⟩
    | k + 6, hq => simp [tyA] at hq
theorem nw_start (hts : ∀ w ∈ lw_tbl, w.before args s = true) : NwI s := by
  exact ⟨va_tabs rfl rfl (hts _ (List.mem_of_getElem? (i := 110) (by decide +kernel))), va_tabs rfl rfl (hts _ (List.mem_of_getElem? (i := 154) (by decide +kernel))), va_tabs rfl rfl (hts _ (List.mem_of_getElem? (i := 159) (by decide +kernel))), va_tabs rfl rfl (hts _ (List.mem_of_getElem? (i := 255) (by decide +kernel))), va_tabs rfl rfl (hts _ (List.mem_of_getElem? (i := 282) (by decide +kernel))), va_tabs rfl rfl (hts _ (List.mem_of_getElem? (i := 307) (by decide +kernel))), va_AO.of (A := args) (hts (Cond.arrayOver (.object RX8)) (List.mem_of_getElem? (i := 305) (by decide +kernel))), Stand.arrayOver_alikeB (Vm.Alike.refl s.vm) (hts (Cond.arrayOver (.array .int)) (List.mem_of_getElem? (i := 107) (by decide +kernel)))⟩
theorem kb_X9 : Cond.instantiable RX9 8 ∈ wdT := mem_wd 93 (by decide +kernel) (by decide +kernel)
theorem kb_X10 : Cond.instantiable RX10 42 ∈ wdT := mem_wd 1064 (by decide +kernel) (by decide +kernel)
theorem kz_X9 : Cond.initialized RX9 ∈ wdT := mem_wd 72 (by decide +kernel) (by decide +kernel)
theorem kz_X10 : Cond.initialized RX10 ∈ wdT := mem_wd 82 (by decide +kernel) (by decide +kernel)
theorem kc_L_7 : Cond.classLink RL 7 RX9 ∈ wdT := mem_wd 92 (by decide +kernel) (by decide +kernel)
theorem kc_L_10 : Cond.classLink RL 10 RX10 ∈ wdT := mem_wd 1063 (by decide +kernel) (by decide +kernel)
theorem kl_L_9 : Cond.methodLink RL 9 yX9_init ∈ wdT := mem_wd 94 (by decide +kernel) (by decide +kernel)
theorem kl_L_12 : Cond.methodLink RL 12 yX10_init ∈ wdT := mem_wd 1065 (by decide +kernel) (by decide +kernel)
theorem ky_X9 : Cond.instanceMethod yX9_init ∈ wdT := mem_wd 95 (by decide +kernel) (by decide +kernel)
theorem ky_X10 : Cond.instanceMethod yX10_init ∈ wdT := mem_wd 1066 (by decide +kernel) (by decide +kernel)
theorem kd_X9 : Cond.code yX9_init cX9_init 2 none ∈ wdT := mem_wd 96 (by decide +kernel) (by decide +kernel)
theorem kd_X10 : Cond.code yX10_init cX10_init 2 none ∈ wdT := mem_wd 1067 (by decide +kernel) (by decide +kernel)
end STT
