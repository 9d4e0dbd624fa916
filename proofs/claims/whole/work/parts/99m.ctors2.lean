/-! ===== constructors: LawReader, Market (laid by wip/whole/gc2.py) ===== -/
theorem ko_X6 : Cond.methodLink RX6 3 Lib.objectInit ∈ wdT := mem_wd 157 (by decide +kernel) (by decide +kernel)
theorem kf_X6_11 : Cond.fieldLink RX6 11 (TX6 0).1 (TX6 0).2.1 (TX6 0).2.2.1 ∈ wdT := mem_wd 160 (by decide +kernel) (by decide +kernel)
theorem kc_X6_15 : Cond.classLink RX6 15 RX5 ∈ wdT := mem_wd 158 (by decide +kernel) (by decide +kernel)
theorem kb_X5 : Cond.instantiable RX5 4 ∈ wdT := mem_wd 109 (by decide +kernel) (by decide +kernel)
theorem kz_X5 : Cond.initialized RX5 ∈ wdT := mem_wd 74 (by decide +kernel) (by decide +kernel)
theorem ky_X5 : Cond.instanceMethod yX5_init ∈ wdT := mem_wd 111 (by decide +kernel) (by decide +kernel)
theorem kd_X5 : Cond.code yX5_init cX5_init 1 none ∈ wdT := mem_wd 112 (by decide +kernel) (by decide +kernel)
theorem kf_X6_18 : Cond.fieldLink RX6 18 (TX6 1).1 (TX6 1).2.1 (TX6 1).2.2.1 ∈ wdT := mem_wd 161 (by decide +kernel) (by decide +kernel)
theorem ko_X7 : Cond.methodLink RX7 3 Lib.objectInit ∈ wdT := mem_wd 105 (by decide +kernel) (by decide +kernel)
theorem kc_X7_9 : Cond.classLink RX7 9 "[[I" ∈ wdT := mem_wd 106 (by decide +kernel) (by decide +kernel)
theorem kf_X7_11 : Cond.fieldLink RX7 11 (TX7 0).1 (TX7 0).2.1 (TX7 0).2.2.1 ∈ wdT := mem_wd 129 (by decide +kernel) (by decide +kernel)
theorem kf_X7_16 : Cond.fieldLink RX7 16 (TX7 1).1 (TX7 1).2.1 (TX7 1).2.2.1 ∈ wdT := mem_wd 130 (by decide +kernel) (by decide +kernel)
theorem kc_X7_20 : Cond.classLink RX7 20 RX5 ∈ wdT := mem_wd 108 (by decide +kernel) (by decide +kernel)
theorem kf_X7_23 : Cond.fieldLink RX7 23 (TX7 4).1 (TX7 4).2.1 (TX7 4).2.2.1 ∈ wdT := mem_wd 139 (by decide +kernel) (by decide +kernel)
def w_X6 (_ : va_G) (ca : Nat → ClassId) (h0 : Nat) (u : Nat → Nat) : va_W := [(h0, .inr (6, [.ref (u 0), .ref (u 1), .int 0, .int 0, .int 0])), ((u 0), .inl (ca 1, 120, .inl (fun _ => 0))), ((u 1), .inr (5, [.ref (u 2), .ref (u 3), .ref (u 4), .int 0])), ((u 2), .inl (ca 1, 128, .inl (fun _ => 0))), ((u 3), .inl (ca 0, 128, .inl (fun _ => 0))), ((u 4), .inl (ca 0, 128, .inl (fun _ => 0)))]
set_option maxHeartbeats 8000000 in
set_option maxRecDepth 100000 in
theorem c_X6 {l : Launch} {D : va_G} {ca : Nat → ClassId} {h0 sz : Nat} : Met l yX6_init (wsOf yX6_init cX6_init 1 none) (rmi 2 5 508) (CtP D ca [.ref h0] [(h0, .inr (6, [.null, .null, .int 0, .int 0, .int 0]))] sz) (CtQ D (va_A [(h0, .inr (6, [.null, .null, .int 0, .int 0, .int 0]))] sz) (w_X6 D ca h0)) 5 508 (va_A [(h0, .inr (6, [.null, .null, .int 0, .int 0, .int 0]))] sz) := by
  refine entC (by decide) (Nat.le_of_ble_eq_true rfl) rfl ?_
  intro p e s m args below meth c A C hA hH ls hl
  have hx := C.1
  have hb := C.2.1
  have hN8 := C.2.2.2.2.2.2.2.2.2
  have hl : lv_has ls 1 [(0, .ref h0)] := hl
  refine lv_aload_n hx hb dX6_init_0 rfl (lv_at hl 0 rfl) ?_
  refine kObj C hl.1 ko_X6 ko_i ko_c ⟨by decide, by decide⟩ dX6_init_1 ?_
  refine lv_aload_n hx hb dX6_init_4 rfl (lv_at hl 0 rfl) ?_
  refine lv_bipush (v := 120) hx hb dX6_init_5 (by decide) ?_
  refine kNew (j := 1) (ty := .char) (N' := 120) (a0 := (120, .inl (fun _ => 0))) (atype := .char) C hA hH rfl rfl (fun _ _ => rfl) ka_1 (fun _ => rfl) (by decide) (by decide) (Nat.le_of_ble_eq_true rfl) (Nat.le_of_ble_eq_true rfl) (Nat.le_of_ble_eq_true rfl) dX6_init_7 (fun q0 H hH => ?_)
  have hH : Hy D A s [(h0, .inr (6, [.null, .null, .int 0, .int 0, .int 0])), (q0, .inl (ca 1, 120, .inl (fun _ => 0)))] H _ := hH
  refine kPuF (ci := 6) (v := .ref q0) C hH inX6 tyX6 tyX6_ok nmX6 0 rfl rfl 0 (by decide) kf_X6_11 rfl rfl rfl rfl (Nat.le_of_ble_eq_true rfl) dX6_init_9 (fun H locs hH => ?_)
  have hH : Hy D A s [(h0, .inr (6, [.ref q0, .null, .int 0, .int 0, .int 0])), (q0, .inl (ca 1, 120, .inl (fun _ => 0)))] H locs := hH
  refine lv_aload_n hx hb dX6_init_12 rfl (lv_at hl 0 rfl) ?_
  refine kObN (ci := 5) (fs := [.null, .null, .null, .int 0]) C hA hH inX5 tyX5 tyX5_ok kc_X6_15 kb_X5 kz_X5 rfl (fun j hj => by rcases (show j = 0 ∨ j = 1 ∨ j = 2 ∨ j = 3 by omega) with rfl | rfl | rfl | rfl <;> rfl) (Nat.le_of_ble_eq_true rfl) (Nat.le_of_ble_eq_true rfl) dX6_init_13 (fun q1 H hH => ?_)
  have hH : Hy D A s [(h0, .inr (6, [.ref q0, .null, .int 0, .int 0, .int 0])), (q0, .inl (ca 1, 120, .inl (fun _ => 0))), (q1, .inr (5, [.null, .null, .null, .int 0]))] H _ := hH
  refine lv_dup hx hb dX6_init_16 rfl ?_
  refine kCaN (kA := 0) (S := Nat → Nat) (as := []) (rest := [.ref q1, .ref h0]) (w0 := [(q1, .inr (5, [.null, .null, .null, .int 0]))]) (wr := [(h0, .inr (6, [.ref q0, .null, .int 0, .int 0, .int 0])), (q0, .inl (ca 1, 120, .inl (fun _ => 0)))]) C hA hH hl.1 (c_X5 (l := l) (D := D) (ca := ca) (h0 := q1) (sz := H.size)) hN8.2.2.1 ky_X5 kz_X5 kd_X5 rfl (by decide +kernel) rfl [2] [0, 1] rfl rfl (by decide) (by decide) (by decide) ⟨Nat.le_of_ble_eq_true rfl, Nat.le_of_ble_eq_true rfl⟩ ⟨Nat.le_of_ble_eq_true rfl, Nat.le_of_ble_eq_true rfl⟩ rfl (Nat.le_of_ble_eq_true rfl) dX6_init_17 (fun u2 H locs hH => ?_)
  have hH : Hy D A s [(h0, .inr (6, [.ref q0, .null, .int 0, .int 0, .int 0])), (q0, .inl (ca 1, 120, .inl (fun _ => 0))), (q1, .inr (5, [.ref (u2 0), .ref (u2 1), .ref (u2 2), .int 0])), ((u2 0), .inl (ca 1, 128, .inl (fun _ => 0))), ((u2 1), .inl (ca 0, 128, .inl (fun _ => 0))), ((u2 2), .inl (ca 0, 128, .inl (fun _ => 0)))] H locs := hH
  refine kPu (ci := 6) (v := .ref q1) C hH inX6 tyX6 tyX6_ok nmX6 0 rfl rfl 1 (by decide) kf_X6_18 rfl rfl rfl (Nat.le_of_ble_eq_true rfl) dX6_init_20 (fun H locs hH => ?_)
  have hH : Hy D A s [(h0, .inr (6, [.ref q0, .ref q1, .int 0, .int 0, .int 0])), (q0, .inl (ca 1, 120, .inl (fun _ => 0))), (q1, .inr (5, [.ref (u2 0), .ref (u2 1), .ref (u2 2), .int 0])), ((u2 0), .inl (ca 1, 128, .inl (fun _ => 0))), ((u2 1), .inl (ca 0, 128, .inl (fun _ => 0))), ((u2 2), .inl (ca 0, 128, .inl (fun _ => 0)))] H locs := hH
  exact retC (Wf := w_X6 D ca h0) C (fun i => List.getD [q0, q1, (u2 0), (u2 1), (u2 2)] i 0) hH (Nat.le_of_ble_eq_true rfl) (Nat.le_of_ble_eq_true rfl) dX6_init_23
def w_X7 (_ : va_G) (ca : Nat → ClassId) (h0 : Nat) (u : Nat → Nat) : va_W := [(h0, .inr (7, [.ref (u 0), .ref (u 1), .int 0, .int 0, .ref (u 2)])), ((u 0), .inl (ca 5, 11, .inr (.inr (.inr (.inr (fun i => if i < 11 then some ((u 0) + 1 + i) else none)))))), (((u 0) + 1 + 0), .inl (ca 0, 10, .inl (upd (upd (upd (upd (upd (upd (fun _ => 0) (Int32.toNatClampNeg 0) (10 * 0)) (Int32.toNatClampNeg 1) (10 * 1)) (Int32.toNatClampNeg 2) (10 * 2)) (Int32.toNatClampNeg 3) (10 * 3)) (Int32.toNatClampNeg 4) (10 * 4)) (Int32.toNatClampNeg 5) (10 * 5)))), (((u 0) + 1 + 1), .inl (ca 0, 10, .inl (fun _ => 0))), (((u 0) + 1 + 2), .inl (ca 0, 10, .inl (fun _ => 0))), (((u 0) + 1 + 3), .inl (ca 0, 10, .inl (fun _ => 0))), (((u 0) + 1 + 4), .inl (ca 0, 10, .inl (fun _ => 0))), (((u 0) + 1 + 5), .inl (ca 0, 10, .inl (fun _ => 0))), (((u 0) + 1 + 6), .inl (ca 0, 10, .inl (fun _ => 0))), (((u 0) + 1 + 7), .inl (ca 0, 10, .inl (fun _ => 0))), (((u 0) + 1 + 8), .inl (ca 0, 10, .inl (fun _ => 0))), (((u 0) + 1 + 9), .inl (ca 0, 10, .inl (fun _ => 0))), (((u 0) + 1 + 10), .inl (ca 0, 10, .inl (fun _ => 0))), ((u 1), .inl (ca 0, 6, .inl (fun _ => 0))), ((u 2), .inr (5, [.ref (u 3), .ref (u 4), .ref (u 5), .int 0])), ((u 3), .inl (ca 1, 128, .inl (fun _ => 0))), ((u 4), .inl (ca 0, 128, .inl (fun _ => 0))), ((u 5), .inl (ca 0, 128, .inl (fun _ => 0)))]
set_option maxHeartbeats 8000000 in
set_option maxRecDepth 100000 in
theorem c_X7 {l : Launch} {D : va_G} {ca : Nat → ClassId} {h0 sz : Nat} : Met l yX7_init (wsOf yX7_init cX7_init 2 none) (rmi 2 17 515) (CtP D ca [.ref h0] [(h0, .inr (7, [.null, .null, .int 0, .int 0, .null]))] sz) (CtQ D (va_A [(h0, .inr (7, [.null, .null, .int 0, .int 0, .null]))] sz) (w_X7 D ca h0)) 17 515 (va_A [(h0, .inr (7, [.null, .null, .int 0, .int 0, .null]))] sz) := by
  refine entC (by decide) (Nat.le_of_ble_eq_true rfl) rfl ?_
  intro p e s m args below meth c A C hA hH ls hl
  have hx := C.1
  have hb := C.2.1
  have hN8 := C.2.2.2.2.2.2.2.2.2
  have hl : lv_has ls 2 [(0, .ref h0)] := hl
  refine lv_aload_n hx hb dX7_init_0 rfl (lv_at hl 0 rfl) ?_
  refine kObj C hl.1 ko_X7 ko_i ko_c ⟨by decide, by decide⟩ dX7_init_1 ?_
  refine lv_aload_n hx hb dX7_init_4 rfl (lv_at hl 0 rfl) ?_
  refine lv_bipush (v := 11) hx hb dX7_init_5 (by decide) ?_
  refine lv_bipush (v := 10) hx hb dX7_init_7 (by decide) ?_
  refine kMul (N := 11) (M := 10) C hA hH kc_X7_9 ka_0 (by decide) (by decide) (by decide) (by decide) (Nat.le_of_ble_eq_true rfl) (Nat.le_of_ble_eq_true rfl) (Nat.le_of_ble_eq_true rfl) (Nat.le_of_ble_eq_true rfl) dX7_init_9 (fun q0 H hH => ?_)
  have hH : Hy D A s [(h0, .inr (7, [.null, .null, .int 0, .int 0, .null])), (q0, .inl (ca 5, 11, .inr (.inr (.inr (.inr (fun i => if i < 11 then some (q0 + 1 + i) else none)))))), ((q0 + 1 + 0), .inl (ca 0, 10, .inl (fun _ => 0))), ((q0 + 1 + 1), .inl (ca 0, 10, .inl (fun _ => 0))), ((q0 + 1 + 2), .inl (ca 0, 10, .inl (fun _ => 0))), ((q0 + 1 + 3), .inl (ca 0, 10, .inl (fun _ => 0))), ((q0 + 1 + 4), .inl (ca 0, 10, .inl (fun _ => 0))), ((q0 + 1 + 5), .inl (ca 0, 10, .inl (fun _ => 0))), ((q0 + 1 + 6), .inl (ca 0, 10, .inl (fun _ => 0))), ((q0 + 1 + 7), .inl (ca 0, 10, .inl (fun _ => 0))), ((q0 + 1 + 8), .inl (ca 0, 10, .inl (fun _ => 0))), ((q0 + 1 + 9), .inl (ca 0, 10, .inl (fun _ => 0))), ((q0 + 1 + 10), .inl (ca 0, 10, .inl (fun _ => 0)))] H _ := hH
  refine kPuF (ci := 7) (v := .ref q0) C hH inX7 tyX7 tyX7_ok nmX7 0 rfl rfl 0 (by decide) kf_X7_11 rfl rfl rfl rfl (Nat.le_of_ble_eq_true rfl) dX7_init_13 (fun H locs hH => ?_)
  have hH : Hy D A s [(h0, .inr (7, [.ref q0, .null, .int 0, .int 0, .null])), (q0, .inl (ca 5, 11, .inr (.inr (.inr (.inr (fun i => if i < 11 then some (q0 + 1 + i) else none)))))), ((q0 + 1 + 0), .inl (ca 0, 10, .inl (fun _ => 0))), ((q0 + 1 + 1), .inl (ca 0, 10, .inl (fun _ => 0))), ((q0 + 1 + 2), .inl (ca 0, 10, .inl (fun _ => 0))), ((q0 + 1 + 3), .inl (ca 0, 10, .inl (fun _ => 0))), ((q0 + 1 + 4), .inl (ca 0, 10, .inl (fun _ => 0))), ((q0 + 1 + 5), .inl (ca 0, 10, .inl (fun _ => 0))), ((q0 + 1 + 6), .inl (ca 0, 10, .inl (fun _ => 0))), ((q0 + 1 + 7), .inl (ca 0, 10, .inl (fun _ => 0))), ((q0 + 1 + 8), .inl (ca 0, 10, .inl (fun _ => 0))), ((q0 + 1 + 9), .inl (ca 0, 10, .inl (fun _ => 0))), ((q0 + 1 + 10), .inl (ca 0, 10, .inl (fun _ => 0)))] H locs := hH
  refine lv_aload_n hx hb dX7_init_16 rfl (lv_at hl 0 rfl) ?_
  refine lv_bipush (v := 6) hx hb dX7_init_17 (by decide) ?_
  refine kNew (j := 0) (ty := .int) (N' := 6) (a0 := (6, .inl (fun _ => 0))) (atype := .int) C hA hH rfl rfl (fun _ _ => rfl) ka_0 (fun _ => rfl) (by decide) (by decide) (Nat.le_of_ble_eq_true rfl) (Nat.le_of_ble_eq_true rfl) (Nat.le_of_ble_eq_true rfl) dX7_init_19 (fun q1 H hH => ?_)
  have hH : Hy D A s [(h0, .inr (7, [.ref q0, .null, .int 0, .int 0, .null])), (q0, .inl (ca 5, 11, .inr (.inr (.inr (.inr (fun i => if i < 11 then some (q0 + 1 + i) else none)))))), ((q0 + 1 + 0), .inl (ca 0, 10, .inl (fun _ => 0))), ((q0 + 1 + 1), .inl (ca 0, 10, .inl (fun _ => 0))), ((q0 + 1 + 2), .inl (ca 0, 10, .inl (fun _ => 0))), ((q0 + 1 + 3), .inl (ca 0, 10, .inl (fun _ => 0))), ((q0 + 1 + 4), .inl (ca 0, 10, .inl (fun _ => 0))), ((q0 + 1 + 5), .inl (ca 0, 10, .inl (fun _ => 0))), ((q0 + 1 + 6), .inl (ca 0, 10, .inl (fun _ => 0))), ((q0 + 1 + 7), .inl (ca 0, 10, .inl (fun _ => 0))), ((q0 + 1 + 8), .inl (ca 0, 10, .inl (fun _ => 0))), ((q0 + 1 + 9), .inl (ca 0, 10, .inl (fun _ => 0))), ((q0 + 1 + 10), .inl (ca 0, 10, .inl (fun _ => 0))), (q1, .inl (ca 0, 6, .inl (fun _ => 0)))] H _ := hH
  refine kPuF (ci := 7) (v := .ref q1) C hH inX7 tyX7 tyX7_ok nmX7 0 rfl rfl 1 (by decide) kf_X7_16 rfl rfl rfl rfl (Nat.le_of_ble_eq_true rfl) dX7_init_21 (fun H locs hH => ?_)
  have hH : Hy D A s [(h0, .inr (7, [.ref q0, .ref q1, .int 0, .int 0, .null])), (q0, .inl (ca 5, 11, .inr (.inr (.inr (.inr (fun i => if i < 11 then some (q0 + 1 + i) else none)))))), ((q0 + 1 + 0), .inl (ca 0, 10, .inl (fun _ => 0))), ((q0 + 1 + 1), .inl (ca 0, 10, .inl (fun _ => 0))), ((q0 + 1 + 2), .inl (ca 0, 10, .inl (fun _ => 0))), ((q0 + 1 + 3), .inl (ca 0, 10, .inl (fun _ => 0))), ((q0 + 1 + 4), .inl (ca 0, 10, .inl (fun _ => 0))), ((q0 + 1 + 5), .inl (ca 0, 10, .inl (fun _ => 0))), ((q0 + 1 + 6), .inl (ca 0, 10, .inl (fun _ => 0))), ((q0 + 1 + 7), .inl (ca 0, 10, .inl (fun _ => 0))), ((q0 + 1 + 8), .inl (ca 0, 10, .inl (fun _ => 0))), ((q0 + 1 + 9), .inl (ca 0, 10, .inl (fun _ => 0))), ((q0 + 1 + 10), .inl (ca 0, 10, .inl (fun _ => 0))), (q1, .inl (ca 0, 6, .inl (fun _ => 0)))] H locs := hH
  refine lv_aload_n hx hb dX7_init_24 rfl (lv_at hl 0 rfl) ?_
  refine kObN (ci := 5) (fs := [.null, .null, .null, .int 0]) C hA hH inX5 tyX5 tyX5_ok kc_X7_20 kb_X5 kz_X5 rfl (fun j hj => by rcases (show j = 0 ∨ j = 1 ∨ j = 2 ∨ j = 3 by omega) with rfl | rfl | rfl | rfl <;> rfl) (Nat.le_of_ble_eq_true rfl) (Nat.le_of_ble_eq_true rfl) dX7_init_25 (fun q2 H hH => ?_)
  have hH : Hy D A s [(h0, .inr (7, [.ref q0, .ref q1, .int 0, .int 0, .null])), (q0, .inl (ca 5, 11, .inr (.inr (.inr (.inr (fun i => if i < 11 then some (q0 + 1 + i) else none)))))), ((q0 + 1 + 0), .inl (ca 0, 10, .inl (fun _ => 0))), ((q0 + 1 + 1), .inl (ca 0, 10, .inl (fun _ => 0))), ((q0 + 1 + 2), .inl (ca 0, 10, .inl (fun _ => 0))), ((q0 + 1 + 3), .inl (ca 0, 10, .inl (fun _ => 0))), ((q0 + 1 + 4), .inl (ca 0, 10, .inl (fun _ => 0))), ((q0 + 1 + 5), .inl (ca 0, 10, .inl (fun _ => 0))), ((q0 + 1 + 6), .inl (ca 0, 10, .inl (fun _ => 0))), ((q0 + 1 + 7), .inl (ca 0, 10, .inl (fun _ => 0))), ((q0 + 1 + 8), .inl (ca 0, 10, .inl (fun _ => 0))), ((q0 + 1 + 9), .inl (ca 0, 10, .inl (fun _ => 0))), ((q0 + 1 + 10), .inl (ca 0, 10, .inl (fun _ => 0))), (q1, .inl (ca 0, 6, .inl (fun _ => 0))), (q2, .inr (5, [.null, .null, .null, .int 0]))] H _ := hH
  refine lv_dup hx hb dX7_init_28 rfl ?_
  refine kCaN (kA := 0) (S := Nat → Nat) (as := []) (rest := [.ref q2, .ref h0]) (w0 := [(q2, .inr (5, [.null, .null, .null, .int 0]))]) (wr := [(h0, .inr (7, [.ref q0, .ref q1, .int 0, .int 0, .null])), (q0, .inl (ca 5, 11, .inr (.inr (.inr (.inr (fun i => if i < 11 then some (q0 + 1 + i) else none)))))), ((q0 + 1 + 0), .inl (ca 0, 10, .inl (fun _ => 0))), ((q0 + 1 + 1), .inl (ca 0, 10, .inl (fun _ => 0))), ((q0 + 1 + 2), .inl (ca 0, 10, .inl (fun _ => 0))), ((q0 + 1 + 3), .inl (ca 0, 10, .inl (fun _ => 0))), ((q0 + 1 + 4), .inl (ca 0, 10, .inl (fun _ => 0))), ((q0 + 1 + 5), .inl (ca 0, 10, .inl (fun _ => 0))), ((q0 + 1 + 6), .inl (ca 0, 10, .inl (fun _ => 0))), ((q0 + 1 + 7), .inl (ca 0, 10, .inl (fun _ => 0))), ((q0 + 1 + 8), .inl (ca 0, 10, .inl (fun _ => 0))), ((q0 + 1 + 9), .inl (ca 0, 10, .inl (fun _ => 0))), ((q0 + 1 + 10), .inl (ca 0, 10, .inl (fun _ => 0))), (q1, .inl (ca 0, 6, .inl (fun _ => 0)))]) C hA hH hl.1 (c_X5 (l := l) (D := D) (ca := ca) (h0 := q2) (sz := H.size)) hN8.1 ky_X5 kz_X5 kd_X5 rfl (by decide +kernel) rfl [14] [0, 1, 2, 3, 4, 5, 6, 7, 8, 9, 10, 11, 12, 13] rfl rfl (by decide) (by decide) (by decide) ⟨Nat.le_of_ble_eq_true rfl, Nat.le_of_ble_eq_true rfl⟩ ⟨Nat.le_of_ble_eq_true rfl, Nat.le_of_ble_eq_true rfl⟩ rfl (Nat.le_of_ble_eq_true rfl) dX7_init_29 (fun u3 H locs hH => ?_)
  have hH : Hy D A s [(h0, .inr (7, [.ref q0, .ref q1, .int 0, .int 0, .null])), (q0, .inl (ca 5, 11, .inr (.inr (.inr (.inr (fun i => if i < 11 then some (q0 + 1 + i) else none)))))), ((q0 + 1 + 0), .inl (ca 0, 10, .inl (fun _ => 0))), ((q0 + 1 + 1), .inl (ca 0, 10, .inl (fun _ => 0))), ((q0 + 1 + 2), .inl (ca 0, 10, .inl (fun _ => 0))), ((q0 + 1 + 3), .inl (ca 0, 10, .inl (fun _ => 0))), ((q0 + 1 + 4), .inl (ca 0, 10, .inl (fun _ => 0))), ((q0 + 1 + 5), .inl (ca 0, 10, .inl (fun _ => 0))), ((q0 + 1 + 6), .inl (ca 0, 10, .inl (fun _ => 0))), ((q0 + 1 + 7), .inl (ca 0, 10, .inl (fun _ => 0))), ((q0 + 1 + 8), .inl (ca 0, 10, .inl (fun _ => 0))), ((q0 + 1 + 9), .inl (ca 0, 10, .inl (fun _ => 0))), ((q0 + 1 + 10), .inl (ca 0, 10, .inl (fun _ => 0))), (q1, .inl (ca 0, 6, .inl (fun _ => 0))), (q2, .inr (5, [.ref (u3 0), .ref (u3 1), .ref (u3 2), .int 0])), ((u3 0), .inl (ca 1, 128, .inl (fun _ => 0))), ((u3 1), .inl (ca 0, 128, .inl (fun _ => 0))), ((u3 2), .inl (ca 0, 128, .inl (fun _ => 0)))] H locs := hH
  refine kPu (ci := 7) (v := .ref q2) C hH inX7 tyX7 tyX7_ok nmX7 0 rfl rfl 4 (by decide) kf_X7_23 rfl rfl rfl (Nat.le_of_ble_eq_true rfl) dX7_init_32 (fun H locs hH => ?_)
  have hH : Hy D A s [(h0, .inr (7, [.ref q0, .ref q1, .int 0, .int 0, .ref q2])), (q0, .inl (ca 5, 11, .inr (.inr (.inr (.inr (fun i => if i < 11 then some (q0 + 1 + i) else none)))))), ((q0 + 1 + 0), .inl (ca 0, 10, .inl (fun _ => 0))), ((q0 + 1 + 1), .inl (ca 0, 10, .inl (fun _ => 0))), ((q0 + 1 + 2), .inl (ca 0, 10, .inl (fun _ => 0))), ((q0 + 1 + 3), .inl (ca 0, 10, .inl (fun _ => 0))), ((q0 + 1 + 4), .inl (ca 0, 10, .inl (fun _ => 0))), ((q0 + 1 + 5), .inl (ca 0, 10, .inl (fun _ => 0))), ((q0 + 1 + 6), .inl (ca 0, 10, .inl (fun _ => 0))), ((q0 + 1 + 7), .inl (ca 0, 10, .inl (fun _ => 0))), ((q0 + 1 + 8), .inl (ca 0, 10, .inl (fun _ => 0))), ((q0 + 1 + 9), .inl (ca 0, 10, .inl (fun _ => 0))), ((q0 + 1 + 10), .inl (ca 0, 10, .inl (fun _ => 0))), (q1, .inl (ca 0, 6, .inl (fun _ => 0))), (q2, .inr (5, [.ref (u3 0), .ref (u3 1), .ref (u3 2), .int 0])), ((u3 0), .inl (ca 1, 128, .inl (fun _ => 0))), ((u3 1), .inl (ca 0, 128, .inl (fun _ => 0))), ((u3 2), .inl (ca 0, 128, .inl (fun _ => 0)))] H locs := hH
  refine lv_iconst (v := 0) hx hb dX7_init_35 (by decide) ?_
  refine lv_istore_n (lv' := [(1, .int 0), (0, .ref h0)]) hx hb dX7_init_36 rfl hl (by decide) rfl (fun ls hl => ?_)
  refine lv_iload_n hx hb dX7_init_37 rfl (lv_at hl 0 rfl) ?_
  refine lv_bipush (v := 6) hx hb dX7_init_38 (by decide) ?_
  refine lv_icmp_ge (tgt := 61) hx hb dX7_init_40 (by decide) (fun hc => absurd hc (by decide)) (fun _ => ?_)
  refine lv_aload_n hx hb dX7_init_43 rfl (lv_at hl 1 rfl) ?_
  refine kGe (ci := 7) (v := .ref q0) C hH inX7 0 rfl rfl 0 (by decide) kf_X7_11 rfl dX7_init_44 ?_
  refine lv_iconst (v := 0) hx hb dX7_init_47 (by decide) ?_
  refine kAg (v := (q0 + 1 + 0)) C hH 1 rfl (show inB 0 11 by decide) rfl dX7_init_48 ?_
  refine lv_iload_n hx hb dX7_init_49 rfl (lv_at hl 0 rfl) ?_
  refine lv_bipush (v := 10) hx hb dX7_init_50 (by decide) ?_
  refine lv_iload_n hx hb dX7_init_52 rfl (lv_at hl 0 rfl) ?_
  refine lv_imul hx hb dX7_init_53 ?_
  refine kAs C hH 2 rfl (show inB 0 10 by decide) dX7_init_54 (fun H locs hH => ?_)
  have hH : Hy D A s [(h0, .inr (7, [.ref q0, .ref q1, .int 0, .int 0, .ref q2])), (q0, .inl (ca 5, 11, .inr (.inr (.inr (.inr (fun i => if i < 11 then some (q0 + 1 + i) else none)))))), ((q0 + 1 + 0), .inl (ca 0, 10, .inl (upd (fun _ => 0) (Int32.toNatClampNeg 0) (10 * 0)))), ((q0 + 1 + 1), .inl (ca 0, 10, .inl (fun _ => 0))), ((q0 + 1 + 2), .inl (ca 0, 10, .inl (fun _ => 0))), ((q0 + 1 + 3), .inl (ca 0, 10, .inl (fun _ => 0))), ((q0 + 1 + 4), .inl (ca 0, 10, .inl (fun _ => 0))), ((q0 + 1 + 5), .inl (ca 0, 10, .inl (fun _ => 0))), ((q0 + 1 + 6), .inl (ca 0, 10, .inl (fun _ => 0))), ((q0 + 1 + 7), .inl (ca 0, 10, .inl (fun _ => 0))), ((q0 + 1 + 8), .inl (ca 0, 10, .inl (fun _ => 0))), ((q0 + 1 + 9), .inl (ca 0, 10, .inl (fun _ => 0))), ((q0 + 1 + 10), .inl (ca 0, 10, .inl (fun _ => 0))), (q1, .inl (ca 0, 6, .inl (fun _ => 0))), (q2, .inr (5, [.ref (u3 0), .ref (u3 1), .ref (u3 2), .int 0])), ((u3 0), .inl (ca 1, 128, .inl (fun _ => 0))), ((u3 1), .inl (ca 0, 128, .inl (fun _ => 0))), ((u3 2), .inl (ca 0, 128, .inl (fun _ => 0)))] H locs := hH
  refine lv_iinc (v := 1) (lv' := [(1, .int 1), (0, .ref h0)]) hx hb dX7_init_55 hl (k := 0) rfl (by decide) (by decide) rfl (fun ls hl => ?_)
  refine lv_goto (tgt := 37) hx hb dX7_init_58 (by decide) ?_
  refine lv_iload_n hx hb dX7_init_37 rfl (lv_at hl 0 rfl) ?_
  refine lv_bipush (v := 6) hx hb dX7_init_38 (by decide) ?_
  refine lv_icmp_ge (tgt := 61) hx hb dX7_init_40 (by decide) (fun hc => absurd hc (by decide)) (fun _ => ?_)
  refine lv_aload_n hx hb dX7_init_43 rfl (lv_at hl 1 rfl) ?_
  refine kGe (ci := 7) (v := .ref q0) C hH inX7 0 rfl rfl 0 (by decide) kf_X7_11 rfl dX7_init_44 ?_
  refine lv_iconst (v := 0) hx hb dX7_init_47 (by decide) ?_
  refine kAg (v := (q0 + 1 + 0)) C hH 1 rfl (show inB 0 11 by decide) rfl dX7_init_48 ?_
  refine lv_iload_n hx hb dX7_init_49 rfl (lv_at hl 0 rfl) ?_
  refine lv_bipush (v := 10) hx hb dX7_init_50 (by decide) ?_
  refine lv_iload_n hx hb dX7_init_52 rfl (lv_at hl 0 rfl) ?_
  refine lv_imul hx hb dX7_init_53 ?_
  refine kAs C hH 2 rfl (show inB 1 10 by decide) dX7_init_54 (fun H locs hH => ?_)
  have hH : Hy D A s [(h0, .inr (7, [.ref q0, .ref q1, .int 0, .int 0, .ref q2])), (q0, .inl (ca 5, 11, .inr (.inr (.inr (.inr (fun i => if i < 11 then some (q0 + 1 + i) else none)))))), ((q0 + 1 + 0), .inl (ca 0, 10, .inl (upd (upd (fun _ => 0) (Int32.toNatClampNeg 0) (10 * 0)) (Int32.toNatClampNeg 1) (10 * 1)))), ((q0 + 1 + 1), .inl (ca 0, 10, .inl (fun _ => 0))), ((q0 + 1 + 2), .inl (ca 0, 10, .inl (fun _ => 0))), ((q0 + 1 + 3), .inl (ca 0, 10, .inl (fun _ => 0))), ((q0 + 1 + 4), .inl (ca 0, 10, .inl (fun _ => 0))), ((q0 + 1 + 5), .inl (ca 0, 10, .inl (fun _ => 0))), ((q0 + 1 + 6), .inl (ca 0, 10, .inl (fun _ => 0))), ((q0 + 1 + 7), .inl (ca 0, 10, .inl (fun _ => 0))), ((q0 + 1 + 8), .inl (ca 0, 10, .inl (fun _ => 0))), ((q0 + 1 + 9), .inl (ca 0, 10, .inl (fun _ => 0))), ((q0 + 1 + 10), .inl (ca 0, 10, .inl (fun _ => 0))), (q1, .inl (ca 0, 6, .inl (fun _ => 0))), (q2, .inr (5, [.ref (u3 0), .ref (u3 1), .ref (u3 2), .int 0])), ((u3 0), .inl (ca 1, 128, .inl (fun _ => 0))), ((u3 1), .inl (ca 0, 128, .inl (fun _ => 0))), ((u3 2), .inl (ca 0, 128, .inl (fun _ => 0)))] H locs := hH
  refine lv_iinc (v := 2) (lv' := [(1, .int 2), (0, .ref h0)]) hx hb dX7_init_55 hl (k := 0) rfl (by decide) (by decide) rfl (fun ls hl => ?_)
  refine lv_goto (tgt := 37) hx hb dX7_init_58 (by decide) ?_
  refine lv_iload_n hx hb dX7_init_37 rfl (lv_at hl 0 rfl) ?_
  refine lv_bipush (v := 6) hx hb dX7_init_38 (by decide) ?_
  refine lv_icmp_ge (tgt := 61) hx hb dX7_init_40 (by decide) (fun hc => absurd hc (by decide)) (fun _ => ?_)
  refine lv_aload_n hx hb dX7_init_43 rfl (lv_at hl 1 rfl) ?_
  refine kGe (ci := 7) (v := .ref q0) C hH inX7 0 rfl rfl 0 (by decide) kf_X7_11 rfl dX7_init_44 ?_
  refine lv_iconst (v := 0) hx hb dX7_init_47 (by decide) ?_
  refine kAg (v := (q0 + 1 + 0)) C hH 1 rfl (show inB 0 11 by decide) rfl dX7_init_48 ?_
  refine lv_iload_n hx hb dX7_init_49 rfl (lv_at hl 0 rfl) ?_
  refine lv_bipush (v := 10) hx hb dX7_init_50 (by decide) ?_
  refine lv_iload_n hx hb dX7_init_52 rfl (lv_at hl 0 rfl) ?_
  refine lv_imul hx hb dX7_init_53 ?_
  refine kAs C hH 2 rfl (show inB 2 10 by decide) dX7_init_54 (fun H locs hH => ?_)
  have hH : Hy D A s [(h0, .inr (7, [.ref q0, .ref q1, .int 0, .int 0, .ref q2])), (q0, .inl (ca 5, 11, .inr (.inr (.inr (.inr (fun i => if i < 11 then some (q0 + 1 + i) else none)))))), ((q0 + 1 + 0), .inl (ca 0, 10, .inl (upd (upd (upd (fun _ => 0) (Int32.toNatClampNeg 0) (10 * 0)) (Int32.toNatClampNeg 1) (10 * 1)) (Int32.toNatClampNeg 2) (10 * 2)))), ((q0 + 1 + 1), .inl (ca 0, 10, .inl (fun _ => 0))), ((q0 + 1 + 2), .inl (ca 0, 10, .inl (fun _ => 0))), ((q0 + 1 + 3), .inl (ca 0, 10, .inl (fun _ => 0))), ((q0 + 1 + 4), .inl (ca 0, 10, .inl (fun _ => 0))), ((q0 + 1 + 5), .inl (ca 0, 10, .inl (fun _ => 0))), ((q0 + 1 + 6), .inl (ca 0, 10, .inl (fun _ => 0))), ((q0 + 1 + 7), .inl (ca 0, 10, .inl (fun _ => 0))), ((q0 + 1 + 8), .inl (ca 0, 10, .inl (fun _ => 0))), ((q0 + 1 + 9), .inl (ca 0, 10, .inl (fun _ => 0))), ((q0 + 1 + 10), .inl (ca 0, 10, .inl (fun _ => 0))), (q1, .inl (ca 0, 6, .inl (fun _ => 0))), (q2, .inr (5, [.ref (u3 0), .ref (u3 1), .ref (u3 2), .int 0])), ((u3 0), .inl (ca 1, 128, .inl (fun _ => 0))), ((u3 1), .inl (ca 0, 128, .inl (fun _ => 0))), ((u3 2), .inl (ca 0, 128, .inl (fun _ => 0)))] H locs := hH
  refine lv_iinc (v := 3) (lv' := [(1, .int 3), (0, .ref h0)]) hx hb dX7_init_55 hl (k := 0) rfl (by decide) (by decide) rfl (fun ls hl => ?_)
  refine lv_goto (tgt := 37) hx hb dX7_init_58 (by decide) ?_
  refine lv_iload_n hx hb dX7_init_37 rfl (lv_at hl 0 rfl) ?_
  refine lv_bipush (v := 6) hx hb dX7_init_38 (by decide) ?_
  refine lv_icmp_ge (tgt := 61) hx hb dX7_init_40 (by decide) (fun hc => absurd hc (by decide)) (fun _ => ?_)
  refine lv_aload_n hx hb dX7_init_43 rfl (lv_at hl 1 rfl) ?_
  refine kGe (ci := 7) (v := .ref q0) C hH inX7 0 rfl rfl 0 (by decide) kf_X7_11 rfl dX7_init_44 ?_
  refine lv_iconst (v := 0) hx hb dX7_init_47 (by decide) ?_
  refine kAg (v := (q0 + 1 + 0)) C hH 1 rfl (show inB 0 11 by decide) rfl dX7_init_48 ?_
  refine lv_iload_n hx hb dX7_init_49 rfl (lv_at hl 0 rfl) ?_
  refine lv_bipush (v := 10) hx hb dX7_init_50 (by decide) ?_
  refine lv_iload_n hx hb dX7_init_52 rfl (lv_at hl 0 rfl) ?_
  refine lv_imul hx hb dX7_init_53 ?_
  refine kAs C hH 2 rfl (show inB 3 10 by decide) dX7_init_54 (fun H locs hH => ?_)
  have hH : Hy D A s [(h0, .inr (7, [.ref q0, .ref q1, .int 0, .int 0, .ref q2])), (q0, .inl (ca 5, 11, .inr (.inr (.inr (.inr (fun i => if i < 11 then some (q0 + 1 + i) else none)))))), ((q0 + 1 + 0), .inl (ca 0, 10, .inl (upd (upd (upd (upd (fun _ => 0) (Int32.toNatClampNeg 0) (10 * 0)) (Int32.toNatClampNeg 1) (10 * 1)) (Int32.toNatClampNeg 2) (10 * 2)) (Int32.toNatClampNeg 3) (10 * 3)))), ((q0 + 1 + 1), .inl (ca 0, 10, .inl (fun _ => 0))), ((q0 + 1 + 2), .inl (ca 0, 10, .inl (fun _ => 0))), ((q0 + 1 + 3), .inl (ca 0, 10, .inl (fun _ => 0))), ((q0 + 1 + 4), .inl (ca 0, 10, .inl (fun _ => 0))), ((q0 + 1 + 5), .inl (ca 0, 10, .inl (fun _ => 0))), ((q0 + 1 + 6), .inl (ca 0, 10, .inl (fun _ => 0))), ((q0 + 1 + 7), .inl (ca 0, 10, .inl (fun _ => 0))), ((q0 + 1 + 8), .inl (ca 0, 10, .inl (fun _ => 0))), ((q0 + 1 + 9), .inl (ca 0, 10, .inl (fun _ => 0))), ((q0 + 1 + 10), .inl (ca 0, 10, .inl (fun _ => 0))), (q1, .inl (ca 0, 6, .inl (fun _ => 0))), (q2, .inr (5, [.ref (u3 0), .ref (u3 1), .ref (u3 2), .int 0])), ((u3 0), .inl (ca 1, 128, .inl (fun _ => 0))), ((u3 1), .inl (ca 0, 128, .inl (fun _ => 0))), ((u3 2), .inl (ca 0, 128, .inl (fun _ => 0)))] H locs := hH
  refine lv_iinc (v := 4) (lv' := [(1, .int 4), (0, .ref h0)]) hx hb dX7_init_55 hl (k := 0) rfl (by decide) (by decide) rfl (fun ls hl => ?_)
  refine lv_goto (tgt := 37) hx hb dX7_init_58 (by decide) ?_
  refine lv_iload_n hx hb dX7_init_37 rfl (lv_at hl 0 rfl) ?_
  refine lv_bipush (v := 6) hx hb dX7_init_38 (by decide) ?_
  refine lv_icmp_ge (tgt := 61) hx hb dX7_init_40 (by decide) (fun hc => absurd hc (by decide)) (fun _ => ?_)
  refine lv_aload_n hx hb dX7_init_43 rfl (lv_at hl 1 rfl) ?_
  refine kGe (ci := 7) (v := .ref q0) C hH inX7 0 rfl rfl 0 (by decide) kf_X7_11 rfl dX7_init_44 ?_
  refine lv_iconst (v := 0) hx hb dX7_init_47 (by decide) ?_
  refine kAg (v := (q0 + 1 + 0)) C hH 1 rfl (show inB 0 11 by decide) rfl dX7_init_48 ?_
  refine lv_iload_n hx hb dX7_init_49 rfl (lv_at hl 0 rfl) ?_
  refine lv_bipush (v := 10) hx hb dX7_init_50 (by decide) ?_
  refine lv_iload_n hx hb dX7_init_52 rfl (lv_at hl 0 rfl) ?_
  refine lv_imul hx hb dX7_init_53 ?_
  refine kAs C hH 2 rfl (show inB 4 10 by decide) dX7_init_54 (fun H locs hH => ?_)
  have hH : Hy D A s [(h0, .inr (7, [.ref q0, .ref q1, .int 0, .int 0, .ref q2])), (q0, .inl (ca 5, 11, .inr (.inr (.inr (.inr (fun i => if i < 11 then some (q0 + 1 + i) else none)))))), ((q0 + 1 + 0), .inl (ca 0, 10, .inl (upd (upd (upd (upd (upd (fun _ => 0) (Int32.toNatClampNeg 0) (10 * 0)) (Int32.toNatClampNeg 1) (10 * 1)) (Int32.toNatClampNeg 2) (10 * 2)) (Int32.toNatClampNeg 3) (10 * 3)) (Int32.toNatClampNeg 4) (10 * 4)))), ((q0 + 1 + 1), .inl (ca 0, 10, .inl (fun _ => 0))), ((q0 + 1 + 2), .inl (ca 0, 10, .inl (fun _ => 0))), ((q0 + 1 + 3), .inl (ca 0, 10, .inl (fun _ => 0))), ((q0 + 1 + 4), .inl (ca 0, 10, .inl (fun _ => 0))), ((q0 + 1 + 5), .inl (ca 0, 10, .inl (fun _ => 0))), ((q0 + 1 + 6), .inl (ca 0, 10, .inl (fun _ => 0))), ((q0 + 1 + 7), .inl (ca 0, 10, .inl (fun _ => 0))), ((q0 + 1 + 8), .inl (ca 0, 10, .inl (fun _ => 0))), ((q0 + 1 + 9), .inl (ca 0, 10, .inl (fun _ => 0))), ((q0 + 1 + 10), .inl (ca 0, 10, .inl (fun _ => 0))), (q1, .inl (ca 0, 6, .inl (fun _ => 0))), (q2, .inr (5, [.ref (u3 0), .ref (u3 1), .ref (u3 2), .int 0])), ((u3 0), .inl (ca 1, 128, .inl (fun _ => 0))), ((u3 1), .inl (ca 0, 128, .inl (fun _ => 0))), ((u3 2), .inl (ca 0, 128, .inl (fun _ => 0)))] H locs := hH
  refine lv_iinc (v := 5) (lv' := [(1, .int 5), (0, .ref h0)]) hx hb dX7_init_55 hl (k := 0) rfl (by decide) (by decide) rfl (fun ls hl => ?_)
  refine lv_goto (tgt := 37) hx hb dX7_init_58 (by decide) ?_
  refine lv_iload_n hx hb dX7_init_37 rfl (lv_at hl 0 rfl) ?_
  refine lv_bipush (v := 6) hx hb dX7_init_38 (by decide) ?_
  refine lv_icmp_ge (tgt := 61) hx hb dX7_init_40 (by decide) (fun hc => absurd hc (by decide)) (fun _ => ?_)
  refine lv_aload_n hx hb dX7_init_43 rfl (lv_at hl 1 rfl) ?_
  refine kGe (ci := 7) (v := .ref q0) C hH inX7 0 rfl rfl 0 (by decide) kf_X7_11 rfl dX7_init_44 ?_
  refine lv_iconst (v := 0) hx hb dX7_init_47 (by decide) ?_
  refine kAg (v := (q0 + 1 + 0)) C hH 1 rfl (show inB 0 11 by decide) rfl dX7_init_48 ?_
  refine lv_iload_n hx hb dX7_init_49 rfl (lv_at hl 0 rfl) ?_
  refine lv_bipush (v := 10) hx hb dX7_init_50 (by decide) ?_
  refine lv_iload_n hx hb dX7_init_52 rfl (lv_at hl 0 rfl) ?_
  refine lv_imul hx hb dX7_init_53 ?_
  refine kAs C hH 2 rfl (show inB 5 10 by decide) dX7_init_54 (fun H locs hH => ?_)
  have hH : Hy D A s [(h0, .inr (7, [.ref q0, .ref q1, .int 0, .int 0, .ref q2])), (q0, .inl (ca 5, 11, .inr (.inr (.inr (.inr (fun i => if i < 11 then some (q0 + 1 + i) else none)))))), ((q0 + 1 + 0), .inl (ca 0, 10, .inl (upd (upd (upd (upd (upd (upd (fun _ => 0) (Int32.toNatClampNeg 0) (10 * 0)) (Int32.toNatClampNeg 1) (10 * 1)) (Int32.toNatClampNeg 2) (10 * 2)) (Int32.toNatClampNeg 3) (10 * 3)) (Int32.toNatClampNeg 4) (10 * 4)) (Int32.toNatClampNeg 5) (10 * 5)))), ((q0 + 1 + 1), .inl (ca 0, 10, .inl (fun _ => 0))), ((q0 + 1 + 2), .inl (ca 0, 10, .inl (fun _ => 0))), ((q0 + 1 + 3), .inl (ca 0, 10, .inl (fun _ => 0))), ((q0 + 1 + 4), .inl (ca 0, 10, .inl (fun _ => 0))), ((q0 + 1 + 5), .inl (ca 0, 10, .inl (fun _ => 0))), ((q0 + 1 + 6), .inl (ca 0, 10, .inl (fun _ => 0))), ((q0 + 1 + 7), .inl (ca 0, 10, .inl (fun _ => 0))), ((q0 + 1 + 8), .inl (ca 0, 10, .inl (fun _ => 0))), ((q0 + 1 + 9), .inl (ca 0, 10, .inl (fun _ => 0))), ((q0 + 1 + 10), .inl (ca 0, 10, .inl (fun _ => 0))), (q1, .inl (ca 0, 6, .inl (fun _ => 0))), (q2, .inr (5, [.ref (u3 0), .ref (u3 1), .ref (u3 2), .int 0])), ((u3 0), .inl (ca 1, 128, .inl (fun _ => 0))), ((u3 1), .inl (ca 0, 128, .inl (fun _ => 0))), ((u3 2), .inl (ca 0, 128, .inl (fun _ => 0)))] H locs := hH
  refine lv_iinc (v := 6) (lv' := [(1, .int 6), (0, .ref h0)]) hx hb dX7_init_55 hl (k := 0) rfl (by decide) (by decide) rfl (fun ls hl => ?_)
  refine lv_goto (tgt := 37) hx hb dX7_init_58 (by decide) ?_
  refine lv_iload_n hx hb dX7_init_37 rfl (lv_at hl 0 rfl) ?_
  refine lv_bipush (v := 6) hx hb dX7_init_38 (by decide) ?_
  refine lv_icmp_ge (tgt := 61) hx hb dX7_init_40 (by decide) (fun _ => ?_) (fun hc => absurd (by decide) hc)
  exact retC (Wf := w_X7 D ca h0) C (fun i => List.getD [q0, q1, q2, (u3 0), (u3 1), (u3 2)] i 0) hH (Nat.le_of_ble_eq_true rfl) (Nat.le_of_ble_eq_true rfl) dX7_init_61
