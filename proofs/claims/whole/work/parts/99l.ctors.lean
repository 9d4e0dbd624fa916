/-! ===== constructors: straight on (laid by wip/whole/gc2.py) ===== -/
theorem ko_i : Cond.instanceMethod Lib.objectInit ∈ wdT := mem_wd 98 (by decide +kernel) (by decide +kernel)
theorem ko_c : Cond.code Lib.objectInit ⟨#[0xb1]⟩ 1 none ∈ wdT := mem_wd 99 (by decide +kernel) (by decide +kernel)
theorem ko_X5 : Cond.methodLink RX5 1 Lib.objectInit ∈ wdT := mem_wd 113 (by decide +kernel) (by decide +kernel)
theorem ka_1 : Cond.arrayClass (newarray.typeOf .char) ∈ wdT := mem_wd 128 (by decide +kernel) (by decide +kernel)
theorem kf_X5_9 : Cond.fieldLink RX5 9 (TX5 0).1 (TX5 0).2.1 (TX5 0).2.2.1 ∈ wdT := mem_wd 114 (by decide +kernel) (by decide +kernel)
theorem ka_0 : Cond.arrayClass (newarray.typeOf .int) ∈ wdT := mem_wd 127 (by decide +kernel) (by decide +kernel)
theorem kf_X5_13 : Cond.fieldLink RX5 13 (TX5 1).1 (TX5 1).2.1 (TX5 1).2.2.1 ∈ wdT := mem_wd 115 (by decide +kernel) (by decide +kernel)
theorem kf_X5_17 : Cond.fieldLink RX5 17 (TX5 2).1 (TX5 2).2.1 (TX5 2).2.2.1 ∈ wdT := mem_wd 116 (by decide +kernel) (by decide +kernel)
theorem ko_X1 : Cond.methodLink RX1 1 Lib.objectInit ∈ wdT := mem_wd 258 (by decide +kernel) (by decide +kernel)
theorem kf_X1_9 : Cond.fieldLink RX1 9 (TX1 0).1 (TX1 0).2.1 (TX1 0).2.2.1 ∈ wdT := mem_wd 259 (by decide +kernel) (by decide +kernel)
theorem kf_X1_13 : Cond.fieldLink RX1 13 (TX1 1).1 (TX1 1).2.1 (TX1 1).2.2.1 ∈ wdT := mem_wd 260 (by decide +kernel) (by decide +kernel)
theorem kf_X1_16 : Cond.fieldLink RX1 16 (TX1 2).1 (TX1 2).2.1 (TX1 2).2.2.1 ∈ wdT := mem_wd 261 (by decide +kernel) (by decide +kernel)
theorem kf_X1_19 : Cond.fieldLink RX1 19 (TX1 3).1 (TX1 3).2.1 (TX1 3).2.2.1 ∈ wdT := mem_wd 262 (by decide +kernel) (by decide +kernel)
theorem ko_X4 : Cond.methodLink RX4 3 Lib.objectInit ∈ wdT := mem_wd 285 (by decide +kernel) (by decide +kernel)
theorem kf_X4_11 : Cond.fieldLink RX4 11 (TX4 0).1 (TX4 0).2.1 (TX4 0).2.2.1 ∈ wdT := mem_wd 286 (by decide +kernel) (by decide +kernel)
theorem kf_X4_15 : Cond.fieldLink RX4 15 (TX4 1).1 (TX4 1).2.1 (TX4 1).2.2.1 ∈ wdT := mem_wd 287 (by decide +kernel) (by decide +kernel)
theorem ko_X8 : Cond.methodLink RX8 3 Lib.objectInit ∈ wdT := mem_wd 310 (by decide +kernel) (by decide +kernel)
theorem ka_3 : Cond.arrayClass (newarray.typeOf .long) ∈ wdT := mem_wd 190 (by decide +kernel) (by decide +kernel)
theorem kf_X8_11 : Cond.fieldLink RX8 11 (TX8 0).1 (TX8 0).2.1 (TX8 0).2.2.1 ∈ wdT := mem_wd 311 (by decide +kernel) (by decide +kernel)
theorem kf_X8_15 : Cond.fieldLink RX8 15 (TX8 1).1 (TX8 1).2.1 (TX8 1).2.2.1 ∈ wdT := mem_wd 313 (by decide +kernel) (by decide +kernel)
theorem ko_X0 : Cond.methodLink RX0 3 Lib.objectInit ∈ wdT := mem_wd 182 (by decide +kernel) (by decide +kernel)
theorem kf_X0_9 : Cond.fieldLink RX0 9 (TX0 1).1 (TX0 1).2.1 (TX0 1).2.2.1 ∈ wdT := mem_wd 184 (by decide +kernel) (by decide +kernel)
theorem kf_X0_15 : Cond.fieldLink RX0 15 (TX0 0).1 (TX0 0).2.1 (TX0 0).2.2.1 ∈ wdT := mem_wd 183 (by decide +kernel) (by decide +kernel)
theorem ko_X2 : Cond.methodLink RX2 3 Lib.objectInit ∈ wdT := mem_wd 196 (by decide +kernel) (by decide +kernel)
theorem kf_X2_9 : Cond.fieldLink RX2 9 (TX2 1).1 (TX2 1).2.1 (TX2 1).2.2.1 ∈ wdT := mem_wd 198 (by decide +kernel) (by decide +kernel)
theorem kf_X2_15 : Cond.fieldLink RX2 15 (TX2 2).1 (TX2 2).2.1 (TX2 2).2.2.1 ∈ wdT := mem_wd 199 (by decide +kernel) (by decide +kernel)
theorem kf_X2_19 : Cond.fieldLink RX2 19 (TX2 3).1 (TX2 3).2.1 (TX2 3).2.2.1 ∈ wdT := mem_wd 200 (by decide +kernel) (by decide +kernel)
theorem kf_X2_22 : Cond.fieldLink RX2 22 (TX2 0).1 (TX2 0).2.1 (TX2 0).2.2.1 ∈ wdT := mem_wd 197 (by decide +kernel) (by decide +kernel)
theorem ko_X3 : Cond.methodLink RX3 3 Lib.objectInit ∈ wdT := mem_wd 223 (by decide +kernel) (by decide +kernel)
theorem kf_X3_11 : Cond.fieldLink RX3 11 (TX3 1).1 (TX3 1).2.1 (TX3 1).2.2.1 ∈ wdT := mem_wd 225 (by decide +kernel) (by decide +kernel)
theorem kf_X3_15 : Cond.fieldLink RX3 15 (TX3 2).1 (TX3 2).2.1 (TX3 2).2.2.1 ∈ wdT := mem_wd 226 (by decide +kernel) (by decide +kernel)
theorem kf_X3_18 : Cond.fieldLink RX3 18 (TX3 3).1 (TX3 3).2.1 (TX3 3).2.2.1 ∈ wdT := mem_wd 227 (by decide +kernel) (by decide +kernel)
theorem kf_X3_21 : Cond.fieldLink RX3 21 (TX3 4).1 (TX3 4).2.1 (TX3 4).2.2.1 ∈ wdT := mem_wd 228 (by decide +kernel) (by decide +kernel)
theorem kf_X3_24 : Cond.fieldLink RX3 24 (TX3 5).1 (TX3 5).2.1 (TX3 5).2.2.1 ∈ wdT := mem_wd 229 (by decide +kernel) (by decide +kernel)
theorem kf_X3_27 : Cond.fieldLink RX3 27 (TX3 0).1 (TX3 0).2.1 (TX3 0).2.2.1 ∈ wdT := mem_wd 224 (by decide +kernel) (by decide +kernel)
def w_X5 (_ : va_G) (ca : Nat → ClassId) (h0 : Nat) (u : Nat → Nat) : va_W := [(h0, .inr (5, [.ref (u 0), .ref (u 1), .ref (u 2), .int 0])), ((u 0), .inl (ca 1, 128, .inl (fun _ => 0))), ((u 1), .inl (ca 0, 128, .inl (fun _ => 0))), ((u 2), .inl (ca 0, 128, .inl (fun _ => 0)))]
set_option maxHeartbeats 8000000 in
set_option maxRecDepth 100000 in
theorem c_X5 {l : Launch} {D : va_G} {ca : Nat → ClassId} {h0 sz : Nat} : Met l yX5_init (wsOf yX5_init cX5_init 1 none) (rmi 1 3 384) (CtP D ca [.ref h0] [(h0, .inr (5, [.null, .null, .null, .int 0]))] sz) (CtQ D (va_A [(h0, .inr (5, [.null, .null, .null, .int 0]))] sz) (w_X5 D ca h0)) 3 384 (va_A [(h0, .inr (5, [.null, .null, .null, .int 0]))] sz) := by
  refine entC (by decide) (Nat.le_of_ble_eq_true rfl) rfl ?_
  intro p e s m args below meth c A C hA hH ls hl
  have hx := C.1
  have hb := C.2.1
  have hN8 := C.2.2.2.2.2.2.2.2.2
  have hl : lv_has ls 1 [(0, .ref h0)] := hl
  refine lv_aload_n hx hb dX5_init_0 rfl (lv_at hl 0 rfl) ?_
  refine kObj C hl.1 ko_X5 ko_i ko_c ⟨by decide, by decide⟩ dX5_init_1 ?_
  refine lv_aload_n hx hb dX5_init_4 rfl (lv_at hl 0 rfl) ?_
  refine lv_sipush (v := 128) hx hb dX5_init_5 (by decide) ?_
  refine kNew (j := 1) (ty := .char) (N' := 128) (a0 := (128, .inl (fun _ => 0))) (atype := .char) C hA hH rfl rfl (fun _ _ => rfl) ka_1 (fun _ => rfl) (by decide) (by decide) (Nat.le_of_ble_eq_true rfl) (Nat.le_of_ble_eq_true rfl) (Nat.le_of_ble_eq_true rfl) dX5_init_8 (fun q0 H hH => ?_)
  have hH : Hy D A s [(h0, .inr (5, [.null, .null, .null, .int 0])), (q0, .inl (ca 1, 128, .inl (fun _ => 0)))] H _ := hH
  refine kPuF (ci := 5) (v := .ref q0) C hH inX5 tyX5 tyX5_ok nmX5 0 rfl rfl 0 (by decide) kf_X5_9 rfl rfl rfl rfl (Nat.le_of_ble_eq_true rfl) dX5_init_10 (fun H locs hH => ?_)
  have hH : Hy D A s [(h0, .inr (5, [.ref q0, .null, .null, .int 0])), (q0, .inl (ca 1, 128, .inl (fun _ => 0)))] H locs := hH
  refine lv_aload_n hx hb dX5_init_13 rfl (lv_at hl 0 rfl) ?_
  refine lv_sipush (v := 128) hx hb dX5_init_14 (by decide) ?_
  refine kNew (j := 0) (ty := .int) (N' := 128) (a0 := (128, .inl (fun _ => 0))) (atype := .int) C hA hH rfl rfl (fun _ _ => rfl) ka_0 (fun _ => rfl) (by decide) (by decide) (Nat.le_of_ble_eq_true rfl) (Nat.le_of_ble_eq_true rfl) (Nat.le_of_ble_eq_true rfl) dX5_init_17 (fun q1 H hH => ?_)
  have hH : Hy D A s [(h0, .inr (5, [.ref q0, .null, .null, .int 0])), (q0, .inl (ca 1, 128, .inl (fun _ => 0))), (q1, .inl (ca 0, 128, .inl (fun _ => 0)))] H _ := hH
  refine kPuF (ci := 5) (v := .ref q1) C hH inX5 tyX5 tyX5_ok nmX5 0 rfl rfl 1 (by decide) kf_X5_13 rfl rfl rfl rfl (Nat.le_of_ble_eq_true rfl) dX5_init_19 (fun H locs hH => ?_)
  have hH : Hy D A s [(h0, .inr (5, [.ref q0, .ref q1, .null, .int 0])), (q0, .inl (ca 1, 128, .inl (fun _ => 0))), (q1, .inl (ca 0, 128, .inl (fun _ => 0)))] H locs := hH
  refine lv_aload_n hx hb dX5_init_22 rfl (lv_at hl 0 rfl) ?_
  refine lv_sipush (v := 128) hx hb dX5_init_23 (by decide) ?_
  refine kNew (j := 0) (ty := .int) (N' := 128) (a0 := (128, .inl (fun _ => 0))) (atype := .int) C hA hH rfl rfl (fun _ _ => rfl) ka_0 (fun _ => rfl) (by decide) (by decide) (Nat.le_of_ble_eq_true rfl) (Nat.le_of_ble_eq_true rfl) (Nat.le_of_ble_eq_true rfl) dX5_init_26 (fun q2 H hH => ?_)
  have hH : Hy D A s [(h0, .inr (5, [.ref q0, .ref q1, .null, .int 0])), (q0, .inl (ca 1, 128, .inl (fun _ => 0))), (q1, .inl (ca 0, 128, .inl (fun _ => 0))), (q2, .inl (ca 0, 128, .inl (fun _ => 0)))] H _ := hH
  refine kPuF (ci := 5) (v := .ref q2) C hH inX5 tyX5 tyX5_ok nmX5 0 rfl rfl 2 (by decide) kf_X5_17 rfl rfl rfl rfl (Nat.le_of_ble_eq_true rfl) dX5_init_28 (fun H locs hH => ?_)
  have hH : Hy D A s [(h0, .inr (5, [.ref q0, .ref q1, .ref q2, .int 0])), (q0, .inl (ca 1, 128, .inl (fun _ => 0))), (q1, .inl (ca 0, 128, .inl (fun _ => 0))), (q2, .inl (ca 0, 128, .inl (fun _ => 0)))] H locs := hH
  exact retC (Wf := w_X5 D ca h0) C (fun i => List.getD [q0, q1, q2] i 0) hH (Nat.le_of_ble_eq_true rfl) (Nat.le_of_ble_eq_true rfl) dX5_init_31
def w_X1 (_ : va_G) (ca : Nat → ClassId) (h0 : Nat) (u : Nat → Nat) : va_W := [(h0, .inr (1, [.ref (u 0), .ref (u 1), .ref (u 2), .ref (u 3), .int 0, .int 0])), ((u 0), .inl (ca 0, 40, .inl (fun _ => 0))), ((u 1), .inl (ca 0, 40, .inl (fun _ => 0))), ((u 2), .inl (ca 0, 40, .inl (fun _ => 0))), ((u 3), .inl (ca 0, 40, .inl (fun _ => 0)))]
set_option maxHeartbeats 8000000 in
set_option maxRecDepth 100000 in
theorem c_X1 {l : Launch} {D : va_G} {ca : Nat → ClassId} {h0 sz : Nat} : Met l yX1_init (wsOf yX1_init cX1_init 1 none) (rmi 1 4 160) (CtP D ca [.ref h0] [(h0, .inr (1, [.null, .null, .null, .null, .int 0, .int 0]))] sz) (CtQ D (va_A [(h0, .inr (1, [.null, .null, .null, .null, .int 0, .int 0]))] sz) (w_X1 D ca h0)) 4 160 (va_A [(h0, .inr (1, [.null, .null, .null, .null, .int 0, .int 0]))] sz) := by
  refine entC (by decide) (Nat.le_of_ble_eq_true rfl) rfl ?_
  intro p e s m args below meth c A C hA hH ls hl
  have hx := C.1
  have hb := C.2.1
  have hN8 := C.2.2.2.2.2.2.2.2.2
  have hl : lv_has ls 1 [(0, .ref h0)] := hl
  refine lv_aload_n hx hb dX1_init_0 rfl (lv_at hl 0 rfl) ?_
  refine kObj C hl.1 ko_X1 ko_i ko_c ⟨by decide, by decide⟩ dX1_init_1 ?_
  refine lv_aload_n hx hb dX1_init_4 rfl (lv_at hl 0 rfl) ?_
  refine lv_bipush (v := 40) hx hb dX1_init_5 (by decide) ?_
  refine kNew (j := 0) (ty := .int) (N' := 40) (a0 := (40, .inl (fun _ => 0))) (atype := .int) C hA hH rfl rfl (fun _ _ => rfl) ka_0 (fun _ => rfl) (by decide) (by decide) (Nat.le_of_ble_eq_true rfl) (Nat.le_of_ble_eq_true rfl) (Nat.le_of_ble_eq_true rfl) dX1_init_7 (fun q0 H hH => ?_)
  have hH : Hy D A s [(h0, .inr (1, [.null, .null, .null, .null, .int 0, .int 0])), (q0, .inl (ca 0, 40, .inl (fun _ => 0)))] H _ := hH
  refine kPuF (ci := 1) (v := .ref q0) C hH inX1 tyX1 tyX1_ok nmX1 0 rfl rfl 0 (by decide) kf_X1_9 rfl rfl rfl rfl (Nat.le_of_ble_eq_true rfl) dX1_init_9 (fun H locs hH => ?_)
  have hH : Hy D A s [(h0, .inr (1, [.ref q0, .null, .null, .null, .int 0, .int 0])), (q0, .inl (ca 0, 40, .inl (fun _ => 0)))] H locs := hH
  refine lv_aload_n hx hb dX1_init_12 rfl (lv_at hl 0 rfl) ?_
  refine lv_bipush (v := 40) hx hb dX1_init_13 (by decide) ?_
  refine kNew (j := 0) (ty := .int) (N' := 40) (a0 := (40, .inl (fun _ => 0))) (atype := .int) C hA hH rfl rfl (fun _ _ => rfl) ka_0 (fun _ => rfl) (by decide) (by decide) (Nat.le_of_ble_eq_true rfl) (Nat.le_of_ble_eq_true rfl) (Nat.le_of_ble_eq_true rfl) dX1_init_15 (fun q1 H hH => ?_)
  have hH : Hy D A s [(h0, .inr (1, [.ref q0, .null, .null, .null, .int 0, .int 0])), (q0, .inl (ca 0, 40, .inl (fun _ => 0))), (q1, .inl (ca 0, 40, .inl (fun _ => 0)))] H _ := hH
  refine kPuF (ci := 1) (v := .ref q1) C hH inX1 tyX1 tyX1_ok nmX1 0 rfl rfl 1 (by decide) kf_X1_13 rfl rfl rfl rfl (Nat.le_of_ble_eq_true rfl) dX1_init_17 (fun H locs hH => ?_)
  have hH : Hy D A s [(h0, .inr (1, [.ref q0, .ref q1, .null, .null, .int 0, .int 0])), (q0, .inl (ca 0, 40, .inl (fun _ => 0))), (q1, .inl (ca 0, 40, .inl (fun _ => 0)))] H locs := hH
  refine lv_aload_n hx hb dX1_init_20 rfl (lv_at hl 0 rfl) ?_
  refine lv_bipush (v := 40) hx hb dX1_init_21 (by decide) ?_
  refine kNew (j := 0) (ty := .int) (N' := 40) (a0 := (40, .inl (fun _ => 0))) (atype := .int) C hA hH rfl rfl (fun _ _ => rfl) ka_0 (fun _ => rfl) (by decide) (by decide) (Nat.le_of_ble_eq_true rfl) (Nat.le_of_ble_eq_true rfl) (Nat.le_of_ble_eq_true rfl) dX1_init_23 (fun q2 H hH => ?_)
  have hH : Hy D A s [(h0, .inr (1, [.ref q0, .ref q1, .null, .null, .int 0, .int 0])), (q0, .inl (ca 0, 40, .inl (fun _ => 0))), (q1, .inl (ca 0, 40, .inl (fun _ => 0))), (q2, .inl (ca 0, 40, .inl (fun _ => 0)))] H _ := hH
  refine kPuF (ci := 1) (v := .ref q2) C hH inX1 tyX1 tyX1_ok nmX1 0 rfl rfl 2 (by decide) kf_X1_16 rfl rfl rfl rfl (Nat.le_of_ble_eq_true rfl) dX1_init_25 (fun H locs hH => ?_)
  have hH : Hy D A s [(h0, .inr (1, [.ref q0, .ref q1, .ref q2, .null, .int 0, .int 0])), (q0, .inl (ca 0, 40, .inl (fun _ => 0))), (q1, .inl (ca 0, 40, .inl (fun _ => 0))), (q2, .inl (ca 0, 40, .inl (fun _ => 0)))] H locs := hH
  refine lv_aload_n hx hb dX1_init_28 rfl (lv_at hl 0 rfl) ?_
  refine lv_bipush (v := 40) hx hb dX1_init_29 (by decide) ?_
  refine kNew (j := 0) (ty := .int) (N' := 40) (a0 := (40, .inl (fun _ => 0))) (atype := .int) C hA hH rfl rfl (fun _ _ => rfl) ka_0 (fun _ => rfl) (by decide) (by decide) (Nat.le_of_ble_eq_true rfl) (Nat.le_of_ble_eq_true rfl) (Nat.le_of_ble_eq_true rfl) dX1_init_31 (fun q3 H hH => ?_)
  have hH : Hy D A s [(h0, .inr (1, [.ref q0, .ref q1, .ref q2, .null, .int 0, .int 0])), (q0, .inl (ca 0, 40, .inl (fun _ => 0))), (q1, .inl (ca 0, 40, .inl (fun _ => 0))), (q2, .inl (ca 0, 40, .inl (fun _ => 0))), (q3, .inl (ca 0, 40, .inl (fun _ => 0)))] H _ := hH
  refine kPuF (ci := 1) (v := .ref q3) C hH inX1 tyX1 tyX1_ok nmX1 0 rfl rfl 3 (by decide) kf_X1_19 rfl rfl rfl rfl (Nat.le_of_ble_eq_true rfl) dX1_init_33 (fun H locs hH => ?_)
  have hH : Hy D A s [(h0, .inr (1, [.ref q0, .ref q1, .ref q2, .ref q3, .int 0, .int 0])), (q0, .inl (ca 0, 40, .inl (fun _ => 0))), (q1, .inl (ca 0, 40, .inl (fun _ => 0))), (q2, .inl (ca 0, 40, .inl (fun _ => 0))), (q3, .inl (ca 0, 40, .inl (fun _ => 0)))] H locs := hH
  exact retC (Wf := w_X1 D ca h0) C (fun i => List.getD [q0, q1, q2, q3] i 0) hH (Nat.le_of_ble_eq_true rfl) (Nat.le_of_ble_eq_true rfl) dX1_init_36
def w_X4 (_ : va_G) (ca : Nat → ClassId) (h0 : Nat) (u : Nat → Nat) : va_W := [(h0, .inr (4, [.ref (u 0), .ref (u 1), .int 0, .int 0, .int 0])), ((u 0), .inl (ca 0, 50, .inl (fun _ => 0))), ((u 1), .inl (ca 0, 24, .inl (fun _ => 0)))]
set_option maxHeartbeats 8000000 in
set_option maxRecDepth 100000 in
theorem c_X4 {l : Launch} {D : va_G} {ca : Nat → ClassId} {h0 sz : Nat} : Met l yX4_init (wsOf yX4_init cX4_init 1 none) (rmi 1 2 74) (CtP D ca [.ref h0] [(h0, .inr (4, [.null, .null, .int 0, .int 0, .int 0]))] sz) (CtQ D (va_A [(h0, .inr (4, [.null, .null, .int 0, .int 0, .int 0]))] sz) (w_X4 D ca h0)) 2 74 (va_A [(h0, .inr (4, [.null, .null, .int 0, .int 0, .int 0]))] sz) := by
  refine entC (by decide) (Nat.le_of_ble_eq_true rfl) rfl ?_
  intro p e s m args below meth c A C hA hH ls hl
  have hx := C.1
  have hb := C.2.1
  have hN8 := C.2.2.2.2.2.2.2.2.2
  have hl : lv_has ls 1 [(0, .ref h0)] := hl
  refine lv_aload_n hx hb dX4_init_0 rfl (lv_at hl 0 rfl) ?_
  refine kObj C hl.1 ko_X4 ko_i ko_c ⟨by decide, by decide⟩ dX4_init_1 ?_
  refine lv_aload_n hx hb dX4_init_4 rfl (lv_at hl 0 rfl) ?_
  refine lv_bipush (v := 50) hx hb dX4_init_5 (by decide) ?_
  refine kNew (j := 0) (ty := .int) (N' := 50) (a0 := (50, .inl (fun _ => 0))) (atype := .int) C hA hH rfl rfl (fun _ _ => rfl) ka_0 (fun _ => rfl) (by decide) (by decide) (Nat.le_of_ble_eq_true rfl) (Nat.le_of_ble_eq_true rfl) (Nat.le_of_ble_eq_true rfl) dX4_init_7 (fun q0 H hH => ?_)
  have hH : Hy D A s [(h0, .inr (4, [.null, .null, .int 0, .int 0, .int 0])), (q0, .inl (ca 0, 50, .inl (fun _ => 0)))] H _ := hH
  refine kPuF (ci := 4) (v := .ref q0) C hH inX4 tyX4 tyX4_ok nmX4 0 rfl rfl 0 (by decide) kf_X4_11 rfl rfl rfl rfl (Nat.le_of_ble_eq_true rfl) dX4_init_9 (fun H locs hH => ?_)
  have hH : Hy D A s [(h0, .inr (4, [.ref q0, .null, .int 0, .int 0, .int 0])), (q0, .inl (ca 0, 50, .inl (fun _ => 0)))] H locs := hH
  refine lv_aload_n hx hb dX4_init_12 rfl (lv_at hl 0 rfl) ?_
  refine lv_bipush (v := 24) hx hb dX4_init_13 (by decide) ?_
  refine kNew (j := 0) (ty := .int) (N' := 24) (a0 := (24, .inl (fun _ => 0))) (atype := .int) C hA hH rfl rfl (fun _ _ => rfl) ka_0 (fun _ => rfl) (by decide) (by decide) (Nat.le_of_ble_eq_true rfl) (Nat.le_of_ble_eq_true rfl) (Nat.le_of_ble_eq_true rfl) dX4_init_15 (fun q1 H hH => ?_)
  have hH : Hy D A s [(h0, .inr (4, [.ref q0, .null, .int 0, .int 0, .int 0])), (q0, .inl (ca 0, 50, .inl (fun _ => 0))), (q1, .inl (ca 0, 24, .inl (fun _ => 0)))] H _ := hH
  refine kPuF (ci := 4) (v := .ref q1) C hH inX4 tyX4 tyX4_ok nmX4 0 rfl rfl 1 (by decide) kf_X4_15 rfl rfl rfl rfl (Nat.le_of_ble_eq_true rfl) dX4_init_17 (fun H locs hH => ?_)
  have hH : Hy D A s [(h0, .inr (4, [.ref q0, .ref q1, .int 0, .int 0, .int 0])), (q0, .inl (ca 0, 50, .inl (fun _ => 0))), (q1, .inl (ca 0, 24, .inl (fun _ => 0)))] H locs := hH
  exact retC (Wf := w_X4 D ca h0) C (fun i => List.getD [q0, q1] i 0) hH (Nat.le_of_ble_eq_true rfl) (Nat.le_of_ble_eq_true rfl) dX4_init_20
def w_X8 (_ : va_G) (ca : Nat → ClassId) (h0 : Nat) (u : Nat → Nat) : va_W := [(h0, .inr (8, [.ref (u 0), .int 0, .int 0, .int 0, .int 0])), ((u 0), .inl (ca 3, 60, .inr (.inl (fun _ => 0))))]
set_option maxHeartbeats 8000000 in
set_option maxRecDepth 100000 in
theorem c_X8 {l : Launch} {D : va_G} {ca : Nat → ClassId} {h0 sz : Nat} : Met l yX8_init (wsOf yX8_init cX8_init 1 none) (rmi 1 1 60) (CtP D ca [.ref h0] [(h0, .inr (8, [.null, .int 0, .int 0, .int 0, .int 0]))] sz) (CtQ D (va_A [(h0, .inr (8, [.null, .int 0, .int 0, .int 0, .int 0]))] sz) (w_X8 D ca h0)) 1 60 (va_A [(h0, .inr (8, [.null, .int 0, .int 0, .int 0, .int 0]))] sz) := by
  refine entC (by decide) (Nat.le_of_ble_eq_true rfl) rfl ?_
  intro p e s m args below meth c A C hA hH ls hl
  have hx := C.1
  have hb := C.2.1
  have hN8 := C.2.2.2.2.2.2.2.2.2
  have hl : lv_has ls 1 [(0, .ref h0)] := hl
  refine lv_aload_n hx hb dX8_init_0 rfl (lv_at hl 0 rfl) ?_
  refine kObj C hl.1 ko_X8 ko_i ko_c ⟨by decide, by decide⟩ dX8_init_1 ?_
  refine lv_aload_n hx hb dX8_init_4 rfl (lv_at hl 0 rfl) ?_
  refine lv_bipush (v := 60) hx hb dX8_init_5 (by decide) ?_
  refine kNew (j := 3) (ty := .long) (N' := 60) (a0 := (60, .inr (.inl (fun _ => 0)))) (atype := .long) C hA hH rfl rfl (fun _ _ => rfl) ka_3 (fun _ => rfl) (by decide) (by decide) (Nat.le_of_ble_eq_true rfl) (Nat.le_of_ble_eq_true rfl) (Nat.le_of_ble_eq_true rfl) dX8_init_7 (fun q0 H hH => ?_)
  have hH : Hy D A s [(h0, .inr (8, [.null, .int 0, .int 0, .int 0, .int 0])), (q0, .inl (ca 3, 60, .inr (.inl (fun _ => 0))))] H _ := hH
  refine kPuF (ci := 8) (v := .ref q0) C hH inX8 tyX8 tyX8_ok nmX8 0 rfl rfl 0 (by decide) kf_X8_11 rfl rfl rfl rfl (Nat.le_of_ble_eq_true rfl) dX8_init_9 (fun H locs hH => ?_)
  have hH : Hy D A s [(h0, .inr (8, [.ref q0, .int 0, .int 0, .int 0, .int 0])), (q0, .inl (ca 3, 60, .inr (.inl (fun _ => 0))))] H locs := hH
  refine lv_aload_n hx hb dX8_init_12 rfl (lv_at hl 0 rfl) ?_
  refine lv_iconst (v := 0) hx hb dX8_init_13 (by decide) ?_
  refine kPu (ci := 8) (v := .int 0) C hH inX8 tyX8 tyX8_ok nmX8 0 rfl rfl 1 (by decide) kf_X8_15 rfl rfl rfl (Nat.le_of_ble_eq_true rfl) dX8_init_14 (fun H locs hH => ?_)
  have hH : Hy D A s [(h0, .inr (8, [.ref q0, .int 0, .int 0, .int 0, .int 0])), (q0, .inl (ca 3, 60, .inr (.inl (fun _ => 0))))] H locs := hH
  exact retC (Wf := w_X8 D ca h0) C (fun i => List.getD [q0] i 0) hH (Nat.le_of_ble_eq_true rfl) (Nat.le_of_ble_eq_true rfl) dX8_init_17
def w_X0 (_ : va_G) (ca : Nat → ClassId) (h0 h1 : Nat) (u : Nat → Nat) : va_W := [(h0, .inr (0, [.ref h1, .ref (u 0)])), ((u 0), .inl (ca 3, 6, .inr (.inl (fun _ => 0))))]
set_option maxHeartbeats 8000000 in
set_option maxRecDepth 100000 in
theorem c_X0 {l : Launch} {D : va_G} {ca : Nat → ClassId} {h0 h1 sz : Nat} : Met l yX0_init (wsOf yX0_init cX0_init 2 none) (rmi 1 1 6) (CtP D ca [.ref h0, .ref h1] [(h0, .inr (0, [.null, .null]))] sz) (CtQ D (va_A [(h0, .inr (0, [.null, .null]))] sz) (w_X0 D ca h0 h1)) 1 6 (va_A [(h0, .inr (0, [.null, .null]))] sz) := by
  refine entC (by decide) (Nat.le_of_ble_eq_true rfl) rfl ?_
  intro p e s m args below meth c A C hA hH ls hl
  have hx := C.1
  have hb := C.2.1
  have hN8 := C.2.2.2.2.2.2.2.2.2
  have hl : lv_has ls 2 [(0, .ref h0), (1, .ref h1)] := hl
  refine lv_aload_n hx hb dX0_init_0 rfl (lv_at hl 0 rfl) ?_
  refine kObj C hl.1 ko_X0 ko_i ko_c ⟨by decide, by decide⟩ dX0_init_1 ?_
  refine lv_aload_n hx hb dX0_init_4 rfl (lv_at hl 0 rfl) ?_
  refine lv_bipush (v := 6) hx hb dX0_init_5 (by decide) ?_
  refine kNew (j := 3) (ty := .long) (N' := 6) (a0 := (6, .inr (.inl (fun _ => 0)))) (atype := .long) C hA hH rfl rfl (fun _ _ => rfl) ka_3 (fun _ => rfl) (by decide) (by decide) (Nat.le_of_ble_eq_true rfl) (Nat.le_of_ble_eq_true rfl) (Nat.le_of_ble_eq_true rfl) dX0_init_7 (fun q0 H hH => ?_)
  have hH : Hy D A s [(h0, .inr (0, [.null, .null])), (q0, .inl (ca 3, 6, .inr (.inl (fun _ => 0))))] H _ := hH
  refine kPuF (ci := 0) (v := .ref q0) C hH inX0 tyX0 tyX0_ok nmX0 0 rfl rfl 1 (by decide) kf_X0_9 rfl rfl rfl rfl (Nat.le_of_ble_eq_true rfl) dX0_init_9 (fun H locs hH => ?_)
  have hH : Hy D A s [(h0, .inr (0, [.null, .ref q0])), (q0, .inl (ca 3, 6, .inr (.inl (fun _ => 0))))] H locs := hH
  refine lv_aload_n hx hb dX0_init_12 rfl (lv_at hl 0 rfl) ?_
  refine lv_aload_n hx hb dX0_init_13 rfl (lv_at hl 1 rfl) ?_
  refine kPuF (ci := 0) (v := .ref h1) C hH inX0 tyX0 tyX0_ok nmX0 0 rfl rfl 0 (by decide) kf_X0_15 rfl rfl rfl rfl (Nat.le_of_ble_eq_true rfl) dX0_init_14 (fun H locs hH => ?_)
  have hH : Hy D A s [(h0, .inr (0, [.ref h1, .ref q0])), (q0, .inl (ca 3, 6, .inr (.inl (fun _ => 0))))] H locs := hH
  exact retC (Wf := w_X0 D ca h0 h1) C (fun i => List.getD [q0] i 0) hH (Nat.le_of_ble_eq_true rfl) (Nat.le_of_ble_eq_true rfl) dX0_init_17
def w_X2 (_ : va_G) (ca : Nat → ClassId) (h0 h1 : Nat) (u : Nat → Nat) : va_W := [(h0, .inr (2, [.ref h1, .ref (u 0), .ref (u 1), .ref (u 2), .int 0, .int 0])), ((u 0), .inl (ca 0, 10, .inl (fun _ => 0))), ((u 1), .inl (ca 3, 64, .inr (.inl (fun _ => 0)))), ((u 2), .inl (ca 0, 6, .inl (fun _ => 0)))]
set_option maxHeartbeats 8000000 in
set_option maxRecDepth 100000 in
theorem c_X2 {l : Launch} {D : va_G} {ca : Nat → ClassId} {h0 h1 sz : Nat} : Met l yX2_init (wsOf yX2_init cX2_init 2 none) (rmi 1 3 80) (CtP D ca [.ref h0, .ref h1] [(h0, .inr (2, [.null, .null, .null, .null, .int 0, .int 0]))] sz) (CtQ D (va_A [(h0, .inr (2, [.null, .null, .null, .null, .int 0, .int 0]))] sz) (w_X2 D ca h0 h1)) 3 80 (va_A [(h0, .inr (2, [.null, .null, .null, .null, .int 0, .int 0]))] sz) := by
  refine entC (by decide) (Nat.le_of_ble_eq_true rfl) rfl ?_
  intro p e s m args below meth c A C hA hH ls hl
  have hx := C.1
  have hb := C.2.1
  have hN8 := C.2.2.2.2.2.2.2.2.2
  have hl : lv_has ls 2 [(0, .ref h0), (1, .ref h1)] := hl
  refine lv_aload_n hx hb dX2_init_0 rfl (lv_at hl 0 rfl) ?_
  refine kObj C hl.1 ko_X2 ko_i ko_c ⟨by decide, by decide⟩ dX2_init_1 ?_
  refine lv_aload_n hx hb dX2_init_4 rfl (lv_at hl 0 rfl) ?_
  refine lv_bipush (v := 10) hx hb dX2_init_5 (by decide) ?_
  refine kNew (j := 0) (ty := .int) (N' := 10) (a0 := (10, .inl (fun _ => 0))) (atype := .int) C hA hH rfl rfl (fun _ _ => rfl) ka_0 (fun _ => rfl) (by decide) (by decide) (Nat.le_of_ble_eq_true rfl) (Nat.le_of_ble_eq_true rfl) (Nat.le_of_ble_eq_true rfl) dX2_init_7 (fun q0 H hH => ?_)
  have hH : Hy D A s [(h0, .inr (2, [.null, .null, .null, .null, .int 0, .int 0])), (q0, .inl (ca 0, 10, .inl (fun _ => 0)))] H _ := hH
  refine kPuF (ci := 2) (v := .ref q0) C hH inX2 tyX2 tyX2_ok nmX2 0 rfl rfl 1 (by decide) kf_X2_9 rfl rfl rfl rfl (Nat.le_of_ble_eq_true rfl) dX2_init_9 (fun H locs hH => ?_)
  have hH : Hy D A s [(h0, .inr (2, [.null, .ref q0, .null, .null, .int 0, .int 0])), (q0, .inl (ca 0, 10, .inl (fun _ => 0)))] H locs := hH
  refine lv_aload_n hx hb dX2_init_12 rfl (lv_at hl 0 rfl) ?_
  refine lv_bipush (v := 64) hx hb dX2_init_13 (by decide) ?_
  refine kNew (j := 3) (ty := .long) (N' := 64) (a0 := (64, .inr (.inl (fun _ => 0)))) (atype := .long) C hA hH rfl rfl (fun _ _ => rfl) ka_3 (fun _ => rfl) (by decide) (by decide) (Nat.le_of_ble_eq_true rfl) (Nat.le_of_ble_eq_true rfl) (Nat.le_of_ble_eq_true rfl) dX2_init_15 (fun q1 H hH => ?_)
  have hH : Hy D A s [(h0, .inr (2, [.null, .ref q0, .null, .null, .int 0, .int 0])), (q0, .inl (ca 0, 10, .inl (fun _ => 0))), (q1, .inl (ca 3, 64, .inr (.inl (fun _ => 0))))] H _ := hH
  refine kPuF (ci := 2) (v := .ref q1) C hH inX2 tyX2 tyX2_ok nmX2 0 rfl rfl 2 (by decide) kf_X2_15 rfl rfl rfl rfl (Nat.le_of_ble_eq_true rfl) dX2_init_17 (fun H locs hH => ?_)
  have hH : Hy D A s [(h0, .inr (2, [.null, .ref q0, .ref q1, .null, .int 0, .int 0])), (q0, .inl (ca 0, 10, .inl (fun _ => 0))), (q1, .inl (ca 3, 64, .inr (.inl (fun _ => 0))))] H locs := hH
  refine lv_aload_n hx hb dX2_init_20 rfl (lv_at hl 0 rfl) ?_
  refine lv_bipush (v := 6) hx hb dX2_init_21 (by decide) ?_
  refine kNew (j := 0) (ty := .int) (N' := 6) (a0 := (6, .inl (fun _ => 0))) (atype := .int) C hA hH rfl rfl (fun _ _ => rfl) ka_0 (fun _ => rfl) (by decide) (by decide) (Nat.le_of_ble_eq_true rfl) (Nat.le_of_ble_eq_true rfl) (Nat.le_of_ble_eq_true rfl) dX2_init_23 (fun q2 H hH => ?_)
  have hH : Hy D A s [(h0, .inr (2, [.null, .ref q0, .ref q1, .null, .int 0, .int 0])), (q0, .inl (ca 0, 10, .inl (fun _ => 0))), (q1, .inl (ca 3, 64, .inr (.inl (fun _ => 0)))), (q2, .inl (ca 0, 6, .inl (fun _ => 0)))] H _ := hH
  refine kPuF (ci := 2) (v := .ref q2) C hH inX2 tyX2 tyX2_ok nmX2 0 rfl rfl 3 (by decide) kf_X2_19 rfl rfl rfl rfl (Nat.le_of_ble_eq_true rfl) dX2_init_25 (fun H locs hH => ?_)
  have hH : Hy D A s [(h0, .inr (2, [.null, .ref q0, .ref q1, .ref q2, .int 0, .int 0])), (q0, .inl (ca 0, 10, .inl (fun _ => 0))), (q1, .inl (ca 3, 64, .inr (.inl (fun _ => 0)))), (q2, .inl (ca 0, 6, .inl (fun _ => 0)))] H locs := hH
  refine lv_aload_n hx hb dX2_init_28 rfl (lv_at hl 0 rfl) ?_
  refine lv_aload_n hx hb dX2_init_29 rfl (lv_at hl 1 rfl) ?_
  refine kPuF (ci := 2) (v := .ref h1) C hH inX2 tyX2 tyX2_ok nmX2 0 rfl rfl 0 (by decide) kf_X2_22 rfl rfl rfl rfl (Nat.le_of_ble_eq_true rfl) dX2_init_30 (fun H locs hH => ?_)
  have hH : Hy D A s [(h0, .inr (2, [.ref h1, .ref q0, .ref q1, .ref q2, .int 0, .int 0])), (q0, .inl (ca 0, 10, .inl (fun _ => 0))), (q1, .inl (ca 3, 64, .inr (.inl (fun _ => 0)))), (q2, .inl (ca 0, 6, .inl (fun _ => 0)))] H locs := hH
  exact retC (Wf := w_X2 D ca h0 h1) C (fun i => List.getD [q0, q1, q2] i 0) hH (Nat.le_of_ble_eq_true rfl) (Nat.le_of_ble_eq_true rfl) dX2_init_33
def w_X3 (_ : va_G) (ca : Nat → ClassId) (h0 h1 : Nat) (u : Nat → Nat) : va_W := [(h0, .inr (3, [.ref h1, .ref (u 0), .ref (u 1), .ref (u 2), .ref (u 3), .ref (u 4), .int 0, .int 0, .int 0])), ((u 0), .inl (ca 0, 5, .inl (fun _ => 0))), ((u 1), .inl (ca 0, 5, .inl (fun _ => 0))), ((u 2), .inl (ca 0, 10, .inl (fun _ => 0))), ((u 3), .inl (ca 0, 10, .inl (fun _ => 0))), ((u 4), .inl (ca 0, 6, .inl (fun _ => 0)))]
set_option maxHeartbeats 8000000 in
set_option maxRecDepth 100000 in
theorem c_X3 {l : Launch} {D : va_G} {ca : Nat → ClassId} {h0 h1 sz : Nat} : Met l yX3_init (wsOf yX3_init cX3_init 2 none) (rmi 1 5 36) (CtP D ca [.ref h0, .ref h1] [(h0, .inr (3, [.null, .null, .null, .null, .null, .null, .int 0, .int 0, .int 0]))] sz) (CtQ D (va_A [(h0, .inr (3, [.null, .null, .null, .null, .null, .null, .int 0, .int 0, .int 0]))] sz) (w_X3 D ca h0 h1)) 5 36 (va_A [(h0, .inr (3, [.null, .null, .null, .null, .null, .null, .int 0, .int 0, .int 0]))] sz) := by
  refine entC (by decide) (Nat.le_of_ble_eq_true rfl) rfl ?_
  intro p e s m args below meth c A C hA hH ls hl
  have hx := C.1
  have hb := C.2.1
  have hN8 := C.2.2.2.2.2.2.2.2.2
  have hl : lv_has ls 2 [(0, .ref h0), (1, .ref h1)] := hl
  refine lv_aload_n hx hb dX3_init_0 rfl (lv_at hl 0 rfl) ?_
  refine kObj C hl.1 ko_X3 ko_i ko_c ⟨by decide, by decide⟩ dX3_init_1 ?_
  refine lv_aload_n hx hb dX3_init_4 rfl (lv_at hl 0 rfl) ?_
  refine lv_iconst (v := 5) hx hb dX3_init_5 (by decide) ?_
  refine kNew (j := 0) (ty := .int) (N' := 5) (a0 := (5, .inl (fun _ => 0))) (atype := .int) C hA hH rfl rfl (fun _ _ => rfl) ka_0 (fun _ => rfl) (by decide) (by decide) (Nat.le_of_ble_eq_true rfl) (Nat.le_of_ble_eq_true rfl) (Nat.le_of_ble_eq_true rfl) dX3_init_6 (fun q0 H hH => ?_)
  have hH : Hy D A s [(h0, .inr (3, [.null, .null, .null, .null, .null, .null, .int 0, .int 0, .int 0])), (q0, .inl (ca 0, 5, .inl (fun _ => 0)))] H _ := hH
  refine kPuF (ci := 3) (v := .ref q0) C hH inX3 tyX3 tyX3_ok nmX3 0 rfl rfl 1 (by decide) kf_X3_11 rfl rfl rfl rfl (Nat.le_of_ble_eq_true rfl) dX3_init_8 (fun H locs hH => ?_)
  have hH : Hy D A s [(h0, .inr (3, [.null, .ref q0, .null, .null, .null, .null, .int 0, .int 0, .int 0])), (q0, .inl (ca 0, 5, .inl (fun _ => 0)))] H locs := hH
  refine lv_aload_n hx hb dX3_init_11 rfl (lv_at hl 0 rfl) ?_
  refine lv_iconst (v := 5) hx hb dX3_init_12 (by decide) ?_
  refine kNew (j := 0) (ty := .int) (N' := 5) (a0 := (5, .inl (fun _ => 0))) (atype := .int) C hA hH rfl rfl (fun _ _ => rfl) ka_0 (fun _ => rfl) (by decide) (by decide) (Nat.le_of_ble_eq_true rfl) (Nat.le_of_ble_eq_true rfl) (Nat.le_of_ble_eq_true rfl) dX3_init_13 (fun q1 H hH => ?_)
  have hH : Hy D A s [(h0, .inr (3, [.null, .ref q0, .null, .null, .null, .null, .int 0, .int 0, .int 0])), (q0, .inl (ca 0, 5, .inl (fun _ => 0))), (q1, .inl (ca 0, 5, .inl (fun _ => 0)))] H _ := hH
  refine kPuF (ci := 3) (v := .ref q1) C hH inX3 tyX3 tyX3_ok nmX3 0 rfl rfl 2 (by decide) kf_X3_15 rfl rfl rfl rfl (Nat.le_of_ble_eq_true rfl) dX3_init_15 (fun H locs hH => ?_)
  have hH : Hy D A s [(h0, .inr (3, [.null, .ref q0, .ref q1, .null, .null, .null, .int 0, .int 0, .int 0])), (q0, .inl (ca 0, 5, .inl (fun _ => 0))), (q1, .inl (ca 0, 5, .inl (fun _ => 0)))] H locs := hH
  refine lv_aload_n hx hb dX3_init_18 rfl (lv_at hl 0 rfl) ?_
  refine lv_bipush (v := 10) hx hb dX3_init_19 (by decide) ?_
  refine kNew (j := 0) (ty := .int) (N' := 10) (a0 := (10, .inl (fun _ => 0))) (atype := .int) C hA hH rfl rfl (fun _ _ => rfl) ka_0 (fun _ => rfl) (by decide) (by decide) (Nat.le_of_ble_eq_true rfl) (Nat.le_of_ble_eq_true rfl) (Nat.le_of_ble_eq_true rfl) dX3_init_21 (fun q2 H hH => ?_)
  have hH : Hy D A s [(h0, .inr (3, [.null, .ref q0, .ref q1, .null, .null, .null, .int 0, .int 0, .int 0])), (q0, .inl (ca 0, 5, .inl (fun _ => 0))), (q1, .inl (ca 0, 5, .inl (fun _ => 0))), (q2, .inl (ca 0, 10, .inl (fun _ => 0)))] H _ := hH
  refine kPuF (ci := 3) (v := .ref q2) C hH inX3 tyX3 tyX3_ok nmX3 0 rfl rfl 3 (by decide) kf_X3_18 rfl rfl rfl rfl (Nat.le_of_ble_eq_true rfl) dX3_init_23 (fun H locs hH => ?_)
  have hH : Hy D A s [(h0, .inr (3, [.null, .ref q0, .ref q1, .ref q2, .null, .null, .int 0, .int 0, .int 0])), (q0, .inl (ca 0, 5, .inl (fun _ => 0))), (q1, .inl (ca 0, 5, .inl (fun _ => 0))), (q2, .inl (ca 0, 10, .inl (fun _ => 0)))] H locs := hH
  refine lv_aload_n hx hb dX3_init_26 rfl (lv_at hl 0 rfl) ?_
  refine lv_bipush (v := 10) hx hb dX3_init_27 (by decide) ?_
  refine kNew (j := 0) (ty := .int) (N' := 10) (a0 := (10, .inl (fun _ => 0))) (atype := .int) C hA hH rfl rfl (fun _ _ => rfl) ka_0 (fun _ => rfl) (by decide) (by decide) (Nat.le_of_ble_eq_true rfl) (Nat.le_of_ble_eq_true rfl) (Nat.le_of_ble_eq_true rfl) dX3_init_29 (fun q3 H hH => ?_)
  have hH : Hy D A s [(h0, .inr (3, [.null, .ref q0, .ref q1, .ref q2, .null, .null, .int 0, .int 0, .int 0])), (q0, .inl (ca 0, 5, .inl (fun _ => 0))), (q1, .inl (ca 0, 5, .inl (fun _ => 0))), (q2, .inl (ca 0, 10, .inl (fun _ => 0))), (q3, .inl (ca 0, 10, .inl (fun _ => 0)))] H _ := hH
  refine kPuF (ci := 3) (v := .ref q3) C hH inX3 tyX3 tyX3_ok nmX3 0 rfl rfl 4 (by decide) kf_X3_21 rfl rfl rfl rfl (Nat.le_of_ble_eq_true rfl) dX3_init_31 (fun H locs hH => ?_)
  have hH : Hy D A s [(h0, .inr (3, [.null, .ref q0, .ref q1, .ref q2, .ref q3, .null, .int 0, .int 0, .int 0])), (q0, .inl (ca 0, 5, .inl (fun _ => 0))), (q1, .inl (ca 0, 5, .inl (fun _ => 0))), (q2, .inl (ca 0, 10, .inl (fun _ => 0))), (q3, .inl (ca 0, 10, .inl (fun _ => 0)))] H locs := hH
  refine lv_aload_n hx hb dX3_init_34 rfl (lv_at hl 0 rfl) ?_
  refine lv_bipush (v := 6) hx hb dX3_init_35 (by decide) ?_
  refine kNew (j := 0) (ty := .int) (N' := 6) (a0 := (6, .inl (fun _ => 0))) (atype := .int) C hA hH rfl rfl (fun _ _ => rfl) ka_0 (fun _ => rfl) (by decide) (by decide) (Nat.le_of_ble_eq_true rfl) (Nat.le_of_ble_eq_true rfl) (Nat.le_of_ble_eq_true rfl) dX3_init_37 (fun q4 H hH => ?_)
  have hH : Hy D A s [(h0, .inr (3, [.null, .ref q0, .ref q1, .ref q2, .ref q3, .null, .int 0, .int 0, .int 0])), (q0, .inl (ca 0, 5, .inl (fun _ => 0))), (q1, .inl (ca 0, 5, .inl (fun _ => 0))), (q2, .inl (ca 0, 10, .inl (fun _ => 0))), (q3, .inl (ca 0, 10, .inl (fun _ => 0))), (q4, .inl (ca 0, 6, .inl (fun _ => 0)))] H _ := hH
  refine kPuF (ci := 3) (v := .ref q4) C hH inX3 tyX3 tyX3_ok nmX3 0 rfl rfl 5 (by decide) kf_X3_24 rfl rfl rfl rfl (Nat.le_of_ble_eq_true rfl) dX3_init_39 (fun H locs hH => ?_)
  have hH : Hy D A s [(h0, .inr (3, [.null, .ref q0, .ref q1, .ref q2, .ref q3, .ref q4, .int 0, .int 0, .int 0])), (q0, .inl (ca 0, 5, .inl (fun _ => 0))), (q1, .inl (ca 0, 5, .inl (fun _ => 0))), (q2, .inl (ca 0, 10, .inl (fun _ => 0))), (q3, .inl (ca 0, 10, .inl (fun _ => 0))), (q4, .inl (ca 0, 6, .inl (fun _ => 0)))] H locs := hH
  refine lv_aload_n hx hb dX3_init_42 rfl (lv_at hl 0 rfl) ?_
  refine lv_aload_n hx hb dX3_init_43 rfl (lv_at hl 1 rfl) ?_
  refine kPuF (ci := 3) (v := .ref h1) C hH inX3 tyX3 tyX3_ok nmX3 0 rfl rfl 0 (by decide) kf_X3_27 rfl rfl rfl rfl (Nat.le_of_ble_eq_true rfl) dX3_init_44 (fun H locs hH => ?_)
  have hH : Hy D A s [(h0, .inr (3, [.ref h1, .ref q0, .ref q1, .ref q2, .ref q3, .ref q4, .int 0, .int 0, .int 0])), (q0, .inl (ca 0, 5, .inl (fun _ => 0))), (q1, .inl (ca 0, 5, .inl (fun _ => 0))), (q2, .inl (ca 0, 10, .inl (fun _ => 0))), (q3, .inl (ca 0, 10, .inl (fun _ => 0))), (q4, .inl (ca 0, 6, .inl (fun _ => 0)))] H locs := hH
  exact retC (Wf := w_X3 D ca h0 h1) C (fun i => List.getD [q0, q1, q2, q3, q4] i 0) hH (Nat.le_of_ble_eq_true rfl) (Nat.le_of_ble_eq_true rfl) dX3_init_47
