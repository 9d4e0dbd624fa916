/-! ===== the walks: each method by its denotation (laid by wip/whole/gen.py) ===== -/
section WALK
variable {p : Program} {l : Launch} {e : Env} {s : State} {m : MethodId} {args : Array Value} {below : List Frame} {meth : Method} {c : Code} {H : Heap} {locs : List Loc} {Q : State → Prop} {cells slots : Nat} {ls : Array Slot} {D : va_G} {ca : Nat → ClassId} {A : Nat → Prop} {ad : Nat → Nat}
set_option maxHeartbeats 2000000 in
set_option maxRecDepth 20000 in
theorem wbX10_image_94 (C : Cx D ca A p s m args meth c cX10_image RX10 2 (some .int)) {q : Int32 × Mm} {k94 : Int32 → Mm → Option (Int32 × Mm)} (hk94 : ∀ (v1 : Int32) (mm : Mm), k94 v1 mm = some q → ∀ (H : Heap) (locs : List Loc) (ls : Array Slot), Hx WN ad ca WS D A s.heap mm H locs → lv_has ls 2 [(0, .ref (ad 58)), (1, .int v1)] → W p l e (rmk 1) s m args below meth c H locs 0 0 (MQ below (QcI WN ad ca WS D A pzT q) args s 0 0 A) (F0 m 94 ls [])) {v1 : Int32} {mm : Mm} (h : BX10_image_94 k94 v1 mm = some q) (hH : Hx WN ad ca WS D A s.heap mm H locs) (hl : lv_has ls 2 [(0, .ref (ad 58)), (1, .int v1)]) : W p l e (rmk 1) s m args below meth c H locs 0 0 (MQ below (QcI WN ad ca WS D A pzT q) args s 0 0 A) (F0 m 94 ls []) := by
  unfold BX10_image_94 at h
  have hx := C.1
  have hb := C.2.1
  refine lv_iload_n hx hb dX10_image_94 rfl (lv_at hl 1 rfl) ?_
  refine lv_iconst (v := 5) hx hb dX10_image_95 (by decide) ?_
  refine lv_icmp_ge (tgt := 117) hx hb dX10_image_96 (by decide) (fun hc96 => ?_) (fun hc96 => ?_)
  · replace h := tT hc96 h
    refine lv_aload_n hx hb dX10_image_117 rfl (lv_at hl 0 rfl) ?_
    refine rgS C hH fs_RX10_51_58 dX10_image_118 ?_
    refine lv_iconst (v := 0) hx hb dX10_image_121 (by decide) ?_
    refine raI C hH (k := 0) (by decide) (show WS 72 = .inr (0, 5, 0) from rfl) (show inB 0 5 from by decide) (by decide) dX10_image_122 ?_
    have h := Option.some.inj h
    subst h
    exact retI C hH trivial dX10_image_123
  · replace h := tF hc96 h
    refine lv_aload_n hx hb dX10_image_99 rfl (lv_at hl 0 rfl) ?_
    refine rgS C hH fs_RX10_63_58 dX10_image_100 ?_
    refine lv_iload_n hx hb dX10_image_103 rfl (lv_at hl 1 rfl) ?_
    refine lv_aload_n hx hb dX10_image_104 rfl (lv_at hl 0 rfl) ?_
    refine rgS C hH fs_RX10_51_58 dX10_image_105 ?_
    refine lv_iload_n hx hb dX10_image_108 rfl (lv_at hl 1 rfl) ?_
    obtain ⟨hi109, h⟩ := tC h
    refine raI C hH (k := (Int32.toNatClampNeg v1)) (by decide) (show WS 72 = .inr (0, 5, 0) from rfl) hi109 rfl dX10_image_109 ?_
    obtain ⟨hi110, h⟩ := tC h
    refine rwI C hH (k := (Int32.toNatClampNeg v1)) (by decide) (show WS 76 = .inr (0, 5, 0) from rfl) hi110 rfl dX10_image_110 (fun H locs hH => ?_)
    refine lv_iinc (v := (v1 + 1)) (lv' := [(1, .int (v1 + 1)), (0, .ref (ad 58))]) hx hb dX10_image_111 hl (k := 1) rfl rfl (by decide) rfl (fun ls hl => ?_)
    refine lv_goto (tgt := 94) hx hb dX10_image_114 (by decide) ?_
    exact hk94 _ _ h _ _ _ hH (lv_sub hl [1, 0] rfl)
set_option maxHeartbeats 2000000 in
set_option maxRecDepth 20000 in
theorem wX10_image_94 (C : Cx D ca A p s m args meth c cX10_image RX10 2 (some .int)) {q : Int32 × Mm} : ∀ (N : Nat) (v1 : Int32) (mm : Mm), DX10_image_94 N v1 mm = some q → ∀ (H : Heap) (locs : List Loc) (ls : Array Slot), Hx WN ad ca WS D A s.heap mm H locs → lv_has ls 2 [(0, .ref (ad 58)), (1, .int v1)] → W p l e (rmk 1) s m args below meth c H locs 0 0 (MQ below (QcI WN ad ca WS D A pzT q) args s 0 0 A) (F0 m 94 ls []) := by
  intro N
  induction N with
  | zero =>
    intro v1 mm h
    have h2 : (none : Option (Int32 × Mm)) = some q := h
    cases h2
  | succ N ih =>
    intro v1 mm h H locs ls hH hl
    exact wbX10_image_94 C ih h hH hl
set_option maxHeartbeats 2000000 in
set_option maxRecDepth 20000 in
theorem wbX10_image_63 (C : Cx D ca A p s m args meth c cX10_image RX10 2 (some .int)) {q : Int32 × Mm} {k63 : Int32 → Mm → Option (Int32 × Mm)} (hk63 : ∀ (v1 : Int32) (mm : Mm), k63 v1 mm = some q → ∀ (H : Heap) (locs : List Loc) (ls : Array Slot), Hx WN ad ca WS D A s.heap mm H locs → lv_has ls 2 [(0, .ref (ad 58)), (1, .int v1)] → W p l e (rmk 1) s m args below meth c H locs 0 0 (MQ below (QcI WN ad ca WS D A pzT q) args s 0 0 A) (F0 m 63 ls [])) {v1 : Int32} {mm : Mm} (h : BX10_image_63 k63 v1 mm = some q) (hH : Hx WN ad ca WS D A s.heap mm H locs) (hl : lv_has ls 2 [(0, .ref (ad 58)), (1, .int v1)]) : W p l e (rmk 1) s m args below meth c H locs 0 0 (MQ below (QcI WN ad ca WS D A pzT q) args s 0 0 A) (F0 m 63 ls []) := by
  unfold BX10_image_63 at h
  have hx := C.1
  have hb := C.2.1
  refine lv_iload_n hx hb dX10_image_63 rfl (lv_at hl 1 rfl) ?_
  refine lv_aload_n hx hb dX10_image_64 rfl (lv_at hl 0 rfl) ?_
  refine rgI C hH fi_RX10_103_58 dX10_image_65 ?_
  refine lv_icmp_ge (tgt := 92) hx hb dX10_image_68 (by decide) (fun hc68 => ?_) (fun hc68 => ?_)
  · replace h := tT hc68 h
    refine lv_iconst (v := 0) hx hb dX10_image_92 (by decide) ?_
    refine lv_istore_n (lv' := [(1, .int 0), (0, .ref (ad 58))]) hx hb dX10_image_93 rfl hl (by decide) rfl (fun ls hl => ?_)
    exact wX10_image_94 C FU _ _ h _ _ _ hH (lv_sub hl [1, 0] rfl)
  · replace h := tF hc68 h
    refine lv_aload_n hx hb dX10_image_71 rfl (lv_at hl 0 rfl) ?_
    refine rgS C hH fs_RX10_60_58 dX10_image_72 ?_
    refine lv_iload_n hx hb dX10_image_75 rfl (lv_at hl 1 rfl) ?_
    refine lv_aload_n hx hb dX10_image_76 rfl (lv_at hl 0 rfl) ?_
    refine rgS C hH fs_RX10_9_58 dX10_image_77 ?_
    refine lv_bipush (v := 44) hx hb dX10_image_80 (by decide) ?_
    refine lv_iload_n hx hb dX10_image_82 rfl (lv_at hl 1 rfl) ?_
    refine lv_iadd hx hb dX10_image_83 ?_
    obtain ⟨hi84, h⟩ := tC h
    refine raI C hH (k := (Int32.toNatClampNeg (44 + v1))) (by decide) (show WS 59 = .inr (0, 62, 0) from rfl) hi84 rfl dX10_image_84 ?_
    obtain ⟨hi85, h⟩ := tC h
    refine rwI C hH (k := (Int32.toNatClampNeg v1)) (by decide) (show WS 75 = .inr (0, 6, 0) from rfl) hi85 rfl dX10_image_85 (fun H locs hH => ?_)
    refine lv_iinc (v := (v1 + 1)) (lv' := [(1, .int (v1 + 1)), (0, .ref (ad 58))]) hx hb dX10_image_86 hl (k := 1) rfl rfl (by decide) rfl (fun ls hl => ?_)
    refine lv_goto (tgt := 63) hx hb dX10_image_89 (by decide) ?_
    exact hk63 _ _ h _ _ _ hH (lv_sub hl [1, 0] rfl)
set_option maxHeartbeats 2000000 in
set_option maxRecDepth 20000 in
theorem wX10_image_63 (C : Cx D ca A p s m args meth c cX10_image RX10 2 (some .int)) {q : Int32 × Mm} : ∀ (N : Nat) (v1 : Int32) (mm : Mm), DX10_image_63 N v1 mm = some q → ∀ (H : Heap) (locs : List Loc) (ls : Array Slot), Hx WN ad ca WS D A s.heap mm H locs → lv_has ls 2 [(0, .ref (ad 58)), (1, .int v1)] → W p l e (rmk 1) s m args below meth c H locs 0 0 (MQ below (QcI WN ad ca WS D A pzT q) args s 0 0 A) (F0 m 63 ls []) := by
  intro N
  induction N with
  | zero =>
    intro v1 mm h
    have h2 : (none : Option (Int32 × Mm)) = some q := h
    cases h2
  | succ N ih =>
    intro v1 mm h H locs ls hH hl
    exact wbX10_image_63 C ih h hH hl
set_option maxHeartbeats 2000000 in
set_option maxRecDepth 20000 in
theorem wbX10_image_23 (C : Cx D ca A p s m args meth c cX10_image RX10 2 (some .int)) {q : Int32 × Mm} {k23 : Int32 → Mm → Option (Int32 × Mm)} (hk23 : ∀ (v1 : Int32) (mm : Mm), k23 v1 mm = some q → ∀ (H : Heap) (locs : List Loc) (ls : Array Slot), Hx WN ad ca WS D A s.heap mm H locs → lv_has ls 2 [(0, .ref (ad 58)), (1, .int v1)] → W p l e (rmk 1) s m args below meth c H locs 0 0 (MQ below (QcI WN ad ca WS D A pzT q) args s 0 0 A) (F0 m 23 ls [])) {v1 : Int32} {mm : Mm} (h : BX10_image_23 k23 v1 mm = some q) (hH : Hx WN ad ca WS D A s.heap mm H locs) (hl : lv_has ls 2 [(0, .ref (ad 58)), (1, .int v1)]) : W p l e (rmk 1) s m args below meth c H locs 0 0 (MQ below (QcI WN ad ca WS D A pzT q) args s 0 0 A) (F0 m 23 ls []) := by
  unfold BX10_image_23 at h
  have hx := C.1
  have hb := C.2.1
  refine lv_iload_n hx hb dX10_image_23 rfl (lv_at hl 1 rfl) ?_
  refine lv_aload_n hx hb dX10_image_24 rfl (lv_at hl 0 rfl) ?_
  refine rgI C hH fi_RX10_100_58 dX10_image_25 ?_
  refine lv_icmp_ge (tgt := 61) hx hb dX10_image_28 (by decide) (fun hc28 => ?_) (fun hc28 => ?_)
  · replace h := tT hc28 h
    refine lv_iconst (v := 0) hx hb dX10_image_61 (by decide) ?_
    refine lv_istore_n (lv' := [(1, .int 0), (0, .ref (ad 58))]) hx hb dX10_image_62 rfl hl (by decide) rfl (fun ls hl => ?_)
    exact wX10_image_63 C FU _ _ h _ _ _ hH (lv_sub hl [1, 0] rfl)
  · replace h := tF hc28 h
    refine lv_aload_n hx hb dX10_image_31 rfl (lv_at hl 0 rfl) ?_
    refine rgS C hH fs_RX10_54_58 dX10_image_32 ?_
    refine lv_iload_n hx hb dX10_image_35 rfl (lv_at hl 1 rfl) ?_
    refine lv_aload_n hx hb dX10_image_36 rfl (lv_at hl 0 rfl) ?_
    refine rgS C hH fs_RX10_22_58 dX10_image_37 ?_
    refine lv_iload_n hx hb dX10_image_40 rfl (lv_at hl 1 rfl) ?_
    obtain ⟨hi41, h⟩ := tC h
    refine raI C hH (k := (Int32.toNatClampNeg v1)) (by decide) (show WS 63 = .inr (0, 10, 0) from rfl) hi41 rfl dX10_image_41 ?_
    obtain ⟨hi42, h⟩ := tC h
    refine rwI C hH (k := (Int32.toNatClampNeg v1)) (by decide) (show WS 73 = .inr (0, 10, 0) from rfl) hi42 rfl dX10_image_42 (fun H locs hH => ?_)
    refine lv_aload_n hx hb dX10_image_43 rfl (lv_at hl 0 rfl) ?_
    refine rgS C hH fs_RX10_57_58 dX10_image_44 ?_
    refine lv_iload_n hx hb dX10_image_47 rfl (lv_at hl 1 rfl) ?_
    refine lv_aload_n hx hb dX10_image_48 rfl (lv_at hl 0 rfl) ?_
    refine rgS C hH fs_RX10_25_58 dX10_image_49 ?_
    refine lv_iload_n hx hb dX10_image_52 rfl (lv_at hl 1 rfl) ?_
    obtain ⟨hi53, h⟩ := tC h
    refine raZ C hH (k := (Int32.toNatClampNeg v1)) (by decide) (show WS 64 = .inr (2, 10, 0) from rfl) hi53 rfl dX10_image_53 ?_
    obtain ⟨hi54, h⟩ := tC h
    refine rwZ C hH (k := (Int32.toNatClampNeg v1)) (by decide) (show WS 74 = .inr (2, 10, 0) from rfl) hi54 rfl dX10_image_54 (fun H locs hH => ?_)
    refine lv_iinc (v := (v1 + 1)) (lv' := [(1, .int (v1 + 1)), (0, .ref (ad 58))]) hx hb dX10_image_55 hl (k := 1) rfl rfl (by decide) rfl (fun ls hl => ?_)
    refine lv_goto (tgt := 23) hx hb dX10_image_58 (by decide) ?_
    exact hk23 _ _ h _ _ _ hH (lv_sub hl [1, 0] rfl)
set_option maxHeartbeats 2000000 in
set_option maxRecDepth 20000 in
theorem wX10_image_23 (C : Cx D ca A p s m args meth c cX10_image RX10 2 (some .int)) {q : Int32 × Mm} : ∀ (N : Nat) (v1 : Int32) (mm : Mm), DX10_image_23 N v1 mm = some q → ∀ (H : Heap) (locs : List Loc) (ls : Array Slot), Hx WN ad ca WS D A s.heap mm H locs → lv_has ls 2 [(0, .ref (ad 58)), (1, .int v1)] → W p l e (rmk 1) s m args below meth c H locs 0 0 (MQ below (QcI WN ad ca WS D A pzT q) args s 0 0 A) (F0 m 23 ls []) := by
  intro N
  induction N with
  | zero =>
    intro v1 mm h
    have h2 : (none : Option (Int32 × Mm)) = some q := h
    cases h2
  | succ N ih =>
    intro v1 mm h H locs ls hH hl
    exact wbX10_image_23 C ih h hH hl
set_option maxHeartbeats 2000000 in
set_option maxRecDepth 20000 in
theorem mX10_image (l : Launch) {D : va_G} {ca : Nat → ClassId} {A : Nat → Prop} {ad : Nat → Nat} {mm : Mm} {q : Int32 × Mm} (h : dX10_image mm = some q) : Met l yX10_image (wsOf yX10_image cX10_image 2 (some .int)) (rmk 1) (PcX WN ad ca WS D A [.ref (ad 58)] mm) (QcI WN ad ca WS D A pzT q) 0 0 A := by
  unfold dX10_image at h
  refine ent (by decide) (Nat.le_of_ble_eq_true rfl) (fun p e s m args below meth c hargs C hH ls hl => ?_)
  have hx := C.1
  have hb := C.2.1
  have hl : lv_has ls 2 [(0, .ref (ad 58))] := hl
  refine lv_aload_n hx hb dX10_image_0 rfl (lv_at hl 0 rfl) ?_
  refine lv_iconst (v := 1) hx hb dX10_image_1 (by decide) ?_
  refine rpI C hH fp_RX10_299_58 rfl rfl dX10_image_2 (fun H locs hH => ?_)
  refine lv_aload_n hx hb dX10_image_5 rfl (lv_at hl 0 rfl) ?_
  refine lv_aload_n hx hb dX10_image_6 rfl (lv_at hl 0 rfl) ?_
  refine rgI C hH fi_RX10_100_58 dX10_image_7 ?_
  refine rpI C hH fp_RX10_303_58 rfl rfl dX10_image_10 (fun H locs hH => ?_)
  refine lv_aload_n hx hb dX10_image_13 rfl (lv_at hl 0 rfl) ?_
  refine lv_aload_n hx hb dX10_image_14 rfl (lv_at hl 0 rfl) ?_
  refine rgI C hH fi_RX10_103_58 dX10_image_15 ?_
  refine rpI C hH fp_RX10_306_58 rfl rfl dX10_image_18 (fun H locs hH => ?_)
  refine lv_iconst (v := 0) hx hb dX10_image_21 (by decide) ?_
  refine lv_istore_n (lv' := [(1, .int 0), (0, .ref (ad 58))]) hx hb dX10_image_22 rfl hl (by decide) rfl (fun ls hl => ?_)
  exact wX10_image_23 C FU _ _ h _ _ _ hH (lv_sub hl [1, 0] rfl)
set_option maxHeartbeats 2000000 in
set_option maxRecDepth 20000 in
theorem wbX3_layBack_50 (C : Cx D ca A p s m args meth c cX3_layBack RX3 2 none) {q : Unit × Mm} {k50 : Int32 → Mm → Option (Unit × Mm)} (hk50 : ∀ (v1 : Int32) (mm : Mm), k50 v1 mm = some q → ∀ (H : Heap) (locs : List Loc) (ls : Array Slot), Hx WN ad ca WS D A s.heap mm H locs → lv_has ls 2 [(0, .ref (ad 23)), (1, .int v1)] → W p l e (rmk 3) s m args below meth c H locs 0 0 (MQ below (QcV WN ad ca WS D A q) args s 0 0 A) (F0 m 50 ls [])) {v1 : Int32} {mm : Mm} (h : BX3_layBack_50 k50 v1 mm = some q) (hH : Hx WN ad ca WS D A s.heap mm H locs) (hl : lv_has ls 2 [(0, .ref (ad 23)), (1, .int v1)]) : W p l e (rmk 3) s m args below meth c H locs 0 0 (MQ below (QcV WN ad ca WS D A q) args s 0 0 A) (F0 m 50 ls []) := by
  unfold BX3_layBack_50 at h
  have hx := C.1
  have hb := C.2.1
  refine lv_iload_n hx hb dX3_layBack_50 rfl (lv_at hl 1 rfl) ?_
  refine lv_aload_n hx hb dX3_layBack_51 rfl (lv_at hl 0 rfl) ?_
  refine rgI C hH fi_RX3_63_23 dX3_layBack_52 ?_
  refine lv_icmp_ge (tgt := 80) hx hb dX3_layBack_55 (by decide) (fun hc55 => ?_) (fun hc55 => ?_)
  · replace h := tT hc55 h
    refine lv_aload_n hx hb dX3_layBack_80 rfl (lv_at hl 0 rfl) ?_
    refine rgS C hH fs_RX3_15_23 dX3_layBack_81 ?_
    refine lv_iconst (v := 0) hx hb dX3_layBack_84 (by decide) ?_
    refine lv_aload_n hx hb dX3_layBack_85 rfl (lv_at hl 0 rfl) ?_
    refine rgS C hH fs_RX3_11_23 dX3_layBack_86 ?_
    refine lv_iconst (v := 0) hx hb dX3_layBack_89 (by decide) ?_
    refine lv_iconst (v := 5) hx hb dX3_layBack_90 (by decide) ?_
    refine rcpI C hH hl.1 cc_RX3_66 (by decide) (show WS 25 = .inr (0, 5, 0) from rfl) (by decide) (show WS 24 = .inr (0, 5, 0) from rfl) (by decide) (RR_of (by decide) (by decide)) (by first | decide | (simp only [rmk]; omega)) dX3_layBack_91 (fun H locs hH => ?_)
    have h := Option.some.inj h
    subst h
    exact retV C hH dX3_layBack_94
  · replace h := tF hc55 h
    refine lv_aload_n hx hb dX3_layBack_58 rfl (lv_at hl 0 rfl) ?_
    refine rgS C hH fs_RX3_27_23 dX3_layBack_59 ?_
    refine lv_bipush (v := 6) hx hb dX3_layBack_62 (by decide) ?_
    refine lv_iload_n hx hb dX3_layBack_64 rfl (lv_at hl 1 rfl) ?_
    refine lv_aload_n hx hb dX3_layBack_65 rfl (lv_at hl 0 rfl) ?_
    refine rgS C hH fs_RX3_24_23 dX3_layBack_66 ?_
    refine lv_iload_n hx hb dX3_layBack_69 rfl (lv_at hl 1 rfl) ?_
    obtain ⟨hi70, h⟩ := tC h
    refine raI C hH (k := (Int32.toNatClampNeg v1)) (by decide) (show WS 28 = .inr (0, 6, 0) from rfl) hi70 rfl dX3_layBack_70 ?_
    obtain ⟨q71, e71, h⟩ := tB h
    refine rcV C hH hl.1 (mX7_set l e71) cf_RX3_37 ro_1 (RR_of (by decide) (by decide)) rfl (rest := []) rfl (Nat.le_of_ble_eq_true rfl) dX3_layBack_71 ?_
    intro H locs hH
    refine lv_iinc (v := (v1 + 1)) (lv' := [(1, .int (v1 + 1)), (0, .ref (ad 23))]) hx hb dX3_layBack_74 hl (k := 1) rfl rfl (by decide) rfl (fun ls hl => ?_)
    refine lv_goto (tgt := 50) hx hb dX3_layBack_77 (by decide) ?_
    exact hk50 _ _ h _ _ _ hH (lv_sub hl [1, 0] rfl)
set_option maxHeartbeats 2000000 in
set_option maxRecDepth 20000 in
theorem wX3_layBack_50 (C : Cx D ca A p s m args meth c cX3_layBack RX3 2 none) {q : Unit × Mm} : ∀ (N : Nat) (v1 : Int32) (mm : Mm), DX3_layBack_50 N v1 mm = some q → ∀ (H : Heap) (locs : List Loc) (ls : Array Slot), Hx WN ad ca WS D A s.heap mm H locs → lv_has ls 2 [(0, .ref (ad 23)), (1, .int v1)] → W p l e (rmk 3) s m args below meth c H locs 0 0 (MQ below (QcV WN ad ca WS D A q) args s 0 0 A) (F0 m 50 ls []) := by
  intro N
  induction N with
  | zero =>
    intro v1 mm h
    have h2 : (none : Option (Unit × Mm)) = some q := h
    cases h2
  | succ N ih =>
    intro v1 mm h H locs ls hH hl
    exact wbX3_layBack_50 C ih h hH hl
set_option maxHeartbeats 2000000 in
set_option maxRecDepth 20000 in
theorem wbX3_layBack_2 (C : Cx D ca A p s m args meth c cX3_layBack RX3 2 none) {q : Unit × Mm} {k2 : Int32 → Mm → Option (Unit × Mm)} (hk2 : ∀ (v1 : Int32) (mm : Mm), k2 v1 mm = some q → ∀ (H : Heap) (locs : List Loc) (ls : Array Slot), Hx WN ad ca WS D A s.heap mm H locs → lv_has ls 2 [(0, .ref (ad 23)), (1, .int v1)] → W p l e (rmk 3) s m args below meth c H locs 0 0 (MQ below (QcV WN ad ca WS D A q) args s 0 0 A) (F0 m 2 ls [])) {v1 : Int32} {mm : Mm} (h : BX3_layBack_2 k2 v1 mm = some q) (hH : Hx WN ad ca WS D A s.heap mm H locs) (hl : lv_has ls 2 [(0, .ref (ad 23)), (1, .int v1)]) : W p l e (rmk 3) s m args below meth c H locs 0 0 (MQ below (QcV WN ad ca WS D A q) args s 0 0 A) (F0 m 2 ls []) := by
  unfold BX3_layBack_2 at h
  have hx := C.1
  have hb := C.2.1
  refine lv_iload_n hx hb dX3_layBack_2 rfl (lv_at hl 1 rfl) ?_
  refine lv_aload_n hx hb dX3_layBack_3 rfl (lv_at hl 0 rfl) ?_
  refine rgI C hH fi_RX3_57_23 dX3_layBack_4 ?_
  refine lv_icmp_ge (tgt := 48) hx hb dX3_layBack_7 (by decide) (fun hc7 => ?_) (fun hc7 => ?_)
  · replace h := tT hc7 h
    refine lv_iconst (v := 0) hx hb dX3_layBack_48 (by decide) ?_
    refine lv_istore_n (lv' := [(1, .int 0), (0, .ref (ad 23))]) hx hb dX3_layBack_49 rfl hl (by decide) rfl (fun ls hl => ?_)
    exact wX3_layBack_50 C FU _ _ h _ _ _ hH (lv_sub hl [1, 0] rfl)
  · replace h := tF hc7 h
    refine lv_aload_n hx hb dX3_layBack_10 rfl (lv_at hl 0 rfl) ?_
    refine rgS C hH fs_RX3_27_23 dX3_layBack_11 ?_
    refine lv_bipush (v := 9) hx hb dX3_layBack_14 (by decide) ?_
    refine lv_iload_n hx hb dX3_layBack_16 rfl (lv_at hl 1 rfl) ?_
    refine lv_aload_n hx hb dX3_layBack_17 rfl (lv_at hl 0 rfl) ?_
    refine rgS C hH fs_RX3_18_23 dX3_layBack_18 ?_
    refine lv_iload_n hx hb dX3_layBack_21 rfl (lv_at hl 1 rfl) ?_
    obtain ⟨hi22, h⟩ := tC h
    refine raI C hH (k := (Int32.toNatClampNeg v1)) (by decide) (show WS 26 = .inr (0, 10, 0) from rfl) hi22 rfl dX3_layBack_22 ?_
    obtain ⟨q23, e23, h⟩ := tB h
    refine rcV C hH hl.1 (mX7_set l e23) cf_RX3_37 ro_1 (RR_of (by decide) (by decide)) rfl (rest := []) rfl (Nat.le_of_ble_eq_true rfl) dX3_layBack_23 ?_
    intro H locs hH
    refine lv_aload_n hx hb dX3_layBack_26 rfl (lv_at hl 0 rfl) ?_
    refine rgS C hH fs_RX3_27_23 dX3_layBack_27 ?_
    refine lv_bipush (v := 10) hx hb dX3_layBack_30 (by decide) ?_
    refine lv_iload_n hx hb dX3_layBack_32 rfl (lv_at hl 1 rfl) ?_
    refine lv_aload_n hx hb dX3_layBack_33 rfl (lv_at hl 0 rfl) ?_
    refine rgS C hH fs_RX3_21_23 dX3_layBack_34 ?_
    refine lv_iload_n hx hb dX3_layBack_37 rfl (lv_at hl 1 rfl) ?_
    obtain ⟨hi38, h⟩ := tC h
    refine raI C hH (k := (Int32.toNatClampNeg v1)) (by decide) (show WS 27 = .inr (0, 10, 0) from rfl) hi38 rfl dX3_layBack_38 ?_
    obtain ⟨q39, e39, h⟩ := tB h
    refine rcV C hH hl.1 (mX7_set l e39) cf_RX3_37 ro_1 (RR_of (by decide) (by decide)) rfl (rest := []) rfl (Nat.le_of_ble_eq_true rfl) dX3_layBack_39 ?_
    intro H locs hH
    refine lv_iinc (v := (v1 + 1)) (lv' := [(1, .int (v1 + 1)), (0, .ref (ad 23))]) hx hb dX3_layBack_42 hl (k := 1) rfl rfl (by decide) rfl (fun ls hl => ?_)
    refine lv_goto (tgt := 2) hx hb dX3_layBack_45 (by decide) ?_
    exact hk2 _ _ h _ _ _ hH (lv_sub hl [1, 0] rfl)
set_option maxHeartbeats 2000000 in
set_option maxRecDepth 20000 in
theorem wX3_layBack_2 (C : Cx D ca A p s m args meth c cX3_layBack RX3 2 none) {q : Unit × Mm} : ∀ (N : Nat) (v1 : Int32) (mm : Mm), DX3_layBack_2 N v1 mm = some q → ∀ (H : Heap) (locs : List Loc) (ls : Array Slot), Hx WN ad ca WS D A s.heap mm H locs → lv_has ls 2 [(0, .ref (ad 23)), (1, .int v1)] → W p l e (rmk 3) s m args below meth c H locs 0 0 (MQ below (QcV WN ad ca WS D A q) args s 0 0 A) (F0 m 2 ls []) := by
  intro N
  induction N with
  | zero =>
    intro v1 mm h
    have h2 : (none : Option (Unit × Mm)) = some q := h
    cases h2
  | succ N ih =>
    intro v1 mm h H locs ls hH hl
    exact wbX3_layBack_2 C ih h hH hl
set_option maxHeartbeats 2000000 in
set_option maxRecDepth 20000 in
theorem mX3_layBack (l : Launch) {D : va_G} {ca : Nat → ClassId} {A : Nat → Prop} {ad : Nat → Nat} {mm : Mm} {q : Unit × Mm} (h : dX3_layBack mm = some q) : Met l yX3_layBack (wsOf yX3_layBack cX3_layBack 2 none) (rmk 3) (PcX WN ad ca WS D A [.ref (ad 23)] mm) (QcV WN ad ca WS D A q) 0 0 A := by
  unfold dX3_layBack at h
  refine ent (by decide) (Nat.le_of_ble_eq_true rfl) (fun p e s m args below meth c hargs C hH ls hl => ?_)
  have hx := C.1
  have hb := C.2.1
  have hl : lv_has ls 2 [(0, .ref (ad 23))] := hl
  refine lv_iconst (v := 0) hx hb dX3_layBack_0 (by decide) ?_
  refine lv_istore_n (lv' := [(1, .int 0), (0, .ref (ad 23))]) hx hb dX3_layBack_1 rfl hl (by decide) rfl (fun ls hl => ?_)
  exact wX3_layBack_2 C FU _ _ h _ _ _ hH (lv_sub hl [1, 0] rfl)
set_option maxHeartbeats 2000000 in
set_option maxRecDepth 20000 in
theorem mX9_back (l : Launch) {D : va_G} {ca : Nat → ClassId} {A : Nat → Prop} {ad : Nat → Nat} {mm : Mm} {q : Int32 × Mm} (h : dX9_back mm = some q) : Met l yX9_back (wsOf yX9_back cX9_back 1 (some .int)) (rmk 4) (PcX WN ad ca WS D A [.ref (ad 0)] mm) (QcI WN ad ca WS D A pzT q) 0 0 A := by
  unfold dX9_back at h
  refine ent (by decide) (Nat.le_of_ble_eq_true rfl) (fun p e s m args below meth c hargs C hH ls hl => ?_)
  have hx := C.1
  have hb := C.2.1
  have hl : lv_has ls 1 [(0, .ref (ad 0))] := hl
  refine lv_aload_n hx hb dX9_back_0 rfl (lv_at hl 0 rfl) ?_
  refine rgS C hH fs_RX9_42_0 dX9_back_1 ?_
  refine rgI C hH fi_RX9_263_23 dX9_back_4 ?_
  refine lv_if_ne (tgt := 13) hx hb dX9_back_7 (by decide) (fun hc7 => ?_) (fun hc7 => ?_)
  · replace h := tF hc7 h
    refine lv_aload_n hx hb dX9_back_13 rfl (lv_at hl 0 rfl) ?_
    refine rgS C hH fs_RX9_42_0 dX9_back_14 ?_
    obtain ⟨q17, e17, h⟩ := tB h
    refine rcV C hH hl.1 (mX3_layBack l e17) cf_RX9_267 ro_23 (RR_of (by decide) (by decide)) rfl (rest := []) rfl (Nat.le_of_ble_eq_true rfl) dX9_back_17 ?_
    intro H locs hH
    refine lv_aload_n hx hb dX9_back_20 rfl (lv_at hl 0 rfl) ?_
    refine rgS C hH fs_RX9_42_0 dX9_back_21 ?_
    refine lv_iconst (v := 0) hx hb dX9_back_24 (by decide) ?_
    obtain ⟨q25, e25, h⟩ := tB h
    refine rcI C hH hl.1 (mX3_line l e25) cf_RX9_257 ro_23 (RR_of (by decide) (by decide)) rfl (rest := []) rfl (Nat.le_of_ble_eq_true rfl) dX9_back_25 ?_
    intro hz25 H locs hH
    have h := Option.some.inj h
    subst h
    exact retI C hH trivial dX9_back_28
  · replace h := tT hc7 h
    refine lv_bipush (v := (-5)) hx hb dX9_back_10 (by decide) ?_
    have h := Option.some.inj h
    subst h
    exact retI C hH trivial dX9_back_12
set_option maxHeartbeats 2000000 in
set_option maxRecDepth 20000 in
theorem wbX10_back_83 (C : Cx D ca A p s m args meth c cX10_back RX10 2 (some .int)) {q : Int32 × Mm} {k83 : Int32 → Mm → Option (Int32 × Mm)} (hk83 : ∀ (v1 : Int32) (mm : Mm), k83 v1 mm = some q → ∀ (H : Heap) (locs : List Loc) (ls : Array Slot), Hx WN ad ca WS D A s.heap mm H locs → lv_has ls 2 [(0, .ref (ad 58)), (1, .int v1)] → W p l e (rmk 1) s m args below meth c H locs 0 0 (MQ below (QcI WN ad ca WS D A pzT q) args s 0 0 A) (F0 m 83 ls [])) {v1 : Int32} {mm : Mm} (h : BX10_back_83 k83 v1 mm = some q) (hH : Hx WN ad ca WS D A s.heap mm H locs) (hl : lv_has ls 2 [(0, .ref (ad 58)), (1, .int v1)]) : W p l e (rmk 1) s m args below meth c H locs 0 0 (MQ below (QcI WN ad ca WS D A pzT q) args s 0 0 A) (F0 m 83 ls []) := by
  unfold BX10_back_83 at h
  have hx := C.1
  have hb := C.2.1
  refine lv_iload_n hx hb dX10_back_83 rfl (lv_at hl 1 rfl) ?_
  refine lv_iconst (v := 5) hx hb dX10_back_84 (by decide) ?_
  refine lv_icmp_ge (tgt := 106) hx hb dX10_back_85 (by decide) (fun hc85 => ?_) (fun hc85 => ?_)
  · replace h := tT hc85 h
    refine lv_aload_n hx hb dX10_back_106 rfl (lv_at hl 0 rfl) ?_
    refine rgS C hH fs_RX10_51_58 dX10_back_107 ?_
    refine lv_iconst (v := 0) hx hb dX10_back_110 (by decide) ?_
    refine raI C hH (k := 0) (by decide) (show WS 72 = .inr (0, 5, 0) from rfl) (show inB 0 5 from by decide) (by decide) dX10_back_111 ?_
    have h := Option.some.inj h
    subst h
    exact retI C hH trivial dX10_back_112
  · replace h := tF hc85 h
    refine lv_aload_n hx hb dX10_back_88 rfl (lv_at hl 0 rfl) ?_
    refine rgS C hH fs_RX10_51_58 dX10_back_89 ?_
    refine lv_iload_n hx hb dX10_back_92 rfl (lv_at hl 1 rfl) ?_
    refine lv_aload_n hx hb dX10_back_93 rfl (lv_at hl 0 rfl) ?_
    refine rgS C hH fs_RX10_63_58 dX10_back_94 ?_
    refine lv_iload_n hx hb dX10_back_97 rfl (lv_at hl 1 rfl) ?_
    obtain ⟨hi98, h⟩ := tC h
    refine raI C hH (k := (Int32.toNatClampNeg v1)) (by decide) (show WS 76 = .inr (0, 5, 0) from rfl) hi98 rfl dX10_back_98 ?_
    obtain ⟨hi99, h⟩ := tC h
    refine rwI C hH (k := (Int32.toNatClampNeg v1)) (by decide) (show WS 72 = .inr (0, 5, 0) from rfl) hi99 rfl dX10_back_99 (fun H locs hH => ?_)
    refine lv_iinc (v := (v1 + 1)) (lv' := [(1, .int (v1 + 1)), (0, .ref (ad 58))]) hx hb dX10_back_100 hl (k := 1) rfl rfl (by decide) rfl (fun ls hl => ?_)
    refine lv_goto (tgt := 83) hx hb dX10_back_103 (by decide) ?_
    exact hk83 _ _ h _ _ _ hH (lv_sub hl [1, 0] rfl)
set_option maxHeartbeats 2000000 in
set_option maxRecDepth 20000 in
theorem wX10_back_83 (C : Cx D ca A p s m args meth c cX10_back RX10 2 (some .int)) {q : Int32 × Mm} : ∀ (N : Nat) (v1 : Int32) (mm : Mm), DX10_back_83 N v1 mm = some q → ∀ (H : Heap) (locs : List Loc) (ls : Array Slot), Hx WN ad ca WS D A s.heap mm H locs → lv_has ls 2 [(0, .ref (ad 58)), (1, .int v1)] → W p l e (rmk 1) s m args below meth c H locs 0 0 (MQ below (QcI WN ad ca WS D A pzT q) args s 0 0 A) (F0 m 83 ls []) := by
  intro N
  induction N with
  | zero =>
    intro v1 mm h
    have h2 : (none : Option (Int32 × Mm)) = some q := h
    cases h2
  | succ N ih =>
    intro v1 mm h H locs ls hH hl
    exact wbX10_back_83 C ih h hH hl
set_option maxHeartbeats 2000000 in
set_option maxRecDepth 20000 in
theorem wbX10_back_52 (C : Cx D ca A p s m args meth c cX10_back RX10 2 (some .int)) {q : Int32 × Mm} {k52 : Int32 → Mm → Option (Int32 × Mm)} (hk52 : ∀ (v1 : Int32) (mm : Mm), k52 v1 mm = some q → ∀ (H : Heap) (locs : List Loc) (ls : Array Slot), Hx WN ad ca WS D A s.heap mm H locs → lv_has ls 2 [(0, .ref (ad 58)), (1, .int v1)] → W p l e (rmk 1) s m args below meth c H locs 0 0 (MQ below (QcI WN ad ca WS D A pzT q) args s 0 0 A) (F0 m 52 ls [])) {v1 : Int32} {mm : Mm} (h : BX10_back_52 k52 v1 mm = some q) (hH : Hx WN ad ca WS D A s.heap mm H locs) (hl : lv_has ls 2 [(0, .ref (ad 58)), (1, .int v1)]) : W p l e (rmk 1) s m args below meth c H locs 0 0 (MQ below (QcI WN ad ca WS D A pzT q) args s 0 0 A) (F0 m 52 ls []) := by
  unfold BX10_back_52 at h
  have hx := C.1
  have hb := C.2.1
  refine lv_iload_n hx hb dX10_back_52 rfl (lv_at hl 1 rfl) ?_
  refine lv_aload_n hx hb dX10_back_53 rfl (lv_at hl 0 rfl) ?_
  refine rgI C hH fi_RX10_306_58 dX10_back_54 ?_
  refine lv_icmp_ge (tgt := 81) hx hb dX10_back_57 (by decide) (fun hc57 => ?_) (fun hc57 => ?_)
  · replace h := tT hc57 h
    refine lv_iconst (v := 0) hx hb dX10_back_81 (by decide) ?_
    refine lv_istore_n (lv' := [(1, .int 0), (0, .ref (ad 58))]) hx hb dX10_back_82 rfl hl (by decide) rfl (fun ls hl => ?_)
    exact wX10_back_83 C FU _ _ h _ _ _ hH (lv_sub hl [1, 0] rfl)
  · replace h := tF hc57 h
    refine lv_aload_n hx hb dX10_back_60 rfl (lv_at hl 0 rfl) ?_
    refine rgS C hH fs_RX10_9_58 dX10_back_61 ?_
    refine lv_bipush (v := 44) hx hb dX10_back_64 (by decide) ?_
    refine lv_iload_n hx hb dX10_back_66 rfl (lv_at hl 1 rfl) ?_
    refine lv_iadd hx hb dX10_back_67 ?_
    refine lv_aload_n hx hb dX10_back_68 rfl (lv_at hl 0 rfl) ?_
    refine rgS C hH fs_RX10_60_58 dX10_back_69 ?_
    refine lv_iload_n hx hb dX10_back_72 rfl (lv_at hl 1 rfl) ?_
    obtain ⟨hi73, h⟩ := tC h
    refine raI C hH (k := (Int32.toNatClampNeg v1)) (by decide) (show WS 75 = .inr (0, 6, 0) from rfl) hi73 rfl dX10_back_73 ?_
    obtain ⟨hi74, h⟩ := tC h
    refine rwI C hH (k := (Int32.toNatClampNeg (44 + v1))) (by decide) (show WS 59 = .inr (0, 62, 0) from rfl) hi74 rfl dX10_back_74 (fun H locs hH => ?_)
    refine lv_iinc (v := (v1 + 1)) (lv' := [(1, .int (v1 + 1)), (0, .ref (ad 58))]) hx hb dX10_back_75 hl (k := 1) rfl rfl (by decide) rfl (fun ls hl => ?_)
    refine lv_goto (tgt := 52) hx hb dX10_back_78 (by decide) ?_
    exact hk52 _ _ h _ _ _ hH (lv_sub hl [1, 0] rfl)
set_option maxHeartbeats 2000000 in
set_option maxRecDepth 20000 in
theorem wX10_back_52 (C : Cx D ca A p s m args meth c cX10_back RX10 2 (some .int)) {q : Int32 × Mm} : ∀ (N : Nat) (v1 : Int32) (mm : Mm), DX10_back_52 N v1 mm = some q → ∀ (H : Heap) (locs : List Loc) (ls : Array Slot), Hx WN ad ca WS D A s.heap mm H locs → lv_has ls 2 [(0, .ref (ad 58)), (1, .int v1)] → W p l e (rmk 1) s m args below meth c H locs 0 0 (MQ below (QcI WN ad ca WS D A pzT q) args s 0 0 A) (F0 m 52 ls []) := by
  intro N
  induction N with
  | zero =>
    intro v1 mm h
    have h2 : (none : Option (Int32 × Mm)) = some q := h
    cases h2
  | succ N ih =>
    intro v1 mm h H locs ls hH hl
    exact wbX10_back_52 C ih h hH hl
set_option maxHeartbeats 2000000 in
set_option maxRecDepth 20000 in
theorem wbX10_back_12 (C : Cx D ca A p s m args meth c cX10_back RX10 2 (some .int)) {q : Int32 × Mm} {k12 : Int32 → Mm → Option (Int32 × Mm)} (hk12 : ∀ (v1 : Int32) (mm : Mm), k12 v1 mm = some q → ∀ (H : Heap) (locs : List Loc) (ls : Array Slot), Hx WN ad ca WS D A s.heap mm H locs → lv_has ls 2 [(0, .ref (ad 58)), (1, .int v1)] → W p l e (rmk 1) s m args below meth c H locs 0 0 (MQ below (QcI WN ad ca WS D A pzT q) args s 0 0 A) (F0 m 12 ls [])) {v1 : Int32} {mm : Mm} (h : BX10_back_12 k12 v1 mm = some q) (hH : Hx WN ad ca WS D A s.heap mm H locs) (hl : lv_has ls 2 [(0, .ref (ad 58)), (1, .int v1)]) : W p l e (rmk 1) s m args below meth c H locs 0 0 (MQ below (QcI WN ad ca WS D A pzT q) args s 0 0 A) (F0 m 12 ls []) := by
  unfold BX10_back_12 at h
  have hx := C.1
  have hb := C.2.1
  refine lv_iload_n hx hb dX10_back_12 rfl (lv_at hl 1 rfl) ?_
  refine lv_aload_n hx hb dX10_back_13 rfl (lv_at hl 0 rfl) ?_
  refine rgI C hH fi_RX10_303_58 dX10_back_14 ?_
  refine lv_icmp_ge (tgt := 50) hx hb dX10_back_17 (by decide) (fun hc17 => ?_) (fun hc17 => ?_)
  · replace h := tT hc17 h
    refine lv_iconst (v := 0) hx hb dX10_back_50 (by decide) ?_
    refine lv_istore_n (lv' := [(1, .int 0), (0, .ref (ad 58))]) hx hb dX10_back_51 rfl hl (by decide) rfl (fun ls hl => ?_)
    exact wX10_back_52 C FU _ _ h _ _ _ hH (lv_sub hl [1, 0] rfl)
  · replace h := tF hc17 h
    refine lv_aload_n hx hb dX10_back_20 rfl (lv_at hl 0 rfl) ?_
    refine rgS C hH fs_RX10_22_58 dX10_back_21 ?_
    refine lv_iload_n hx hb dX10_back_24 rfl (lv_at hl 1 rfl) ?_
    refine lv_aload_n hx hb dX10_back_25 rfl (lv_at hl 0 rfl) ?_
    refine rgS C hH fs_RX10_54_58 dX10_back_26 ?_
    refine lv_iload_n hx hb dX10_back_29 rfl (lv_at hl 1 rfl) ?_
    obtain ⟨hi30, h⟩ := tC h
    refine raI C hH (k := (Int32.toNatClampNeg v1)) (by decide) (show WS 73 = .inr (0, 10, 0) from rfl) hi30 rfl dX10_back_30 ?_
    obtain ⟨hi31, h⟩ := tC h
    refine rwI C hH (k := (Int32.toNatClampNeg v1)) (by decide) (show WS 63 = .inr (0, 10, 0) from rfl) hi31 rfl dX10_back_31 (fun H locs hH => ?_)
    refine lv_aload_n hx hb dX10_back_32 rfl (lv_at hl 0 rfl) ?_
    refine rgS C hH fs_RX10_25_58 dX10_back_33 ?_
    refine lv_iload_n hx hb dX10_back_36 rfl (lv_at hl 1 rfl) ?_
    refine lv_aload_n hx hb dX10_back_37 rfl (lv_at hl 0 rfl) ?_
    refine rgS C hH fs_RX10_57_58 dX10_back_38 ?_
    refine lv_iload_n hx hb dX10_back_41 rfl (lv_at hl 1 rfl) ?_
    obtain ⟨hi42, h⟩ := tC h
    refine raZ C hH (k := (Int32.toNatClampNeg v1)) (by decide) (show WS 74 = .inr (2, 10, 0) from rfl) hi42 rfl dX10_back_42 ?_
    obtain ⟨hi43, h⟩ := tC h
    refine rwZ C hH (k := (Int32.toNatClampNeg v1)) (by decide) (show WS 64 = .inr (2, 10, 0) from rfl) hi43 rfl dX10_back_43 (fun H locs hH => ?_)
    refine lv_iinc (v := (v1 + 1)) (lv' := [(1, .int (v1 + 1)), (0, .ref (ad 58))]) hx hb dX10_back_44 hl (k := 1) rfl rfl (by decide) rfl (fun ls hl => ?_)
    refine lv_goto (tgt := 12) hx hb dX10_back_47 (by decide) ?_
    exact hk12 _ _ h _ _ _ hH (lv_sub hl [1, 0] rfl)
set_option maxHeartbeats 2000000 in
set_option maxRecDepth 20000 in
theorem wX10_back_12 (C : Cx D ca A p s m args meth c cX10_back RX10 2 (some .int)) {q : Int32 × Mm} : ∀ (N : Nat) (v1 : Int32) (mm : Mm), DX10_back_12 N v1 mm = some q → ∀ (H : Heap) (locs : List Loc) (ls : Array Slot), Hx WN ad ca WS D A s.heap mm H locs → lv_has ls 2 [(0, .ref (ad 58)), (1, .int v1)] → W p l e (rmk 1) s m args below meth c H locs 0 0 (MQ below (QcI WN ad ca WS D A pzT q) args s 0 0 A) (F0 m 12 ls []) := by
  intro N
  induction N with
  | zero =>
    intro v1 mm h
    have h2 : (none : Option (Int32 × Mm)) = some q := h
    cases h2
  | succ N ih =>
    intro v1 mm h H locs ls hH hl
    exact wbX10_back_12 C ih h hH hl
set_option maxHeartbeats 2000000 in
set_option maxRecDepth 20000 in
theorem mX10_back (l : Launch) {D : va_G} {ca : Nat → ClassId} {A : Nat → Prop} {ad : Nat → Nat} {mm : Mm} {q : Int32 × Mm} (h : dX10_back mm = some q) : Met l yX10_back (wsOf yX10_back cX10_back 2 (some .int)) (rmk 1) (PcX WN ad ca WS D A [.ref (ad 58)] mm) (QcI WN ad ca WS D A pzT q) 0 0 A := by
  unfold dX10_back at h
  refine ent (by decide) (Nat.le_of_ble_eq_true rfl) (fun p e s m args below meth c hargs C hH ls hl => ?_)
  have hx := C.1
  have hb := C.2.1
  have hl : lv_has ls 2 [(0, .ref (ad 58))] := hl
  refine lv_aload_n hx hb dX10_back_0 rfl (lv_at hl 0 rfl) ?_
  refine rgI C hH fi_RX10_299_58 dX10_back_1 ?_
  refine lv_if_ne (tgt := 10) hx hb dX10_back_4 (by decide) (fun hc4 => ?_) (fun hc4 => ?_)
  · replace h := tF hc4 h
    refine lv_iconst (v := 0) hx hb dX10_back_10 (by decide) ?_
    refine lv_istore_n (lv' := [(1, .int 0), (0, .ref (ad 58))]) hx hb dX10_back_11 rfl hl (by decide) rfl (fun ls hl => ?_)
    exact wX10_back_12 C FU _ _ h _ _ _ hH (lv_sub hl [1, 0] rfl)
  · replace h := tT hc4 h
    refine lv_bipush (v := (-5)) hx hb dX10_back_7 (by decide) ?_
    have h := Option.some.inj h
    subst h
    exact retI C hH trivial dX10_back_9
set_option maxHeartbeats 2000000 in
set_option maxRecDepth 20000 in
theorem mX1_takeBack (l : Launch) {D : va_G} {ca : Nat → ClassId} {A : Nat → Prop} {ad : Nat → Nat} {mm : Mm} {q : Int32 × Mm} (h : dX1_takeBack mm = some q) : Met l yX1_takeBack (wsOf yX1_takeBack cX1_takeBack 2 (some .boolean)) (rmk 3) (PcX WN ad ca WS D A [.ref (ad 29), .ref (ad 1)] mm) (QcI WN ad ca WS D A pzZ q) 0 0 A := by
  unfold dX1_takeBack at h
  refine ent (by decide) (Nat.le_of_ble_eq_true rfl) (fun p e s m args below meth c hargs C hH ls hl => ?_)
  have hx := C.1
  have hb := C.2.1
  have hl : lv_has ls 2 [(0, .ref (ad 29)), (1, .ref (ad 1))] := hl
  refine lv_aload_n hx hb dX1_takeBack_0 rfl (lv_at hl 0 rfl) ?_
  refine rgI C hH fi_RX1_22_29 dX1_takeBack_1 ?_
  refine lv_if_gt (tgt := 9) hx hb dX1_takeBack_4 (by decide) (fun hc4 => ?_) (fun hc4 => ?_)
  · replace h := tT hc4 h
    refine lv_aload_n hx hb dX1_takeBack_9 rfl (lv_at hl 0 rfl) ?_
    refine lv_dup hx hb dX1_takeBack_10 rfl ?_
    refine rgI C hH fi_RX1_22_29 dX1_takeBack_11 ?_
    refine lv_iconst (v := 1) hx hb dX1_takeBack_14 (by decide) ?_
    refine lv_isub hx hb dX1_takeBack_15 ?_
    refine rpI C hH fp_RX1_22_29 rfl rfl dX1_takeBack_16 (fun H locs hH => ?_)
    refine lv_aload_n hx hb dX1_takeBack_19 rfl (lv_at hl 1 rfl) ?_
    refine lv_aload_n hx hb dX1_takeBack_20 rfl (lv_at hl 0 rfl) ?_
    refine rgS C hH fs_RX1_9_29 dX1_takeBack_21 ?_
    refine lv_aload_n hx hb dX1_takeBack_24 rfl (lv_at hl 0 rfl) ?_
    refine rgI C hH fi_RX1_22_29 dX1_takeBack_25 ?_
    obtain ⟨hi28, h⟩ := tC h
    refine raI C hH (k := (Int32.toNatClampNeg (gI (sI mm 29 4 ((gI mm 29 4) - 1)) 29 4))) (by decide) (show WS 30 = .inr (0, 40, 0) from rfl) hi28 rfl dX1_takeBack_28 ?_
    refine lv_aload_n hx hb dX1_takeBack_29 rfl (lv_at hl 0 rfl) ?_
    refine rgS C hH fs_RX1_13_29 dX1_takeBack_30 ?_
    refine lv_aload_n hx hb dX1_takeBack_33 rfl (lv_at hl 0 rfl) ?_
    refine rgI C hH fi_RX1_22_29 dX1_takeBack_34 ?_
    obtain ⟨hi37, h⟩ := tC h
    refine raI C hH (k := (Int32.toNatClampNeg (gI (sI mm 29 4 ((gI mm 29 4) - 1)) 29 4))) (by decide) (show WS 31 = .inr (0, 40, 0) from rfl) hi37 rfl dX1_takeBack_37 ?_
    refine lv_aload_n hx hb dX1_takeBack_38 rfl (lv_at hl 0 rfl) ?_
    refine rgS C hH fs_RX1_16_29 dX1_takeBack_39 ?_
    refine lv_aload_n hx hb dX1_takeBack_42 rfl (lv_at hl 0 rfl) ?_
    refine rgI C hH fi_RX1_22_29 dX1_takeBack_43 ?_
    obtain ⟨hi46, h⟩ := tC h
    refine raI C hH (k := (Int32.toNatClampNeg (gI (sI mm 29 4 ((gI mm 29 4) - 1)) 29 4))) (by decide) (show WS 32 = .inr (0, 40, 0) from rfl) hi46 rfl dX1_takeBack_46 ?_
    obtain ⟨q47, e47, h⟩ := tB h
    refine rcV C hH hl.1 (mX7_set l e47) cf_RX1_38 ro_1 (RR_of (by decide) (by decide)) rfl (rest := []) rfl (Nat.le_of_ble_eq_true rfl) dX1_takeBack_47 ?_
    intro H locs hH
    refine lv_iconst (v := 1) hx hb dX1_takeBack_50 (by decide) ?_
    have h := Option.some.inj h
    subst h
    exact retZ C hH (Or.inr rfl) dX1_takeBack_51
  · replace h := tF hc4 h
    refine lv_iconst (v := 0) hx hb dX1_takeBack_7 (by decide) ?_
    have h := Option.some.inj h
    subst h
    exact retZ C hH (Or.inl rfl) dX1_takeBack_8
set_option maxHeartbeats 2000000 in
set_option maxRecDepth 20000 in
theorem mX9_undo (l : Launch) {D : va_G} {ca : Nat → ClassId} {A : Nat → Prop} {ad : Nat → Nat} {mm : Mm} {q : Int32 × Mm} (h : dX9_undo mm = some q) : Met l yX9_undo (wsOf yX9_undo cX9_undo 1 (some .int)) (rmk 4) (PcX WN ad ca WS D A [.ref (ad 0)] mm) (QcI WN ad ca WS D A pzT q) 0 0 A := by
  unfold dX9_undo at h
  refine ent (by decide) (Nat.le_of_ble_eq_true rfl) (fun p e s m args below meth c hargs C hH ls hl => ?_)
  have hx := C.1
  have hb := C.2.1
  have hl : lv_has ls 1 [(0, .ref (ad 0))] := hl
  refine lv_aload_n hx hb dX9_undo_0 rfl (lv_at hl 0 rfl) ?_
  refine rgS C hH fs_RX9_49_0 dX9_undo_1 ?_
  refine lv_aload_n hx hb dX9_undo_4 rfl (lv_at hl 0 rfl) ?_
  refine rgS C hH fs_RX9_10_0 dX9_undo_5 ?_
  obtain ⟨q8, e8, h⟩ := tB h
  refine rcI C hH hl.1 (mX1_takeBack l e8) cf_RX9_270 ro_29 (RR_of (by decide) (by decide)) rfl (rest := []) rfl (Nat.le_of_ble_eq_true rfl) dX9_undo_8 ?_
  intro hz8 H locs hH
  refine lv_if_eq (tgt := 24) hx hb dX9_undo_11 (by decide) (fun hc11 => ?_) (fun hc11 => ?_)
  · replace h := tT hc11 h
    refine lv_bipush (v := (-5)) hx hb dX9_undo_24 (by decide) ?_
    have h := Option.some.inj h
    subst h
    exact retI C hH trivial dX9_undo_26
  · replace h := tF hc11 h
    refine lv_aload_n hx hb dX9_undo_14 rfl (lv_at hl 0 rfl) ?_
    refine rgS C hH fs_RX9_49_0 dX9_undo_15 ?_
    refine rgI C hH fi_RX9_274_29 dX9_undo_18 ?_
    refine lv_goto (tgt := 26) hx hb dX9_undo_21 (by decide) ?_
    have h := Option.some.inj h
    subst h
    exact retI C hH trivial dX9_undo_26
set_option maxHeartbeats 2000000 in
set_option maxRecDepth 20000 in
theorem mX10_undo (l : Launch) {D : va_G} {ca : Nat → ClassId} {A : Nat → Prop} {ad : Nat → Nat} {mm : Mm} {q : Int32 × Mm} (h : dX10_undo mm = some q) : Met l yX10_undo (wsOf yX10_undo cX10_undo 1 (some .int)) (rmk 1) (PcX WN ad ca WS D A [.ref (ad 58)] mm) (QcI WN ad ca WS D A pzT q) 0 0 A := by
  unfold dX10_undo at h
  refine ent (by decide) (Nat.le_of_ble_eq_true rfl) (fun p e s m args below meth c hargs C hH ls hl => ?_)
  have hx := C.1
  have hb := C.2.1
  have hl : lv_has ls 1 [(0, .ref (ad 58))] := hl
  refine lv_aload_n hx hb dX10_undo_0 rfl (lv_at hl 0 rfl) ?_
  refine rgI C hH fi_RX10_88_58 dX10_undo_1 ?_
  refine lv_if_ne (tgt := 10) hx hb dX10_undo_4 (by decide) (fun hc4 => ?_) (fun hc4 => ?_)
  · replace h := tF hc4 h
    refine lv_aload_n hx hb dX10_undo_10 rfl (lv_at hl 0 rfl) ?_
    refine lv_dup hx hb dX10_undo_11 rfl ?_
    refine rgI C hH fi_RX10_88_58 dX10_undo_12 ?_
    refine lv_iconst (v := 1) hx hb dX10_undo_15 (by decide) ?_
    refine lv_isub hx hb dX10_undo_16 ?_
    refine rpI C hH fp_RX10_88_58 rfl rfl dX10_undo_17 (fun H locs hH => ?_)
    refine lv_aload_n hx hb dX10_undo_20 rfl (lv_at hl 0 rfl) ?_
    refine rgS C hH fs_RX10_9_58 dX10_undo_21 ?_
    refine lv_aload_n hx hb dX10_undo_24 rfl (lv_at hl 0 rfl) ?_
    refine rgS C hH fs_RX10_13_58 dX10_undo_25 ?_
    refine lv_aload_n hx hb dX10_undo_28 rfl (lv_at hl 0 rfl) ?_
    refine rgI C hH fi_RX10_88_58 dX10_undo_29 ?_
    obtain ⟨hi32, h⟩ := tC h
    refine raI C hH (k := (Int32.toNatClampNeg (gI (sI mm 58 5 ((gI mm 58 5) - 1)) 58 5))) (by decide) (show WS 60 = .inr (0, 40, 0) from rfl) hi32 rfl dX10_undo_32 ?_
    refine lv_aload_n hx hb dX10_undo_33 rfl (lv_at hl 0 rfl) ?_
    refine rgS C hH fs_RX10_16_58 dX10_undo_34 ?_
    refine lv_aload_n hx hb dX10_undo_37 rfl (lv_at hl 0 rfl) ?_
    refine rgI C hH fi_RX10_88_58 dX10_undo_38 ?_
    obtain ⟨hi41, h⟩ := tC h
    refine raI C hH (k := (Int32.toNatClampNeg (gI (sI mm 58 5 ((gI mm 58 5) - 1)) 58 5))) (by decide) (show WS 61 = .inr (0, 40, 0) from rfl) hi41 rfl dX10_undo_41 ?_
    obtain ⟨hi42, h⟩ := tC h
    refine rwI C hH (k := (Int32.toNatClampNeg (gI (sI mm 58 5 ((gI mm 58 5) - 1)) 60 (Int32.toNatClampNeg (gI (sI mm 58 5 ((gI mm 58 5) - 1)) 58 5))))) (by decide) (show WS 59 = .inr (0, 62, 0) from rfl) hi42 rfl dX10_undo_42 (fun H locs hH => ?_)
    refine lv_aload_n hx hb dX10_undo_43 rfl (lv_at hl 0 rfl) ?_
    refine rgI C hH fi_RX10_88_58 dX10_undo_44 ?_
    have h := Option.some.inj h
    subst h
    exact retI C hH trivial dX10_undo_47
  · replace h := tT hc4 h
    refine lv_bipush (v := (-5)) hx hb dX10_undo_7 (by decide) ?_
    have h := Option.some.inj h
    subst h
    exact retI C hH trivial dX10_undo_9
set_option maxHeartbeats 2000000 in
set_option maxRecDepth 20000 in
theorem mX1_bringBack (l : Launch) {D : va_G} {ca : Nat → ClassId} {A : Nat → Prop} {ad : Nat → Nat} {mm : Mm} {q : Int32 × Mm} (h : dX1_bringBack mm = some q) : Met l yX1_bringBack (wsOf yX1_bringBack cX1_bringBack 2 (some .boolean)) (rmk 3) (PcX WN ad ca WS D A [.ref (ad 29), .ref (ad 1)] mm) (QcI WN ad ca WS D A pzZ q) 0 0 A := by
  unfold dX1_bringBack at h
  refine ent (by decide) (Nat.le_of_ble_eq_true rfl) (fun p e s m args below meth c hargs C hH ls hl => ?_)
  have hx := C.1
  have hb := C.2.1
  have hl : lv_has ls 2 [(0, .ref (ad 29)), (1, .ref (ad 1))] := hl
  refine lv_aload_n hx hb dX1_bringBack_0 rfl (lv_at hl 0 rfl) ?_
  refine rgI C hH fi_RX1_22_29 dX1_bringBack_1 ?_
  refine lv_aload_n hx hb dX1_bringBack_4 rfl (lv_at hl 0 rfl) ?_
  refine rgI C hH fi_RX1_29_29 dX1_bringBack_5 ?_
  refine lv_icmp_lt (tgt := 13) hx hb dX1_bringBack_8 (by decide) (fun hc8 => ?_) (fun hc8 => ?_)
  · replace h := tT hc8 h
    refine lv_aload_n hx hb dX1_bringBack_13 rfl (lv_at hl 1 rfl) ?_
    refine lv_aload_n hx hb dX1_bringBack_14 rfl (lv_at hl 0 rfl) ?_
    refine rgS C hH fs_RX1_9_29 dX1_bringBack_15 ?_
    refine lv_aload_n hx hb dX1_bringBack_18 rfl (lv_at hl 0 rfl) ?_
    refine rgI C hH fi_RX1_22_29 dX1_bringBack_19 ?_
    obtain ⟨hi22, h⟩ := tC h
    refine raI C hH (k := (Int32.toNatClampNeg (gI mm 29 4))) (by decide) (show WS 30 = .inr (0, 40, 0) from rfl) hi22 rfl dX1_bringBack_22 ?_
    refine lv_aload_n hx hb dX1_bringBack_23 rfl (lv_at hl 0 rfl) ?_
    refine rgS C hH fs_RX1_13_29 dX1_bringBack_24 ?_
    refine lv_aload_n hx hb dX1_bringBack_27 rfl (lv_at hl 0 rfl) ?_
    refine rgI C hH fi_RX1_22_29 dX1_bringBack_28 ?_
    obtain ⟨hi31, h⟩ := tC h
    refine raI C hH (k := (Int32.toNatClampNeg (gI mm 29 4))) (by decide) (show WS 31 = .inr (0, 40, 0) from rfl) hi31 rfl dX1_bringBack_31 ?_
    refine lv_aload_n hx hb dX1_bringBack_32 rfl (lv_at hl 0 rfl) ?_
    refine rgS C hH fs_RX1_19_29 dX1_bringBack_33 ?_
    refine lv_aload_n hx hb dX1_bringBack_36 rfl (lv_at hl 0 rfl) ?_
    refine rgI C hH fi_RX1_22_29 dX1_bringBack_37 ?_
    obtain ⟨hi40, h⟩ := tC h
    refine raI C hH (k := (Int32.toNatClampNeg (gI mm 29 4))) (by decide) (show WS 33 = .inr (0, 40, 0) from rfl) hi40 rfl dX1_bringBack_40 ?_
    obtain ⟨q41, e41, h⟩ := tB h
    refine rcV C hH hl.1 (mX7_set l e41) cf_RX1_38 ro_1 (RR_of (by decide) (by decide)) rfl (rest := []) rfl (Nat.le_of_ble_eq_true rfl) dX1_bringBack_41 ?_
    intro H locs hH
    refine lv_aload_n hx hb dX1_bringBack_44 rfl (lv_at hl 0 rfl) ?_
    refine lv_dup hx hb dX1_bringBack_45 rfl ?_
    refine rgI C hH fi_RX1_22_29 dX1_bringBack_46 ?_
    refine lv_iconst (v := 1) hx hb dX1_bringBack_49 (by decide) ?_
    refine lv_iadd hx hb dX1_bringBack_50 ?_
    refine rpI C hH fp_RX1_22_29 rfl rfl dX1_bringBack_51 (fun H locs hH => ?_)
    refine lv_iconst (v := 1) hx hb dX1_bringBack_54 (by decide) ?_
    have h := Option.some.inj h
    subst h
    exact retZ C hH (Or.inr rfl) dX1_bringBack_55
  · replace h := tF hc8 h
    refine lv_iconst (v := 0) hx hb dX1_bringBack_11 (by decide) ?_
    have h := Option.some.inj h
    subst h
    exact retZ C hH (Or.inl rfl) dX1_bringBack_12
set_option maxHeartbeats 2000000 in
set_option maxRecDepth 20000 in
theorem mX9_redo (l : Launch) {D : va_G} {ca : Nat → ClassId} {A : Nat → Prop} {ad : Nat → Nat} {mm : Mm} {q : Int32 × Mm} (h : dX9_redo mm = some q) : Met l yX9_redo (wsOf yX9_redo cX9_redo 1 (some .int)) (rmk 4) (PcX WN ad ca WS D A [.ref (ad 0)] mm) (QcI WN ad ca WS D A pzT q) 0 0 A := by
  unfold dX9_redo at h
  refine ent (by decide) (Nat.le_of_ble_eq_true rfl) (fun p e s m args below meth c hargs C hH ls hl => ?_)
  have hx := C.1
  have hb := C.2.1
  have hl : lv_has ls 1 [(0, .ref (ad 0))] := hl
  refine lv_aload_n hx hb dX9_redo_0 rfl (lv_at hl 0 rfl) ?_
  refine rgS C hH fs_RX9_49_0 dX9_redo_1 ?_
  refine lv_aload_n hx hb dX9_redo_4 rfl (lv_at hl 0 rfl) ?_
  refine rgS C hH fs_RX9_10_0 dX9_redo_5 ?_
  obtain ⟨q8, e8, h⟩ := tB h
  refine rcI C hH hl.1 (mX1_bringBack l e8) cf_RX9_277 ro_29 (RR_of (by decide) (by decide)) rfl (rest := []) rfl (Nat.le_of_ble_eq_true rfl) dX9_redo_8 ?_
  intro hz8 H locs hH
  refine lv_if_eq (tgt := 32) hx hb dX9_redo_11 (by decide) (fun hc11 => ?_) (fun hc11 => ?_)
  · replace h := tT hc11 h
    refine lv_bipush (v := (-5)) hx hb dX9_redo_32 (by decide) ?_
    have h := Option.some.inj h
    subst h
    exact retI C hH trivial dX9_redo_34
  · replace h := tF hc11 h
    refine lv_aload_n hx hb dX9_redo_14 rfl (lv_at hl 0 rfl) ?_
    refine rgS C hH fs_RX9_49_0 dX9_redo_15 ?_
    refine rgI C hH fi_RX9_280_29 dX9_redo_18 ?_
    refine lv_aload_n hx hb dX9_redo_21 rfl (lv_at hl 0 rfl) ?_
    refine rgS C hH fs_RX9_49_0 dX9_redo_22 ?_
    refine rgI C hH fi_RX9_274_29 dX9_redo_25 ?_
    refine lv_isub hx hb dX9_redo_28 ?_
    refine lv_goto (tgt := 34) hx hb dX9_redo_29 (by decide) ?_
    have h := Option.some.inj h
    subst h
    exact retI C hH trivial dX9_redo_34
set_option maxHeartbeats 2000000 in
set_option maxRecDepth 20000 in
theorem mX10_redo (l : Launch) {D : va_G} {ca : Nat → ClassId} {A : Nat → Prop} {ad : Nat → Nat} {mm : Mm} {q : Int32 × Mm} (h : dX10_redo mm = some q) : Met l yX10_redo (wsOf yX10_redo cX10_redo 1 (some .int)) (rmk 1) (PcX WN ad ca WS D A [.ref (ad 58)] mm) (QcI WN ad ca WS D A pzT q) 0 0 A := by
  unfold dX10_redo at h
  refine ent (by decide) (Nat.le_of_ble_eq_true rfl) (fun p e s m args below meth c hargs C hH ls hl => ?_)
  have hx := C.1
  have hb := C.2.1
  have hl : lv_has ls 1 [(0, .ref (ad 58))] := hl
  refine lv_aload_n hx hb dX10_redo_0 rfl (lv_at hl 0 rfl) ?_
  refine rgI C hH fi_RX10_88_58 dX10_redo_1 ?_
  refine lv_aload_n hx hb dX10_redo_4 rfl (lv_at hl 0 rfl) ?_
  refine rgI C hH fi_RX10_91_58 dX10_redo_5 ?_
  refine lv_icmp_ne (tgt := 14) hx hb dX10_redo_8 (by decide) (fun hc8 => ?_) (fun hc8 => ?_)
  · replace h := tF hc8 h
    refine lv_aload_n hx hb dX10_redo_14 rfl (lv_at hl 0 rfl) ?_
    refine rgS C hH fs_RX10_9_58 dX10_redo_15 ?_
    refine lv_aload_n hx hb dX10_redo_18 rfl (lv_at hl 0 rfl) ?_
    refine rgS C hH fs_RX10_13_58 dX10_redo_19 ?_
    refine lv_aload_n hx hb dX10_redo_22 rfl (lv_at hl 0 rfl) ?_
    refine rgI C hH fi_RX10_88_58 dX10_redo_23 ?_
    obtain ⟨hi26, h⟩ := tC h
    refine raI C hH (k := (Int32.toNatClampNeg (gI mm 58 5))) (by decide) (show WS 60 = .inr (0, 40, 0) from rfl) hi26 rfl dX10_redo_26 ?_
    refine lv_aload_n hx hb dX10_redo_27 rfl (lv_at hl 0 rfl) ?_
    refine rgS C hH fs_RX10_19_58 dX10_redo_28 ?_
    refine lv_aload_n hx hb dX10_redo_31 rfl (lv_at hl 0 rfl) ?_
    refine rgI C hH fi_RX10_88_58 dX10_redo_32 ?_
    obtain ⟨hi35, h⟩ := tC h
    refine raI C hH (k := (Int32.toNatClampNeg (gI mm 58 5))) (by decide) (show WS 62 = .inr (0, 40, 0) from rfl) hi35 rfl dX10_redo_35 ?_
    obtain ⟨hi36, h⟩ := tC h
    refine rwI C hH (k := (Int32.toNatClampNeg (gI mm 60 (Int32.toNatClampNeg (gI mm 58 5))))) (by decide) (show WS 59 = .inr (0, 62, 0) from rfl) hi36 rfl dX10_redo_36 (fun H locs hH => ?_)
    refine lv_aload_n hx hb dX10_redo_37 rfl (lv_at hl 0 rfl) ?_
    refine lv_dup hx hb dX10_redo_38 rfl ?_
    refine rgI C hH fi_RX10_88_58 dX10_redo_39 ?_
    refine lv_iconst (v := 1) hx hb dX10_redo_42 (by decide) ?_
    refine lv_iadd hx hb dX10_redo_43 ?_
    refine rpI C hH fp_RX10_88_58 rfl rfl dX10_redo_44 (fun H locs hH => ?_)
    refine lv_aload_n hx hb dX10_redo_47 rfl (lv_at hl 0 rfl) ?_
    refine rgI C hH fi_RX10_91_58 dX10_redo_48 ?_
    refine lv_aload_n hx hb dX10_redo_51 rfl (lv_at hl 0 rfl) ?_
    refine rgI C hH fi_RX10_88_58 dX10_redo_52 ?_
    refine lv_isub hx hb dX10_redo_55 ?_
    have h := Option.some.inj h
    subst h
    exact retI C hH trivial dX10_redo_56
  · replace h := tT hc8 h
    refine lv_bipush (v := (-5)) hx hb dX10_redo_11 (by decide) ?_
    have h := Option.some.inj h
    subst h
    exact retI C hH trivial dX10_redo_13
set_option maxHeartbeats 2000000 in
set_option maxRecDepth 20000 in
theorem mX4_add (l : Launch) {D : va_G} {ca : Nat → ClassId} {A : Nat → Prop} {ad : Nat → Nat} {v1 : Int32} {mm : Mm} {q : Int32 × Mm} (h : dX4_add v1 mm = some q) : Met l yX4_add (wsOf yX4_add cX4_add 2 (some .int)) (rmk 1) (PcX WN ad ca WS D A [.ref (ad 34), .int v1] mm) (QcI WN ad ca WS D A pzT q) 0 0 A := by
  unfold dX4_add at h
  refine ent (by decide) (Nat.le_of_ble_eq_true rfl) (fun p e s m args below meth c hargs C hH ls hl => ?_)
  have hx := C.1
  have hb := C.2.1
  have hl : lv_has ls 2 [(0, .ref (ad 34)), (1, .int v1)] := hl
  refine lv_aload_n hx hb dX4_add_0 rfl (lv_at hl 0 rfl) ?_
  refine rgI C hH fi_RX4_18_34 dX4_add_1 ?_
  refine lv_bipush (v := 50) hx hb dX4_add_4 (by decide) ?_
  refine lv_icmp_lt (tgt := 12) hx hb dX4_add_6 (by decide) (fun hc6 => ?_) (fun hc6 => ?_)
  · replace h := tT hc6 h
    refine lv_aload_n hx hb dX4_add_12 rfl (lv_at hl 0 rfl) ?_
    refine rgS C hH fs_RX4_11_34 dX4_add_13 ?_
    refine lv_aload_n hx hb dX4_add_16 rfl (lv_at hl 0 rfl) ?_
    refine rgI C hH fi_RX4_18_34 dX4_add_17 ?_
    refine lv_iload_n hx hb dX4_add_20 rfl (lv_at hl 1 rfl) ?_
    obtain ⟨hi21, h⟩ := tC h
    refine rwI C hH (k := (Int32.toNatClampNeg (gI mm 34 3))) (by decide) (show WS 35 = .inr (0, 50, 0) from rfl) hi21 rfl dX4_add_21 (fun H locs hH => ?_)
    refine lv_aload_n hx hb dX4_add_22 rfl (lv_at hl 0 rfl) ?_
    refine lv_dup hx hb dX4_add_23 rfl ?_
    refine rgI C hH fi_RX4_18_34 dX4_add_24 ?_
    refine lv_iconst (v := 1) hx hb dX4_add_27 (by decide) ?_
    refine lv_iadd hx hb dX4_add_28 ?_
    refine rpI C hH fp_RX4_18_34 rfl rfl dX4_add_29 (fun H locs hH => ?_)
    refine lv_aload_n hx hb dX4_add_32 rfl (lv_at hl 0 rfl) ?_
    refine rgI C hH fi_RX4_18_34 dX4_add_33 ?_
    refine lv_iconst (v := 1) hx hb dX4_add_36 (by decide) ?_
    refine lv_isub hx hb dX4_add_37 ?_
    have h := Option.some.inj h
    subst h
    exact retI C hH trivial dX4_add_38
  · replace h := tF hc6 h
    refine lv_bipush (v := (-3)) hx hb dX4_add_9 (by decide) ?_
    have h := Option.some.inj h
    subst h
    exact retI C hH trivial dX4_add_11
set_option maxHeartbeats 2000000 in
set_option maxRecDepth 20000 in
theorem wX9_body_10 (C : Cx D ca A p s m args meth c cX9_body RX9 2 (some .int)) {q : Int32 × Mm} {mm : Mm} (h : DX9_body_10 mm = some q) (hH : Hx WN ad ca WS D A s.heap mm H locs) (hl : lv_has ls 2 []) : W p l e (rmk 2) s m args below meth c H locs 0 0 (MQ below (QcI WN ad ca WS D A pzT q) args s 0 0 A) (F0 m 10 ls []) := by
  unfold DX9_body_10 at h
  have hx := C.1
  have hb := C.2.1
  refine lv_iconst (v := (-1)) hx hb dX9_body_10 (by decide) ?_
  refine lv_goto (tgt := 22) hx hb dX9_body_11 (by decide) ?_
  have h := Option.some.inj h
  subst h
  exact retI C hH trivial dX9_body_22
set_option maxHeartbeats 2000000 in
set_option maxRecDepth 20000 in
theorem mX9_body (l : Launch) {D : va_G} {ca : Nat → ClassId} {A : Nat → Prop} {ad : Nat → Nat} {v1 : Int32} {mm : Mm} {q : Int32 × Mm} (h : dX9_body v1 mm = some q) : Met l yX9_body (wsOf yX9_body cX9_body 2 (some .int)) (rmk 2) (PcX WN ad ca WS D A [.ref (ad 0), .int v1] mm) (QcI WN ad ca WS D A pzT q) 0 0 A := by
  unfold dX9_body at h
  refine ent (by decide) (Nat.le_of_ble_eq_true rfl) (fun p e s m args below meth c hargs C hH ls hl => ?_)
  have hx := C.1
  have hb := C.2.1
  have hl : lv_has ls 2 [(0, .ref (ad 0)), (1, .int v1)] := hl
  refine lv_iload_n hx hb dX9_body_0 rfl (lv_at hl 1 rfl) ?_
  refine lv_if_lt (tgt := 10) hx hb dX9_body_1 (by decide) (fun hc1 => ?_) (fun hc1 => ?_)
  · replace h := tT hc1 h
    exact wX9_body_10 C h hH (lv_sub hl [] rfl)
  · replace h := tF hc1 h
    refine lv_iload_n hx hb dX9_body_4 rfl (lv_at hl 1 rfl) ?_
    refine lv_bipush (v := 8) hx hb dX9_body_5 (by decide) ?_
    refine lv_icmp_lt (tgt := 14) hx hb dX9_body_7 (by decide) (fun hc7 => ?_) (fun hc7 => ?_)
    · replace h := tT hc7 h
      refine lv_aload_n hx hb dX9_body_14 rfl (lv_at hl 0 rfl) ?_
      refine rgS C hH fs_RX9_56_0 dX9_body_15 ?_
      refine lv_iload_n hx hb dX9_body_18 rfl (lv_at hl 1 rfl) ?_
      obtain ⟨q19, e19, h⟩ := tB h
      refine rcI C hH hl.1 (mX4_add l e19) cf_RX9_283 ro_34 (RR_of (by decide) (by decide)) rfl (rest := []) rfl (Nat.le_of_ble_eq_true rfl) dX9_body_19 ?_
      intro hz19 H locs hH
      have h := Option.some.inj h
      subst h
      exact retI C hH trivial dX9_body_22
    · replace h := tF hc7 h
      exact wX9_body_10 C h hH (lv_sub hl [] rfl)
set_option maxHeartbeats 2000000 in
set_option maxRecDepth 20000 in
theorem mX10_body (l : Launch) {D : va_G} {ca : Nat → ClassId} {A : Nat → Prop} {ad : Nat → Nat} {v1 : Int32} {mm : Mm} {q : Int32 × Mm} (h : dX10_body v1 mm = some q) : Met l yX10_body (wsOf yX10_body cX10_body 2 (some .int)) (rmk 2) (PcX WN ad ca WS D A [.ref (ad 58), .int v1] mm) (QcI WN ad ca WS D A pzT q) 0 0 A := by
  unfold dX10_body at h
  refine ent (by decide) (Nat.le_of_ble_eq_true rfl) (fun p e s m args below meth c hargs C hH ls hl => ?_)
  have hx := C.1
  have hb := C.2.1
  have hl : lv_has ls 2 [(0, .ref (ad 58)), (1, .int v1)] := hl
  refine lv_iload_n hx hb dX10_body_0 rfl (lv_at hl 1 rfl) ?_
  refine lv_i2l' hx hb dX10_body_1 ?_
  refine lv_lconst (v := 0) hx hb dX10_body_2 (by decide) ?_
  refine rldc2 C (v := 7) k_RX10_312 dX10_body_3 ?_
  obtain ⟨q6, e6, h⟩ := tB h
  refine rsI C hH hl.1 (mX10_within l e6) cs_RX10_96 (RR_of (by decide) (by decide)) rfl (rest := []) rfl (Nat.le_of_ble_eq_true rfl) dX10_body_6 ?_
  intro hz6 H locs hH
  refine lv_if_ne (tgt := 14) hx hb dX10_body_9 (by decide) (fun hc9 => ?_) (fun hc9 => ?_)
  · replace h := tF hc9 h
    refine lv_aload_n hx hb dX10_body_14 rfl (lv_at hl 0 rfl) ?_
    refine rgI C hH fi_RX10_309_58 dX10_body_15 ?_
    refine lv_bipush (v := 50) hx hb dX10_body_18 (by decide) ?_
    refine lv_icmp_ne (tgt := 26) hx hb dX10_body_20 (by decide) (fun hc20 => ?_) (fun hc20 => ?_)
    · replace h := tF hc20 h
      refine lv_aload_n hx hb dX10_body_26 rfl (lv_at hl 0 rfl) ?_
      refine rgS C hH fs_RX10_66_58 dX10_body_27 ?_
      refine lv_aload_n hx hb dX10_body_30 rfl (lv_at hl 0 rfl) ?_
      refine rgI C hH fi_RX10_309_58 dX10_body_31 ?_
      refine lv_iload_n hx hb dX10_body_34 rfl (lv_at hl 1 rfl) ?_
      obtain ⟨hi35, h⟩ := tC h
      refine rwI C hH (k := (Int32.toNatClampNeg (gI q6.2 58 32))) (by decide) (show WS 77 = .inr (0, 50, 0) from rfl) hi35 rfl dX10_body_35 (fun H locs hH => ?_)
      refine lv_aload_n hx hb dX10_body_36 rfl (lv_at hl 0 rfl) ?_
      refine lv_dup hx hb dX10_body_37 rfl ?_
      refine rgI C hH fi_RX10_309_58 dX10_body_38 ?_
      refine lv_iconst (v := 1) hx hb dX10_body_41 (by decide) ?_
      refine lv_iadd hx hb dX10_body_42 ?_
      refine rpI C hH fp_RX10_309_58 rfl rfl dX10_body_43 (fun H locs hH => ?_)
      refine lv_aload_n hx hb dX10_body_46 rfl (lv_at hl 0 rfl) ?_
      refine rgI C hH fi_RX10_309_58 dX10_body_47 ?_
      refine lv_iconst (v := 1) hx hb dX10_body_50 (by decide) ?_
      refine lv_isub hx hb dX10_body_51 ?_
      have h := Option.some.inj h
      subst h
      exact retI C hH trivial dX10_body_52
    · replace h := tT hc20 h
      refine lv_bipush (v := (-3)) hx hb dX10_body_23 (by decide) ?_
      have h := Option.some.inj h
      subst h
      exact retI C hH trivial dX10_body_25
  · replace h := tT hc9 h
    refine lv_iconst (v := (-1)) hx hb dX10_body_12 (by decide) ?_
    have h := Option.some.inj h
    subst h
    exact retI C hH trivial dX10_body_13
set_option maxHeartbeats 2000000 in
set_option maxRecDepth 20000 in
theorem wX4_has_16 (C : Cx D ca A p s m args meth c cX4_has RX4 2 (some .boolean)) {q : Int32 × Mm} {mm : Mm} (h : DX4_has_16 mm = some q) (hH : Hx WN ad ca WS D A s.heap mm H locs) (hl : lv_has ls 2 []) : W p l e (rmk 1) s m args below meth c H locs 0 0 (MQ below (QcI WN ad ca WS D A pzZ q) args s 0 0 A) (F0 m 16 ls []) := by
  unfold DX4_has_16 at h
  have hx := C.1
  have hb := C.2.1
  refine lv_iconst (v := 0) hx hb dX4_has_16 (by decide) ?_
  have h := Option.some.inj h
  subst h
  exact retZ C hH (Or.inl rfl) dX4_has_17
set_option maxHeartbeats 2000000 in
set_option maxRecDepth 20000 in
theorem mX4_has (l : Launch) {D : va_G} {ca : Nat → ClassId} {A : Nat → Prop} {ad : Nat → Nat} {v1 : Int32} {mm : Mm} {q : Int32 × Mm} (h : dX4_has v1 mm = some q) : Met l yX4_has (wsOf yX4_has cX4_has 2 (some .boolean)) (rmk 1) (PcX WN ad ca WS D A [.ref (ad 34), .int v1] mm) (QcI WN ad ca WS D A pzZ q) 0 0 A := by
  unfold dX4_has at h
  refine ent (by decide) (Nat.le_of_ble_eq_true rfl) (fun p e s m args below meth c hargs C hH ls hl => ?_)
  have hx := C.1
  have hb := C.2.1
  have hl : lv_has ls 2 [(0, .ref (ad 34)), (1, .int v1)] := hl
  refine lv_iload_n hx hb dX4_has_0 rfl (lv_at hl 1 rfl) ?_
  refine lv_if_lt (tgt := 16) hx hb dX4_has_1 (by decide) (fun hc1 => ?_) (fun hc1 => ?_)
  · replace h := tT hc1 h
    exact wX4_has_16 C h hH (lv_sub hl [] rfl)
  · replace h := tF hc1 h
    refine lv_iload_n hx hb dX4_has_4 rfl (lv_at hl 1 rfl) ?_
    refine lv_aload_n hx hb dX4_has_5 rfl (lv_at hl 0 rfl) ?_
    refine rgI C hH fi_RX4_18_34 dX4_has_6 ?_
    refine lv_icmp_ge (tgt := 16) hx hb dX4_has_9 (by decide) (fun hc9 => ?_) (fun hc9 => ?_)
    · replace h := tT hc9 h
      exact wX4_has_16 C h hH (lv_sub hl [] rfl)
    · replace h := tF hc9 h
      refine lv_iconst (v := 1) hx hb dX4_has_12 (by decide) ?_
      refine lv_goto (tgt := 17) hx hb dX4_has_13 (by decide) ?_
      have h := Option.some.inj h
      subst h
      exact retZ C hH (Or.inr rfl) dX4_has_17
set_option maxHeartbeats 2000000 in
set_option maxRecDepth 20000 in
theorem wX4_ownerOf_38 (C : Cx D ca A p s m args meth c cX4_ownerOf RX4 4 (some .int)) {q : Int32 × Mm} {v2 : Int32} {mm : Mm} (h : DX4_ownerOf_38 v2 mm = some q) (hH : Hx WN ad ca WS D A s.heap mm H locs) (hl : lv_has ls 4 [(2, .int v2)]) : W p l e (rmk 1) s m args below meth c H locs 0 0 (MQ below (QcI WN ad ca WS D A pzT q) args s 0 0 A) (F0 m 38 ls []) := by
  unfold DX4_ownerOf_38 at h
  have hx := C.1
  have hb := C.2.1
  refine lv_iload_n hx hb dX4_ownerOf_38 rfl (lv_at hl 0 rfl) ?_
  have h := Option.some.inj h
  subst h
  exact retI C hH trivial dX4_ownerOf_39
set_option maxHeartbeats 2000000 in
set_option maxRecDepth 20000 in
theorem wbX4_ownerOf_4 (C : Cx D ca A p s m args meth c cX4_ownerOf RX4 4 (some .int)) {q : Int32 × Mm} {k4 : Int32 → Int32 → Int32 → Mm → Option (Int32 × Mm)} (hk4 : ∀ (v1 : Int32) (v2 : Int32) (v3 : Int32) (mm : Mm), k4 v1 v2 v3 mm = some q → ∀ (H : Heap) (locs : List Loc) (ls : Array Slot), Hx WN ad ca WS D A s.heap mm H locs → lv_has ls 4 [(1, .int v1), (2, .int v2), (3, .int v3)] → W p l e (rmk 1) s m args below meth c H locs 0 0 (MQ below (QcI WN ad ca WS D A pzT q) args s 0 0 A) (F0 m 4 ls [])) {v1 : Int32} {v2 : Int32} {v3 : Int32} {mm : Mm} (h : BX4_ownerOf_4 k4 v1 v2 v3 mm = some q) (hH : Hx WN ad ca WS D A s.heap mm H locs) (hl : lv_has ls 4 [(1, .int v1), (2, .int v2), (3, .int v3)]) : W p l e (rmk 1) s m args below meth c H locs 0 0 (MQ below (QcI WN ad ca WS D A pzT q) args s 0 0 A) (F0 m 4 ls []) := by
  unfold BX4_ownerOf_4 at h
  have hx := C.1
  have hb := C.2.1
  refine lv_iload_n hx hb dX4_ownerOf_4 rfl (lv_at hl 2 rfl) ?_
  refine lv_bipush (v := 8) hx hb dX4_ownerOf_5 (by decide) ?_
  refine lv_icmp_ge (tgt := 38) hx hb dX4_ownerOf_7 (by decide) (fun hc7 => ?_) (fun hc7 => ?_)
  · replace h := tT hc7 h
    exact wX4_ownerOf_38 C h hH (lv_sub hl [1] rfl)
  · replace h := tF hc7 h
    refine lv_iload_n hx hb dX4_ownerOf_10 rfl (lv_at hl 1 rfl) ?_
    refine lv_if_lt (tgt := 38) hx hb dX4_ownerOf_11 (by decide) (fun hc11 => ?_) (fun hc11 => ?_)
    · replace h := tT hc11 h
      exact wX4_ownerOf_38 C h hH (lv_sub hl [1] rfl)
    · replace h := tF hc11 h
      refine rst C hH C.2.2.2.2.2.2.2.2.2.2.2.1 st_RX4_43 dX4_ownerOf_14 (fun t14 hT14 => ?_)
      refine lv_iconst (v := 4) hx hb dX4_ownerOf_17 (by decide) ?_
      refine lv_iload_n hx hb dX4_ownerOf_18 rfl (lv_at hl 1 rfl) ?_
      refine lv_imul hx hb dX4_ownerOf_19 ?_
      refine lv_iload_n hx hb dX4_ownerOf_20 rfl (lv_at hl 0 rfl) ?_
      refine lv_iadd hx hb dX4_ownerOf_21 ?_
      obtain ⟨hi22, h⟩ := tC h
      refine rsti C hH hT14 hi22 dX4_ownerOf_22 ?_
      refine lv_if_ne (tgt := 38) hx hb dX4_ownerOf_23 (by decide) (fun hc23 => ?_) (fun hc23 => ?_)
      · replace h := tF hc23 h
        exact wX4_ownerOf_38 C h hH (lv_sub hl [1] rfl)
      · replace h := tT hc23 h
        refine rst C hH C.2.2.2.2.2.2.2.2.2.2.1 st_RX4_30 dX4_ownerOf_26 (fun t26 hT26 => ?_)
        refine lv_iload_n hx hb dX4_ownerOf_29 rfl (lv_at hl 1 rfl) ?_
        obtain ⟨hi30, h⟩ := tC h
        refine rsti C hH hT26 hi30 dX4_ownerOf_30 ?_
        refine lv_istore_n (lv' := [(2, .int (tbABOVE (Int32.toNatClampNeg v2))), (1, .int v1), (3, .int v3)]) hx hb dX4_ownerOf_31 rfl hl (by decide) rfl (fun ls hl => ?_)
        refine lv_iinc (v := (v3 + 1)) (lv' := [(3, .int (v3 + 1)), (2, .int (tbABOVE (Int32.toNatClampNeg v2))), (1, .int v1)]) hx hb dX4_ownerOf_32 hl (k := 2) rfl rfl (by decide) rfl (fun ls hl => ?_)
        refine lv_goto (tgt := 4) hx hb dX4_ownerOf_35 (by decide) ?_
        exact hk4 _ _ _ _ h _ _ _ hH (lv_sub hl [2, 1, 0] rfl)
set_option maxHeartbeats 2000000 in
set_option maxRecDepth 20000 in
theorem wX4_ownerOf_4 (C : Cx D ca A p s m args meth c cX4_ownerOf RX4 4 (some .int)) {q : Int32 × Mm} : ∀ (N : Nat) (v1 : Int32) (v2 : Int32) (v3 : Int32) (mm : Mm), DX4_ownerOf_4 N v1 v2 v3 mm = some q → ∀ (H : Heap) (locs : List Loc) (ls : Array Slot), Hx WN ad ca WS D A s.heap mm H locs → lv_has ls 4 [(1, .int v1), (2, .int v2), (3, .int v3)] → W p l e (rmk 1) s m args below meth c H locs 0 0 (MQ below (QcI WN ad ca WS D A pzT q) args s 0 0 A) (F0 m 4 ls []) := by
  intro N
  induction N with
  | zero =>
    intro v1 v2 v3 mm h
    have h2 : (none : Option (Int32 × Mm)) = some q := h
    cases h2
  | succ N ih =>
    intro v1 v2 v3 mm h H locs ls hH hl
    exact wbX4_ownerOf_4 C ih h hH hl
set_option maxHeartbeats 2000000 in
set_option maxRecDepth 20000 in
theorem mX4_ownerOf (l : Launch) {D : va_G} {ca : Nat → ClassId} {A : Nat → Prop} {ad : Nat → Nat} {v0 : Int32} {v1 : Int32} {mm : Mm} {q : Int32 × Mm} (h : dX4_ownerOf v0 v1 mm = some q) : Met l yX4_ownerOf (wsOf yX4_ownerOf cX4_ownerOf 4 (some .int)) (rmk 1) (PcX WN ad ca WS D A [.int v0, .int v1] mm) (QcI WN ad ca WS D A pzT q) 0 0 A := by
  unfold dX4_ownerOf at h
  refine ent (by decide) (Nat.le_of_ble_eq_true rfl) (fun p e s m args below meth c hargs C hH ls hl => ?_)
  have hx := C.1
  have hb := C.2.1
  have hl : lv_has ls 4 [(0, .int v0), (1, .int v1)] := hl
  refine lv_iload_n hx hb dX4_ownerOf_0 rfl (lv_at hl 0 rfl) ?_
  refine lv_istore_n (lv' := [(2, .int v0), (0, .int v0), (1, .int v1)]) hx hb dX4_ownerOf_1 rfl hl (by decide) rfl (fun ls hl => ?_)
  refine lv_iconst (v := 0) hx hb dX4_ownerOf_2 (by decide) ?_
  refine lv_istore_n (lv' := [(3, .int 0), (2, .int v0), (0, .int v0), (1, .int v1)]) hx hb dX4_ownerOf_3 rfl hl (by decide) rfl (fun ls hl => ?_)
  exact wX4_ownerOf_4 C FU _ _ _ _ h _ _ _ hH (lv_sub hl [3, 1, 0] rfl)
set_option maxHeartbeats 2000000 in
set_option maxRecDepth 20000 in
theorem wX4_note_19 (C : Cx D ca A p s m args meth c cX4_note RX4 2 none) {q : Unit × Mm} {mm : Mm} (h : DX4_note_19 mm = some q) (hH : Hx WN ad ca WS D A s.heap mm H locs) (hl : lv_has ls 2 [(0, .ref (ad 34))]) : W p l e (rmk 1) s m args below meth c H locs 0 0 (MQ below (QcV WN ad ca WS D A q) args s 0 0 A) (F0 m 19 ls []) := by
  unfold DX4_note_19 at h
  have hx := C.1
  have hb := C.2.1
  refine lv_aload_n hx hb dX4_note_19 rfl (lv_at hl 0 rfl) ?_
  refine lv_dup hx hb dX4_note_20 rfl ?_
  refine rgI C hH fi_RX4_33_34 dX4_note_21 ?_
  refine lv_iconst (v := 1) hx hb dX4_note_24 (by decide) ?_
  refine lv_iadd hx hb dX4_note_25 ?_
  refine rpI C hH fp_RX4_33_34 rfl rfl dX4_note_26 (fun H locs hH => ?_)
  have h := Option.some.inj h
  subst h
  exact retV C hH dX4_note_29
set_option maxHeartbeats 2000000 in
set_option maxRecDepth 20000 in
theorem mX4_note (l : Launch) {D : va_G} {ca : Nat → ClassId} {A : Nat → Prop} {ad : Nat → Nat} {v1 : Int32} {mm : Mm} {q : Unit × Mm} (h : dX4_note v1 mm = some q) : Met l yX4_note (wsOf yX4_note cX4_note 2 none) (rmk 1) (PcX WN ad ca WS D A [.ref (ad 34), .int v1] mm) (QcV WN ad ca WS D A q) 0 0 A := by
  unfold dX4_note at h
  refine ent (by decide) (Nat.le_of_ble_eq_true rfl) (fun p e s m args below meth c hargs C hH ls hl => ?_)
  have hx := C.1
  have hb := C.2.1
  have hl : lv_has ls 2 [(0, .ref (ad 34)), (1, .int v1)] := hl
  refine lv_aload_n hx hb dX4_note_0 rfl (lv_at hl 0 rfl) ?_
  refine rgI C hH fi_RX4_33_34 dX4_note_1 ?_
  refine lv_bipush (v := 24) hx hb dX4_note_4 (by decide) ?_
  refine lv_icmp_ge (tgt := 19) hx hb dX4_note_6 (by decide) (fun hc6 => ?_) (fun hc6 => ?_)
  · replace h := tT hc6 h
    exact wX4_note_19 C h hH (lv_sub hl [0] rfl)
  · replace h := tF hc6 h
    refine lv_aload_n hx hb dX4_note_9 rfl (lv_at hl 0 rfl) ?_
    refine rgS C hH fs_RX4_15_34 dX4_note_10 ?_
    refine lv_aload_n hx hb dX4_note_13 rfl (lv_at hl 0 rfl) ?_
    refine rgI C hH fi_RX4_33_34 dX4_note_14 ?_
    refine lv_iload_n hx hb dX4_note_17 rfl (lv_at hl 1 rfl) ?_
    obtain ⟨hi18, h⟩ := tC h
    refine rwI C hH (k := (Int32.toNatClampNeg (gI mm 34 4))) (by decide) (show WS 36 = .inr (0, 24, 0) from rfl) hi18 rfl dX4_note_18 (fun H locs hH => ?_)
    exact wX4_note_19 C h hH (lv_sub hl [0] rfl)
set_option maxHeartbeats 2000000 in
set_option maxRecDepth 20000 in
theorem wX4_run_19 (C : Cx D ca A p s m args meth c cX4_run RX4 10 (some .int)) {q : Int32 × Mm} {lev : Nat} (hlev : 2 ≤ lev + 1) {r_X4_run : Int32 → Int32 → Int32 → Int32 → Mm → Option (Int32 × Mm)} (hr_X4_run : ∀ (v1 : Int32) (v2 : Int32) (v3 : Int32) (v4 : Int32) (mm : Mm) (q : Int32 × Mm), r_X4_run v1 v2 v3 v4 mm = some q → Met l yX4_run (wsOf yX4_run cX4_run 10 (some .int)) (rmk lev) (PcX WN ad ca WS D A [.ref (ad 34), .int v1, .int v2, .int v3, .int v4] mm) (QcI WN ad ca WS D A pzT q) 0 0 A) {mm : Mm} (h : DX4_run_19 r_X4_run mm = some q) (hH : Hx WN ad ca WS D A s.heap mm H locs) (hl : lv_has ls 10 []) : W p l e (rmk (lev + 1)) s m args below meth c H locs 0 0 (MQ below (QcI WN ad ca WS D A pzT q) args s 0 0 A) (F0 m 19 ls []) := by
  unfold DX4_run_19 at h
  have hx := C.1
  have hb := C.2.1
  refine lv_iconst (v := 0) hx hb dX4_run_19 (by decide) ?_
  have h := Option.some.inj h
  subst h
  exact retI C hH trivial dX4_run_20
set_option maxHeartbeats 2000000 in
set_option maxRecDepth 20000 in
theorem mbX4_run (l : Launch) {D : va_G} {ca : Nat → ClassId} {A : Nat → Prop} {ad : Nat → Nat} {lev : Nat} (hlev : 2 ≤ lev + 1) {r_X4_run : Int32 → Int32 → Int32 → Int32 → Mm → Option (Int32 × Mm)} (hr_X4_run : ∀ (v1 : Int32) (v2 : Int32) (v3 : Int32) (v4 : Int32) (mm : Mm) (q : Int32 × Mm), r_X4_run v1 v2 v3 v4 mm = some q → Met l yX4_run (wsOf yX4_run cX4_run 10 (some .int)) (rmk lev) (PcX WN ad ca WS D A [.ref (ad 34), .int v1, .int v2, .int v3, .int v4] mm) (QcI WN ad ca WS D A pzT q) 0 0 A) {v1 : Int32} {v2 : Int32} {v3 : Int32} {v4 : Int32} {mm : Mm} {q : Int32 × Mm} (h : bX4_run r_X4_run v1 v2 v3 v4 mm = some q) : Met l yX4_run (wsOf yX4_run cX4_run 10 (some .int)) (rmk (lev + 1)) (PcX WN ad ca WS D A [.ref (ad 34), .int v1, .int v2, .int v3, .int v4] mm) (QcI WN ad ca WS D A pzT q) 0 0 A := by
  unfold bX4_run at h
  refine ent (by decide) (Nat.le_of_ble_eq_true rfl) (fun p e s m args below meth c hargs C hH ls hl => ?_)
  have hx := C.1
  have hb := C.2.1
  have hl : lv_has ls 10 [(0, .ref (ad 34)), (1, .int v1), (2, .int v2), (3, .int v3), (4, .int v4)] := hl
  refine lv_iload_n hx hb dX4_run_0 rfl (lv_at hl 1 rfl) ?_
  refine lv_iload_n hx hb dX4_run_1 rfl (lv_at hl 2 rfl) ?_
  obtain ⟨q2, e2, h⟩ := tB h
  refine rsI C hH hl.1 (mX4_ownerOf l e2) cs_RX4_46 (RR_of (by omega) (by decide)) rfl (rest := []) rfl (Nat.le_of_ble_eq_true rfl) dX4_run_2 ?_
  intro hz2 H locs hH
  refine lv_istore (lv' := [(5, .int q2.1), (0, .ref (ad 34)), (1, .int v1), (2, .int v2), (3, .int v3), (4, .int v4)]) hx hb dX4_run_5 hl (by decide) rfl (fun ls hl => ?_)
  refine lv_iload hx hb dX4_run_7 (lv_at hl 0 rfl) ?_
  refine lv_if_lt (tgt := 19) hx hb dX4_run_9 (by decide) (fun hc9 => ?_) (fun hc9 => ?_)
  · replace h := tT hc9 h
    exact wX4_run_19 C hlev hr_X4_run h hH (lv_sub hl [] rfl)
  · replace h := tF hc9 h
    refine lv_iload hx hb dX4_run_12 (lv_at hl 5 rfl) ?_
    refine lv_bipush (v := 40) hx hb dX4_run_14 (by decide) ?_
    refine lv_icmp_le (tgt := 21) hx hb dX4_run_16 (by decide) (fun hc16 => ?_) (fun hc16 => ?_)
    · replace h := tT hc16 h
      refine lv_aload_n hx hb dX4_run_21 rfl (lv_at hl 1 rfl) ?_
      refine rgS C hH fs_RX4_11_34 dX4_run_22 ?_
      refine lv_aload_n hx hb dX4_run_25 rfl (lv_at hl 1 rfl) ?_
      refine rgI C hH fi_RX4_36_34 dX4_run_26 ?_
      obtain ⟨hi29, h⟩ := tC h
      refine raI C hH (k := (Int32.toNatClampNeg (gI q2.2 34 2))) (by decide) (show WS 35 = .inr (0, 50, 0) from rfl) hi29 rfl dX4_run_29 ?_
      refine lv_istore (lv' := [(6, .int (gI q2.2 35 (Int32.toNatClampNeg (gI q2.2 34 2)))), (5, .int q2.1), (0, .ref (ad 34)), (1, .int v1), (2, .int v2), (3, .int v3), (4, .int v4)]) hx hb dX4_run_30 hl (by decide) rfl (fun ls hl => ?_)
      refine rst C hH C.2.2.2.2.2.2.2.2.2.2.1 st_RX4_30 dX4_run_32 (fun t32 hT32 => ?_)
      refine lv_iload hx hb dX4_run_35 (lv_at hl 1 rfl) ?_
      obtain ⟨hi37, h⟩ := tC h
      refine rsti C hH hT32 hi37 dX4_run_37 ?_
      refine lv_istore (lv' := [(7, .int (tbABOVE (Int32.toNatClampNeg q2.1))), (6, .int (gI q2.2 35 (Int32.toNatClampNeg (gI q2.2 34 2)))), (5, .int q2.1), (0, .ref (ad 34)), (1, .int v1), (2, .int v2), (3, .int v3), (4, .int v4)]) hx hb dX4_run_38 hl (by decide) rfl (fun ls hl => ?_)
      refine lv_iload hx hb dX4_run_40 (lv_at hl 7 rfl) ?_
      refine lv_iconst (v := 1) hx hb dX4_run_42 (by decide) ?_
      refine lv_iadd hx hb dX4_run_43 ?_
      refine lv_istore (lv' := [(8, .int (v4 + 1)), (7, .int (tbABOVE (Int32.toNatClampNeg q2.1))), (6, .int (gI q2.2 35 (Int32.toNatClampNeg (gI q2.2 34 2)))), (5, .int q2.1), (0, .ref (ad 34)), (1, .int v1), (2, .int v2), (3, .int v3), (4, .int v4)]) hx hb dX4_run_44 hl (by decide) rfl (fun ls hl => ?_)
      refine rst C hH C.2.2.2.2.2.2.2.2.2.2.2.1 st_RX4_43 dX4_run_46 (fun t46 hT46 => ?_)
      refine lv_iconst (v := 4) hx hb dX4_run_49 (by decide) ?_
      refine lv_iload hx hb dX4_run_50 (lv_at hl 3 rfl) ?_
      refine lv_imul hx hb dX4_run_52 ?_
      refine lv_iload_n hx hb dX4_run_53 rfl (lv_at hl 6 rfl) ?_
      refine lv_iadd hx hb dX4_run_54 ?_
      obtain ⟨hi55, h⟩ := tC h
      refine rsti C hH hT46 hi55 dX4_run_55 ?_
      refine lv_istore (lv' := [(9, .int (tbOWN (Int32.toNatClampNeg ((4 * q2.1) + v2)))), (8, .int (v4 + 1)), (7, .int (tbABOVE (Int32.toNatClampNeg q2.1))), (6, .int (gI q2.2 35 (Int32.toNatClampNeg (gI q2.2 34 2)))), (5, .int q2.1), (0, .ref (ad 34)), (1, .int v1), (2, .int v2), (3, .int v3), (4, .int v4)]) hx hb dX4_run_56 hl (by decide) rfl (fun ls hl => ?_)
      refine lv_aload_n hx hb dX4_run_58 rfl (lv_at hl 5 rfl) ?_
      refine lv_iload hx hb dX4_run_59 (lv_at hl 0 rfl) ?_
      obtain ⟨q61, e61, h⟩ := tB h
      refine rcV C hH hl.1 (mX4_note l e61) cf_RX4_50 ro_34 (RR_of (by omega) (by decide)) rfl (rest := []) rfl (Nat.le_of_ble_eq_true rfl) dX4_run_61 ?_
      intro H locs hH
      refine lv_iload hx hb dX4_run_64 (lv_at hl 0 rfl) ?_
      obtain ⟨x66, ex66⟩ : ∃ z : Int32, z = (tbOWN (Int32.toNatClampNeg ((4 * q2.1) + v2))) := ⟨_, rfl⟩
      rw [← ex66] at h ⊢
      by_cases hc66_1 : x66 = 1
      · replace h := tT hc66_1 h
        refine lv_lookup (tgt := 180) hx hb dX4_run_66 (by decide) (by first | (rw [hc66_1]; done) | (rw [hc66_1]; rfl)) (by decide) ?_
        refine lv_iload_n hx hb dX4_run_180 rfl (lv_at hl 8 rfl) ?_
        refine lv_aload_n hx hb dX4_run_181 rfl (lv_at hl 5 rfl) ?_
        refine rgI C hH fi_RX4_36_34 dX4_run_182 ?_
        refine lv_iadd hx hb dX4_run_185 ?_
        have h := Option.some.inj h
        subst h
        exact retI C hH trivial dX4_run_186
      · replace h := tF hc66_1 h
        by_cases hc66_2 : x66 = 2
        · replace h := tT hc66_2 h
          refine lv_lookup (tgt := 207) hx hb dX4_run_66 (by decide) (by first | (rw [hc66_2]; done) | (rw [hc66_2]; rfl)) (by decide) ?_
          refine lv_aload_n hx hb dX4_run_207 rfl (lv_at hl 5 rfl) ?_
          refine lv_iload hx hb dX4_run_208 (lv_at hl 3 rfl) ?_
          refine lv_iconst (v := 1) hx hb dX4_run_210 (by decide) ?_
          refine lv_iload_n hx hb dX4_run_211 rfl (lv_at hl 8 rfl) ?_
          refine lv_iload hx hb dX4_run_212 (lv_at hl 1 rfl) ?_
          obtain ⟨q214, e214, h⟩ := tB h
          refine rcI C hH hl.1 (hr_X4_run _ _ _ _ _ _ e214) cf_RX4_39 ro_34 (RR_of (by omega) (by decide)) rfl (rest := []) rfl (Nat.le_of_ble_eq_true rfl) dX4_run_214 ?_
          intro hz214 H locs hH
          refine lv_aload_n hx hb dX4_run_217 rfl (lv_at hl 5 rfl) ?_
          refine lv_iload hx hb dX4_run_218 (lv_at hl 3 rfl) ?_
          refine lv_iconst (v := 2) hx hb dX4_run_220 (by decide) ?_
          refine lv_iconst (v := 1) hx hb dX4_run_221 (by decide) ?_
          refine lv_iload hx hb dX4_run_222 (lv_at hl 1 rfl) ?_
          obtain ⟨q224, e224, h⟩ := tB h
          refine rcI C hH hl.1 (hr_X4_run _ _ _ _ _ _ e224) cf_RX4_39 ro_34 (RR_of (by omega) (by decide)) rfl (rest := [.int q214.1]) rfl (Nat.le_of_ble_eq_true rfl) dX4_run_224 ?_
          intro hz224 H locs hH
          refine lv_isub hx hb dX4_run_227 ?_
          have h := Option.some.inj h
          subst h
          exact retI C hH trivial dX4_run_228
        · replace h := tF hc66_2 h
          by_cases hc66_10 : x66 = 10
          · replace h := tT hc66_10 h
            refine lv_lookup (tgt := 187) hx hb dX4_run_66 (by decide) (by first | (rw [hc66_10]; done) | (rw [hc66_10]; rfl)) (by decide) ?_
            refine lv_aload_n hx hb dX4_run_187 rfl (lv_at hl 5 rfl) ?_
            refine lv_iload hx hb dX4_run_188 (lv_at hl 3 rfl) ?_
            refine lv_iconst (v := 0) hx hb dX4_run_190 (by decide) ?_
            refine lv_iload_n hx hb dX4_run_191 rfl (lv_at hl 8 rfl) ?_
            refine lv_iload hx hb dX4_run_192 (lv_at hl 1 rfl) ?_
            obtain ⟨q194, e194, h⟩ := tB h
            refine rcI C hH hl.1 (hr_X4_run _ _ _ _ _ _ e194) cf_RX4_39 ro_34 (RR_of (by omega) (by decide)) rfl (rest := []) rfl (Nat.le_of_ble_eq_true rfl) dX4_run_194 ?_
            intro hz194 H locs hH
            refine lv_iconst (v := 2) hx hb dX4_run_197 (by decide) ?_
            refine lv_imul hx hb dX4_run_198 ?_
            have h := Option.some.inj h
            subst h
            exact retI C hH trivial dX4_run_199
          · replace h := tF hc66_10 h
            by_cases hc66_11 : x66 = 11
            · replace h := tT hc66_11 h
              refine lv_lookup (tgt := 200) hx hb dX4_run_66 (by decide) (by first | (rw [hc66_11]; done) | (rw [hc66_11]; rfl)) (by decide) ?_
              refine lv_iload_n hx hb dX4_run_200 rfl (lv_at hl 8 rfl) ?_
              refine lv_aload_n hx hb dX4_run_201 rfl (lv_at hl 5 rfl) ?_
              refine rgI C hH fi_RX4_36_34 dX4_run_202 ?_
              refine lv_ixor hx hb dX4_run_205 ?_
              have h := Option.some.inj h
              subst h
              exact retI C hH trivial dX4_run_206
            · replace h := tF hc66_11 h
              by_cases hc66_20 : x66 = 20
              · replace h := tT hc66_20 h
                refine lv_lookup (tgt := 229) hx hb dX4_run_66 (by decide) (by first | (rw [hc66_20]; done) | (rw [hc66_20]; rfl)) (by decide) ?_
                refine lv_aload_n hx hb dX4_run_229 rfl (lv_at hl 5 rfl) ?_
                refine lv_iload hx hb dX4_run_230 (lv_at hl 2 rfl) ?_
                refine lv_iconst (v := 0) hx hb dX4_run_232 (by decide) ?_
                refine lv_iload_n hx hb dX4_run_233 rfl (lv_at hl 8 rfl) ?_
                refine lv_iload hx hb dX4_run_234 (lv_at hl 1 rfl) ?_
                obtain ⟨q236, e236, h⟩ := tB h
                refine rcI C hH hl.1 (hr_X4_run _ _ _ _ _ _ e236) cf_RX4_39 ro_34 (RR_of (by omega) (by decide)) rfl (rest := []) rfl (Nat.le_of_ble_eq_true rfl) dX4_run_236 ?_
                intro hz236 H locs hH
                refine lv_iconst (v := 3) hx hb dX4_run_239 (by decide) ?_
                refine lv_iadd hx hb dX4_run_240 ?_
                have h := Option.some.inj h
                subst h
                exact retI C hH trivial dX4_run_241
              · replace h := tF hc66_20 h
                by_cases hc66_30 : x66 = 30
                · replace h := tT hc66_30 h
                  refine lv_lookup (tgt := 242) hx hb dX4_run_66 (by decide) (by first | (rw [hc66_30]; done) | (rw [hc66_30]; rfl)) (by decide) ?_
                  refine lv_aload_n hx hb dX4_run_242 rfl (lv_at hl 5 rfl) ?_
                  refine lv_iload hx hb dX4_run_243 (lv_at hl 2 rfl) ?_
                  refine lv_iconst (v := 1) hx hb dX4_run_245 (by decide) ?_
                  refine lv_iload_n hx hb dX4_run_246 rfl (lv_at hl 8 rfl) ?_
                  refine lv_iload hx hb dX4_run_247 (lv_at hl 1 rfl) ?_
                  obtain ⟨q249, e249, h⟩ := tB h
                  refine rcI C hH hl.1 (hr_X4_run _ _ _ _ _ _ e249) cf_RX4_39 ro_34 (RR_of (by omega) (by decide)) rfl (rest := []) rfl (Nat.le_of_ble_eq_true rfl) dX4_run_249 ?_
                  intro hz249 H locs hH
                  refine lv_ineg hx hb dX4_run_252 ?_
                  have h := Option.some.inj h
                  subst h
                  exact retI C hH trivial dX4_run_253
                · replace h := tF hc66_30 h
                  by_cases hc66_40 : x66 = 40
                  · replace h := tT hc66_40 h
                    refine lv_lookup (tgt := 254) hx hb dX4_run_66 (by decide) (by first | (rw [hc66_40]; done) | (rw [hc66_40]; rfl)) (by decide) ?_
                    refine lv_aload_n hx hb dX4_run_254 rfl (lv_at hl 5 rfl) ?_
                    refine lv_iload hx hb dX4_run_255 (lv_at hl 2 rfl) ?_
                    refine lv_iconst (v := 2) hx hb dX4_run_257 (by decide) ?_
                    refine lv_iload_n hx hb dX4_run_258 rfl (lv_at hl 8 rfl) ?_
                    refine lv_iload hx hb dX4_run_259 (lv_at hl 1 rfl) ?_
                    obtain ⟨q261, e261, h⟩ := tB h
                    refine rcI C hH hl.1 (hr_X4_run _ _ _ _ _ _ e261) cf_RX4_39 ro_34 (RR_of (by omega) (by decide)) rfl (rest := []) rfl (Nat.le_of_ble_eq_true rfl) dX4_run_261 ?_
                    intro hz261 H locs hH
                    refine lv_iconst (v := 3) hx hb dX4_run_264 (by decide) ?_
                    refine lv_imul hx hb dX4_run_265 ?_
                    have h := Option.some.inj h
                    subst h
                    exact retI C hH trivial dX4_run_266
                  · replace h := tF hc66_40 h
                    by_cases hc66_41 : x66 = 41
                    · replace h := tT hc66_41 h
                      refine lv_lookup (tgt := 267) hx hb dX4_run_66 (by decide) (by first | (rw [hc66_41]; done) | (rw [hc66_41]; rfl)) (by decide) ?_
                      refine lv_aload_n hx hb dX4_run_267 rfl (lv_at hl 5 rfl) ?_
                      refine lv_iload hx hb dX4_run_268 (lv_at hl 2 rfl) ?_
                      refine lv_iconst (v := 1) hx hb dX4_run_270 (by decide) ?_
                      refine lv_iload_n hx hb dX4_run_271 rfl (lv_at hl 8 rfl) ?_
                      refine lv_iconst (v := 1) hx hb dX4_run_272 (by decide) ?_
                      refine lv_iadd hx hb dX4_run_273 ?_
                      refine lv_iload hx hb dX4_run_274 (lv_at hl 1 rfl) ?_
                      obtain ⟨q276, e276, h⟩ := tB h
                      refine rcI C hH hl.1 (hr_X4_run _ _ _ _ _ _ e276) cf_RX4_39 ro_34 (RR_of (by omega) (by decide)) rfl (rest := []) rfl (Nat.le_of_ble_eq_true rfl) dX4_run_276 ?_
                      intro hz276 H locs hH
                      have h := Option.some.inj h
                      subst h
                      exact retI C hH trivial dX4_run_279
                    · replace h := tF hc66_41 h
                      by_cases hc66_50 : x66 = 50
                      · replace h := tT hc66_50 h
                        refine lv_lookup (tgt := 280) hx hb dX4_run_66 (by decide) (by first | (rw [hc66_50]; done) | (rw [hc66_50]; rfl)) (by decide) ?_
                        refine lv_aload_n hx hb dX4_run_280 rfl (lv_at hl 5 rfl) ?_
                        refine lv_iload hx hb dX4_run_281 (lv_at hl 2 rfl) ?_
                        refine lv_iconst (v := 2) hx hb dX4_run_283 (by decide) ?_
                        refine lv_iload_n hx hb dX4_run_284 rfl (lv_at hl 8 rfl) ?_
                        refine lv_iload hx hb dX4_run_285 (lv_at hl 1 rfl) ?_
                        obtain ⟨q287, e287, h⟩ := tB h
                        refine rcI C hH hl.1 (hr_X4_run _ _ _ _ _ _ e287) cf_RX4_39 ro_34 (RR_of (by omega) (by decide)) rfl (rest := []) rfl (Nat.le_of_ble_eq_true rfl) dX4_run_287 ?_
                        intro hz287 H locs hH
                        refine lv_aload_n hx hb dX4_run_290 rfl (lv_at hl 5 rfl) ?_
                        refine lv_iload hx hb dX4_run_291 (lv_at hl 3 rfl) ?_
                        refine lv_iconst (v := 0) hx hb dX4_run_293 (by decide) ?_
                        refine lv_iconst (v := 2) hx hb dX4_run_294 (by decide) ?_
                        refine lv_iload hx hb dX4_run_295 (lv_at hl 1 rfl) ?_
                        obtain ⟨q297, e297, h⟩ := tB h
                        refine rcI C hH hl.1 (hr_X4_run _ _ _ _ _ _ e297) cf_RX4_39 ro_34 (RR_of (by omega) (by decide)) rfl (rest := [.int q287.1]) rfl (Nat.le_of_ble_eq_true rfl) dX4_run_297 ?_
                        intro hz297 H locs hH
                        refine lv_isub hx hb dX4_run_300 ?_
                        have h := Option.some.inj h
                        subst h
                        exact retI C hH trivial dX4_run_301
                      · replace h := tF hc66_50 h
                        by_cases hc66_60 : x66 = 60
                        · replace h := tT hc66_60 h
                          refine lv_lookup (tgt := 302) hx hb dX4_run_66 (by decide) (by first | (rw [hc66_60]; done) | (rw [hc66_60]; rfl)) (by decide) ?_
                          refine lv_aload_n hx hb dX4_run_302 rfl (lv_at hl 5 rfl) ?_
                          refine lv_iload hx hb dX4_run_303 (lv_at hl 2 rfl) ?_
                          refine lv_iconst (v := 3) hx hb dX4_run_305 (by decide) ?_
                          refine lv_iload_n hx hb dX4_run_306 rfl (lv_at hl 8 rfl) ?_
                          refine lv_iload hx hb dX4_run_307 (lv_at hl 1 rfl) ?_
                          obtain ⟨q309, e309, h⟩ := tB h
                          refine rcI C hH hl.1 (hr_X4_run _ _ _ _ _ _ e309) cf_RX4_39 ro_34 (RR_of (by omega) (by decide)) rfl (rest := []) rfl (Nat.le_of_ble_eq_true rfl) dX4_run_309 ?_
                          intro hz309 H locs hH
                          refine lv_iconst (v := 5) hx hb dX4_run_312 (by decide) ?_
                          refine lv_ixor hx hb dX4_run_313 ?_
                          have h := Option.some.inj h
                          subst h
                          exact retI C hH trivial dX4_run_314
                        · replace h := tF hc66_60 h
                          by_cases hc66_70 : x66 = 70
                          · replace h := tT hc66_70 h
                            refine lv_lookup (tgt := 315) hx hb dX4_run_66 (by decide) (by first | (rw [hc66_70]; done) | (rw [hc66_70]; rfl)) (by decide) ?_
                            refine lv_aload_n hx hb dX4_run_315 rfl (lv_at hl 5 rfl) ?_
                            refine lv_iload hx hb dX4_run_316 (lv_at hl 2 rfl) ?_
                            refine lv_iconst (v := 0) hx hb dX4_run_318 (by decide) ?_
                            refine lv_iload_n hx hb dX4_run_319 rfl (lv_at hl 8 rfl) ?_
                            refine lv_iload hx hb dX4_run_320 (lv_at hl 1 rfl) ?_
                            obtain ⟨q322, e322, h⟩ := tB h
                            refine rcI C hH hl.1 (hr_X4_run _ _ _ _ _ _ e322) cf_RX4_39 ro_34 (RR_of (by omega) (by decide)) rfl (rest := []) rfl (Nat.le_of_ble_eq_true rfl) dX4_run_322 ?_
                            intro hz322 H locs hH
                            refine lv_iconst (v := 2) hx hb dX4_run_325 (by decide) ?_
                            refine lv_imul hx hb dX4_run_326 ?_
                            have h := Option.some.inj h
                            subst h
                            exact retI C hH trivial dX4_run_327
                          · replace h := tF hc66_70 h
                            by_cases hc66_80 : x66 = 80
                            · replace h := tT hc66_80 h
                              refine lv_lookup (tgt := 328) hx hb dX4_run_66 (by decide) (by first | (rw [hc66_80]; done) | (rw [hc66_80]; rfl)) (by decide) ?_
                              refine lv_aload_n hx hb dX4_run_328 rfl (lv_at hl 5 rfl) ?_
                              refine lv_iload hx hb dX4_run_329 (lv_at hl 2 rfl) ?_
                              refine lv_iconst (v := 1) hx hb dX4_run_331 (by decide) ?_
                              refine lv_iload_n hx hb dX4_run_332 rfl (lv_at hl 8 rfl) ?_
                              refine lv_iload hx hb dX4_run_333 (lv_at hl 1 rfl) ?_
                              obtain ⟨q335, e335, h⟩ := tB h
                              refine rcI C hH hl.1 (hr_X4_run _ _ _ _ _ _ e335) cf_RX4_39 ro_34 (RR_of (by omega) (by decide)) rfl (rest := []) rfl (Nat.le_of_ble_eq_true rfl) dX4_run_335 ?_
                              intro hz335 H locs hH
                              refine lv_aload_n hx hb dX4_run_338 rfl (lv_at hl 5 rfl) ?_
                              refine lv_iload hx hb dX4_run_339 (lv_at hl 3 rfl) ?_
                              refine lv_iconst (v := 2) hx hb dX4_run_341 (by decide) ?_
                              refine lv_iconst (v := 2) hx hb dX4_run_342 (by decide) ?_
                              refine lv_iload hx hb dX4_run_343 (lv_at hl 1 rfl) ?_
                              obtain ⟨q345, e345, h⟩ := tB h
                              refine rcI C hH hl.1 (hr_X4_run _ _ _ _ _ _ e345) cf_RX4_39 ro_34 (RR_of (by omega) (by decide)) rfl (rest := [.int q335.1]) rfl (Nat.le_of_ble_eq_true rfl) dX4_run_345 ?_
                              intro hz345 H locs hH
                              refine lv_iadd hx hb dX4_run_348 ?_
                              have h := Option.some.inj h
                              subst h
                              exact retI C hH trivial dX4_run_349
                            · replace h := tF hc66_80 h
                              by_cases hc66_81 : x66 = 81
                              · replace h := tT hc66_81 h
                                refine lv_lookup (tgt := 350) hx hb dX4_run_66 (by decide) (by first | (rw [hc66_81]; done) | (rw [hc66_81]; rfl)) (by decide) ?_
                                refine lv_aload_n hx hb dX4_run_350 rfl (lv_at hl 5 rfl) ?_
                                refine lv_iload hx hb dX4_run_351 (lv_at hl 2 rfl) ?_
                                refine lv_iconst (v := 3) hx hb dX4_run_353 (by decide) ?_
                                refine lv_iload_n hx hb dX4_run_354 rfl (lv_at hl 8 rfl) ?_
                                refine lv_iload hx hb dX4_run_355 (lv_at hl 1 rfl) ?_
                                obtain ⟨q357, e357, h⟩ := tB h
                                refine rcI C hH hl.1 (hr_X4_run _ _ _ _ _ _ e357) cf_RX4_39 ro_34 (RR_of (by omega) (by decide)) rfl (rest := []) rfl (Nat.le_of_ble_eq_true rfl) dX4_run_357 ?_
                                intro hz357 H locs hH
                                refine lv_iconst (v := 1) hx hb dX4_run_360 (by decide) ?_
                                refine lv_isub hx hb dX4_run_361 ?_
                                have h := Option.some.inj h
                                subst h
                                exact retI C hH trivial dX4_run_362
                              · replace h := tF hc66_81 h
                                refine lv_lookup (tgt := 363) hx hb dX4_run_66 (by decide) (off := 297) (by rw [lv_osw (k := 1) (a := 1) hc66_1 rfl]; rw [lv_osw (k := 2) (a := 2) hc66_2 rfl]; rw [lv_osw (k := 10) (a := 10) hc66_10 rfl]; rw [lv_osw (k := 11) (a := 11) hc66_11 rfl]; rw [lv_osw (k := 20) (a := 20) hc66_20 rfl]; rw [lv_osw (k := 30) (a := 30) hc66_30 rfl]; rw [lv_osw (k := 40) (a := 40) hc66_40 rfl]; rw [lv_osw (k := 41) (a := 41) hc66_41 rfl]; rw [lv_osw (k := 50) (a := 50) hc66_50 rfl]; rw [lv_osw (k := 60) (a := 60) hc66_60 rfl]; rw [lv_osw (k := 70) (a := 70) hc66_70 rfl]; rw [lv_osw (k := 80) (a := 80) hc66_80 rfl]; rw [lv_osw (k := 81) (a := 81) hc66_81 rfl]; try rfl) (by decide) ?_
                                refine lv_iconst (v := 0) hx hb dX4_run_363 (by decide) ?_
                                have h := Option.some.inj h
                                subst h
                                exact retI C hH trivial dX4_run_364
    · replace h := tF hc16 h
      exact wX4_run_19 C hlev hr_X4_run h hH (lv_sub hl [] rfl)
set_option maxHeartbeats 2000000 in
set_option maxRecDepth 20000 in
theorem mgX4_run (l : Launch) {D : va_G} {ca : Nat → ClassId} {A : Nat → Prop} {ad : Nat → Nat} : ∀ n : Nat, (∀ (v1 : Int32) (v2 : Int32) (v3 : Int32) (v4 : Int32) (mm : Mm) (q : Int32 × Mm), dX4_run n v1 v2 v3 v4 mm = some q → Met l yX4_run (wsOf yX4_run cX4_run 10 (some .int)) (rmk (2 + n)) (PcX WN ad ca WS D A [.ref (ad 34), .int v1, .int v2, .int v3, .int v4] mm) (QcI WN ad ca WS D A pzT q) 0 0 A) := by
  intro n
  induction n with
  | zero => exact (fun v1 v2 v3 v4 mm q h => none_ne (show (none : Option (Int32 × Mm)) = some q from h))
  | succ n ih => exact (fun v1 v2 v3 v4 mm q h => mbX4_run l (by omega) ih h)
set_option maxHeartbeats 2000000 in
set_option maxRecDepth 20000 in
theorem mX4_run (l : Launch) {D : va_G} {ca : Nat → ClassId} {A : Nat → Prop} {ad : Nat → Nat} (n : Nat) (v1 : Int32) (v2 : Int32) (v3 : Int32) (v4 : Int32) (mm : Mm) (q : Int32 × Mm) (h : dX4_run n v1 v2 v3 v4 mm = some q) : Met l yX4_run (wsOf yX4_run cX4_run 10 (some .int)) (rmk (2 + n)) (PcX WN ad ca WS D A [.ref (ad 34), .int v1, .int v2, .int v3, .int v4] mm) (QcI WN ad ca WS D A pzT q) 0 0 A := (mgX4_run l n) v1 v2 v3 v4 mm q h
set_option maxHeartbeats 2000000 in
set_option maxRecDepth 20000 in
theorem wX4_start_22 (C : Cx D ca A p s m args meth c cX4_start RX4 4 (some .int)) {q : Int32 × Mm} {mm : Mm} (h : DX4_start_22 mm = some q) (hH : Hx WN ad ca WS D A s.heap mm H locs) (hl : lv_has ls 4 []) : W p l e (rmk 103) s m args below meth c H locs 0 0 (MQ below (QcI WN ad ca WS D A pzT q) args s 0 0 A) (F0 m 22 ls []) := by
  unfold DX4_start_22 at h
  have hx := C.1
  have hb := C.2.1
  refine lv_iconst (v := 0) hx hb dX4_start_22 (by decide) ?_
  have h := Option.some.inj h
  subst h
  exact retI C hH trivial dX4_start_23
set_option maxHeartbeats 2000000 in
set_option maxRecDepth 20000 in
theorem mX4_start (l : Launch) {D : va_G} {ca : Nat → ClassId} {A : Nat → Prop} {ad : Nat → Nat} {v1 : Int32} {v2 : Int32} {v3 : Int32} {mm : Mm} {q : Int32 × Mm} (h : dX4_start v1 v2 v3 mm = some q) : Met l yX4_start (wsOf yX4_start cX4_start 4 (some .int)) (rmk 103) (PcX WN ad ca WS D A [.ref (ad 34), .int v1, .int v2, .int v3] mm) (QcI WN ad ca WS D A pzT q) 0 0 A := by
  unfold dX4_start at h
  refine ent (by decide) (Nat.le_of_ble_eq_true rfl) (fun p e s m args below meth c hargs C hH ls hl => ?_)
  have hx := C.1
  have hb := C.2.1
  have hl : lv_has ls 4 [(0, .ref (ad 34)), (1, .int v1), (2, .int v2), (3, .int v3)] := hl
  refine lv_aload_n hx hb dX4_start_0 rfl (lv_at hl 0 rfl) ?_
  refine lv_iconst (v := 0) hx hb dX4_start_1 (by decide) ?_
  refine rpI C hH fp_RX4_33_34 rfl rfl dX4_start_2 (fun H locs hH => ?_)
  refine lv_aload_n hx hb dX4_start_5 rfl (lv_at hl 0 rfl) ?_
  refine lv_iload_n hx hb dX4_start_6 rfl (lv_at hl 1 rfl) ?_
  obtain ⟨q7, e7, h⟩ := tB h
  refine rcI C hH hl.1 (mX4_has l e7) cf_RX4_22 ro_34 (RR_of (by decide) (by decide)) rfl (rest := []) rfl (Nat.le_of_ble_eq_true rfl) dX4_start_7 ?_
  intro hz7 H locs hH
  refine lv_if_eq (tgt := 22) hx hb dX4_start_10 (by decide) (fun hc10 => ?_) (fun hc10 => ?_)
  · replace h := tT hc10 h
    exact wX4_start_22 C h hH (lv_sub hl [] rfl)
  · replace h := tF hc10 h
    refine lv_iload_n hx hb dX4_start_13 rfl (lv_at hl 2 rfl) ?_
    refine lv_if_lt (tgt := 22) hx hb dX4_start_14 (by decide) (fun hc14 => ?_) (fun hc14 => ?_)
    · replace h := tT hc14 h
      exact wX4_start_22 C h hH (lv_sub hl [] rfl)
    · replace h := tF hc14 h
      refine lv_iload_n hx hb dX4_start_17 rfl (lv_at hl 2 rfl) ?_
      refine lv_iconst (v := 4) hx hb dX4_start_18 (by decide) ?_
      refine lv_icmp_lt (tgt := 24) hx hb dX4_start_19 (by decide) (fun hc19 => ?_) (fun hc19 => ?_)
      · replace h := tT hc19 h
        refine lv_aload_n hx hb dX4_start_24 rfl (lv_at hl 0 rfl) ?_
        refine lv_iload_n hx hb dX4_start_25 rfl (lv_at hl 1 rfl) ?_
        refine rpI C hH fp_RX4_36_34 rfl rfl dX4_start_26 (fun H locs hH => ?_)
        refine lv_aload_n hx hb dX4_start_29 rfl (lv_at hl 0 rfl) ?_
        refine lv_aload_n hx hb dX4_start_30 rfl (lv_at hl 0 rfl) ?_
        refine rgS C hH fs_RX4_11_34 dX4_start_31 ?_
        refine lv_iload_n hx hb dX4_start_34 rfl (lv_at hl 1 rfl) ?_
        obtain ⟨hi35, h⟩ := tC h
        refine raI C hH (k := (Int32.toNatClampNeg v1)) (by decide) (show WS 35 = .inr (0, 50, 0) from rfl) hi35 rfl dX4_start_35 ?_
        refine lv_iload_n hx hb dX4_start_36 rfl (lv_at hl 2 rfl) ?_
        refine lv_iload_n hx hb dX4_start_37 rfl (lv_at hl 3 rfl) ?_
        refine lv_iconst (v := 0) hx hb dX4_start_38 (by decide) ?_
        obtain ⟨q39, e39, h⟩ := tB h
        refine rcI C hH hl.1 (mX4_run l 100 _ _ _ _ _ _ e39) cf_RX4_39 ro_34 (RR_of (by decide) (by decide)) rfl (rest := []) rfl (Nat.le_of_ble_eq_true rfl) dX4_start_39 ?_
        intro hz39 H locs hH
        have h := Option.some.inj h
        subst h
        exact retI C hH trivial dX4_start_42
      · replace h := tF hc19 h
        exact wX4_start_22 C h hH (lv_sub hl [] rfl)
set_option maxHeartbeats 2000000 in
set_option maxRecDepth 20000 in
theorem mX9_act (l : Launch) {D : va_G} {ca : Nat → ClassId} {A : Nat → Prop} {ad : Nat → Nat} {v1 : Int32} {v2 : Int32} {v3 : Int32} {mm : Mm} {q : Int32 × Mm} (h : dX9_act v1 v2 v3 mm = some q) : Met l yX9_act (wsOf yX9_act cX9_act 4 (some .int)) (rmk 104) (PcX WN ad ca WS D A [.ref (ad 0), .int v1, .int v2, .int v3] mm) (QcI WN ad ca WS D A pzT q) 0 0 A := by
  unfold dX9_act at h
  refine ent (by decide) (Nat.le_of_ble_eq_true rfl) (fun p e s m args below meth c hargs C hH ls hl => ?_)
  have hx := C.1
  have hb := C.2.1
  have hl : lv_has ls 4 [(0, .ref (ad 0)), (1, .int v1), (2, .int v2), (3, .int v3)] := hl
  refine lv_aload_n hx hb dX9_act_0 rfl (lv_at hl 0 rfl) ?_
  refine rgS C hH fs_RX9_56_0 dX9_act_1 ?_
  refine lv_iload_n hx hb dX9_act_4 rfl (lv_at hl 1 rfl) ?_
  refine lv_iload_n hx hb dX9_act_5 rfl (lv_at hl 2 rfl) ?_
  refine lv_iload_n hx hb dX9_act_6 rfl (lv_at hl 3 rfl) ?_
  obtain ⟨q7, e7, h⟩ := tB h
  refine rcI C hH hl.1 (mX4_start l e7) cf_RX9_286 ro_34 (RR_of (by decide) (by decide)) rfl (rest := []) rfl (Nat.le_of_ble_eq_true rfl) dX9_act_7 ?_
  intro hz7 H locs hH
  have h := Option.some.inj h
  subst h
  exact retI C hH trivial dX9_act_10
set_option maxHeartbeats 2000000 in
set_option maxRecDepth 20000 in
theorem mX10_isBody (l : Launch) {D : va_G} {ca : Nat → ClassId} {A : Nat → Prop} {ad : Nat → Nat} {v1 : Int32} {mm : Mm} {q : Int32 × Mm} (h : dX10_isBody v1 mm = some q) : Met l yX10_isBody (wsOf yX10_isBody cX10_isBody 2 (some .boolean)) (rmk 2) (PcX WN ad ca WS D A [.ref (ad 58), .int v1] mm) (QcI WN ad ca WS D A pzZ q) 0 0 A := by
  unfold dX10_isBody at h
  refine ent (by decide) (Nat.le_of_ble_eq_true rfl) (fun p e s m args below meth c hargs C hH ls hl => ?_)
  have hx := C.1
  have hb := C.2.1
  have hl : lv_has ls 2 [(0, .ref (ad 58)), (1, .int v1)] := hl
  refine lv_iload_n hx hb dX10_isBody_0 rfl (lv_at hl 1 rfl) ?_
  refine lv_i2l' hx hb dX10_isBody_1 ?_
  refine lv_lconst (v := 0) hx hb dX10_isBody_2 (by decide) ?_
  refine lv_aload_n hx hb dX10_isBody_3 rfl (lv_at hl 0 rfl) ?_
  refine rgI C hH fi_RX10_309_58 dX10_isBody_4 ?_
  refine lv_iconst (v := 1) hx hb dX10_isBody_7 (by decide) ?_
  refine lv_isub hx hb dX10_isBody_8 ?_
  refine lv_i2l' hx hb dX10_isBody_9 ?_
  obtain ⟨q10, e10, h⟩ := tB h
  refine rsI C hH hl.1 (mX10_within l e10) cs_RX10_96 (RR_of (by decide) (by decide)) rfl (rest := []) rfl (Nat.le_of_ble_eq_true rfl) dX10_isBody_10 ?_
  intro hz10 H locs hH
  have h := Option.some.inj h
  subst h
  exact retZ C hH hz10 dX10_isBody_13
set_option maxHeartbeats 2000000 in
set_option maxRecDepth 20000 in
theorem wX10_runs_19 (C : Cx D ca A p s m args meth c cX10_runs RX10 2 none) {q : Unit × Mm} {mm : Mm} (h : DX10_runs_19 mm = some q) (hH : Hx WN ad ca WS D A s.heap mm H locs) (hl : lv_has ls 2 [(0, .ref (ad 58))]) : W p l e (rmk 1) s m args below meth c H locs 0 0 (MQ below (QcV WN ad ca WS D A q) args s 0 0 A) (F0 m 19 ls []) := by
  unfold DX10_runs_19 at h
  have hx := C.1
  have hb := C.2.1
  refine lv_aload_n hx hb dX10_runs_19 rfl (lv_at hl 0 rfl) ?_
  refine lv_dup hx hb dX10_runs_20 rfl ?_
  refine rgI C hH fi_RX10_314_58 dX10_runs_21 ?_
  refine lv_iconst (v := 1) hx hb dX10_runs_24 (by decide) ?_
  refine lv_iadd hx hb dX10_runs_25 ?_
  refine rpI C hH fp_RX10_314_58 rfl rfl dX10_runs_26 (fun H locs hH => ?_)
  have h := Option.some.inj h
  subst h
  exact retV C hH dX10_runs_29
set_option maxHeartbeats 2000000 in
set_option maxRecDepth 20000 in
theorem mX10_runs (l : Launch) {D : va_G} {ca : Nat → ClassId} {A : Nat → Prop} {ad : Nat → Nat} {v1 : Int32} {mm : Mm} {q : Unit × Mm} (h : dX10_runs v1 mm = some q) : Met l yX10_runs (wsOf yX10_runs cX10_runs 2 none) (rmk 1) (PcX WN ad ca WS D A [.ref (ad 58), .int v1] mm) (QcV WN ad ca WS D A q) 0 0 A := by
  unfold dX10_runs at h
  refine ent (by decide) (Nat.le_of_ble_eq_true rfl) (fun p e s m args below meth c hargs C hH ls hl => ?_)
  have hx := C.1
  have hb := C.2.1
  have hl : lv_has ls 2 [(0, .ref (ad 58)), (1, .int v1)] := hl
  refine lv_aload_n hx hb dX10_runs_0 rfl (lv_at hl 0 rfl) ?_
  refine rgI C hH fi_RX10_314_58 dX10_runs_1 ?_
  refine lv_bipush (v := 24) hx hb dX10_runs_4 (by decide) ?_
  refine lv_icmp_ge (tgt := 19) hx hb dX10_runs_6 (by decide) (fun hc6 => ?_) (fun hc6 => ?_)
  · replace h := tT hc6 h
    exact wX10_runs_19 C h hH (lv_sub hl [0] rfl)
  · replace h := tF hc6 h
    refine lv_aload_n hx hb dX10_runs_9 rfl (lv_at hl 0 rfl) ?_
    refine rgS C hH fs_RX10_69_58 dX10_runs_10 ?_
    refine lv_aload_n hx hb dX10_runs_13 rfl (lv_at hl 0 rfl) ?_
    refine rgI C hH fi_RX10_314_58 dX10_runs_14 ?_
    refine lv_iload_n hx hb dX10_runs_17 rfl (lv_at hl 1 rfl) ?_
    obtain ⟨hi18, h⟩ := tC h
    refine rwI C hH (k := (Int32.toNatClampNeg (gI mm 58 35))) (by decide) (show WS 78 = .inr (0, 24, 0) from rfl) hi18 rfl dX10_runs_18 (fun H locs hH => ?_)
    exact wX10_runs_19 C h hH (lv_sub hl [0] rfl)
set_option maxHeartbeats 2000000 in
set_option maxRecDepth 20000 in
theorem wX10_tiesAs_16 (C : Cx D ca A p s m args meth c cX10_tiesAs RX10 3 (some .int)) {q : Int32 × Mm} {lev : Nat} (hlev : 2 ≤ lev + 1) {r_X10_tiesAs : Int32 → Int32 → Mm → Option (Int32 × Mm)} (hr_X10_tiesAs : ∀ (v1 : Int32) (v2 : Int32) (mm : Mm) (q : Int32 × Mm), r_X10_tiesAs v1 v2 mm = some q → Met l yX10_tiesAs (wsOf yX10_tiesAs cX10_tiesAs 3 (some .int)) (rmk lev) (PcX WN ad ca WS D A [.ref (ad 58), .int v1, .int v2] mm) (QcI WN ad ca WS D A pzT q) 0 0 A) {v2 : Int32} {mm : Mm} (h : DX10_tiesAs_16 r_X10_tiesAs v2 mm = some q) (hH : Hx WN ad ca WS D A s.heap mm H locs) (hl : lv_has ls 3 [(0, .ref (ad 58)), (2, .int v2)]) : W p l e (rmk (lev + 1)) s m args below meth c H locs 0 0 (MQ below (QcI WN ad ca WS D A pzT q) args s 0 0 A) (F0 m 16 ls []) := by
  unfold DX10_tiesAs_16 at h
  have hx := C.1
  have hb := C.2.1
  refine lv_aload_n hx hb dX10_tiesAs_16 rfl (lv_at hl 0 rfl) ?_
  refine lv_bipush (v := 20) hx hb dX10_tiesAs_17 (by decide) ?_
  obtain ⟨q19, e19, h⟩ := tB h
  refine rcV C hH hl.1 (mX10_runs l e19) cf_RX10_317 ro_58 (RR_of (by omega) (by decide)) rfl (rest := []) rfl (Nat.le_of_ble_eq_true rfl) dX10_tiesAs_19 ?_
  intro H locs hH
  refine lv_aload_n hx hb dX10_tiesAs_22 rfl (lv_at hl 0 rfl) ?_
  refine lv_iconst (v := 0) hx hb dX10_tiesAs_23 (by decide) ?_
  refine lv_iload_n hx hb dX10_tiesAs_24 rfl (lv_at hl 1 rfl) ?_
  obtain ⟨q25, e25, h⟩ := tB h
  refine rcI C hH hl.1 (hr_X10_tiesAs _ _ _ _ e25) cf_RX10_321 ro_58 (RR_of (by omega) (by decide)) rfl (rest := []) rfl (Nat.le_of_ble_eq_true rfl) dX10_tiesAs_25 ?_
  intro hz25 H locs hH
  refine lv_iconst (v := 3) hx hb dX10_tiesAs_28 (by decide) ?_
  refine lv_iadd hx hb dX10_tiesAs_29 ?_
  have h := Option.some.inj h
  subst h
  exact retI C hH trivial dX10_tiesAs_30
set_option maxHeartbeats 2000000 in
set_option maxRecDepth 20000 in
theorem mbX10_tiesAs (l : Launch) {D : va_G} {ca : Nat → ClassId} {A : Nat → Prop} {ad : Nat → Nat} {lev : Nat} (hlev : 2 ≤ lev + 1) {r_X10_tiesAs : Int32 → Int32 → Mm → Option (Int32 × Mm)} (hr_X10_tiesAs : ∀ (v1 : Int32) (v2 : Int32) (mm : Mm) (q : Int32 × Mm), r_X10_tiesAs v1 v2 mm = some q → Met l yX10_tiesAs (wsOf yX10_tiesAs cX10_tiesAs 3 (some .int)) (rmk lev) (PcX WN ad ca WS D A [.ref (ad 58), .int v1, .int v2] mm) (QcI WN ad ca WS D A pzT q) 0 0 A) {v1 : Int32} {v2 : Int32} {mm : Mm} {q : Int32 × Mm} (h : bX10_tiesAs r_X10_tiesAs v1 v2 mm = some q) : Met l yX10_tiesAs (wsOf yX10_tiesAs cX10_tiesAs 3 (some .int)) (rmk (lev + 1)) (PcX WN ad ca WS D A [.ref (ad 58), .int v1, .int v2] mm) (QcI WN ad ca WS D A pzT q) 0 0 A := by
  unfold bX10_tiesAs at h
  refine ent (by decide) (Nat.le_of_ble_eq_true rfl) (fun p e s m args below meth c hargs C hH ls hl => ?_)
  have hx := C.1
  have hb := C.2.1
  have hl : lv_has ls 3 [(0, .ref (ad 58)), (1, .int v1), (2, .int v2)] := hl
  refine lv_iload_n hx hb dX10_tiesAs_0 rfl (lv_at hl 1 rfl) ?_
  refine lv_iconst (v := 1) hx hb dX10_tiesAs_1 (by decide) ?_
  refine lv_icmp_eq (tgt := 16) hx hb dX10_tiesAs_2 (by decide) (fun hc2 => ?_) (fun hc2 => ?_)
  · replace h := tT hc2 h
    exact wX10_tiesAs_16 C hlev hr_X10_tiesAs h hH (lv_sub hl [0, 2] rfl)
  · replace h := tF hc2 h
    refine lv_iload_n hx hb dX10_tiesAs_5 rfl (lv_at hl 1 rfl) ?_
    refine lv_iconst (v := 4) hx hb dX10_tiesAs_6 (by decide) ?_
    refine lv_icmp_eq (tgt := 16) hx hb dX10_tiesAs_7 (by decide) (fun hc7 => ?_) (fun hc7 => ?_)
    · replace h := tT hc7 h
      exact wX10_tiesAs_16 C hlev hr_X10_tiesAs h hH (lv_sub hl [0, 2] rfl)
    · replace h := tF hc7 h
      refine lv_iload_n hx hb dX10_tiesAs_10 rfl (lv_at hl 1 rfl) ?_
      refine lv_bipush (v := 7) hx hb dX10_tiesAs_11 (by decide) ?_
      refine lv_icmp_ne (tgt := 31) hx hb dX10_tiesAs_13 (by decide) (fun hc13 => ?_) (fun hc13 => ?_)
      · replace h := tF hc13 h
        refine lv_iload_n hx hb dX10_tiesAs_31 rfl (lv_at hl 1 rfl) ?_
        refine lv_bipush (v := 6) hx hb dX10_tiesAs_32 (by decide) ?_
        refine lv_icmp_ne (tgt := 52) hx hb dX10_tiesAs_34 (by decide) (fun hc34 => ?_) (fun hc34 => ?_)
        · replace h := tF hc34 h
          refine lv_aload_n hx hb dX10_tiesAs_52 rfl (lv_at hl 0 rfl) ?_
          refine lv_iconst (v := 1) hx hb dX10_tiesAs_53 (by decide) ?_
          obtain ⟨q54, e54, h⟩ := tB h
          refine rcV C hH hl.1 (mX10_runs l e54) cf_RX10_317 ro_58 (RR_of (by omega) (by decide)) rfl (rest := []) rfl (Nat.le_of_ble_eq_true rfl) dX10_tiesAs_54 ?_
          intro H locs hH
          refine lv_iload_n hx hb dX10_tiesAs_57 rfl (lv_at hl 2 rfl) ?_
          refine lv_aload_n hx hb dX10_tiesAs_58 rfl (lv_at hl 0 rfl) ?_
          refine rgI C hH fi_RX10_324_58 dX10_tiesAs_59 ?_
          refine lv_iadd hx hb dX10_tiesAs_62 ?_
          have h := Option.some.inj h
          subst h
          exact retI C hH trivial dX10_tiesAs_63
        · replace h := tT hc34 h
          refine lv_aload_n hx hb dX10_tiesAs_37 rfl (lv_at hl 0 rfl) ?_
          refine lv_bipush (v := 70) hx hb dX10_tiesAs_38 (by decide) ?_
          obtain ⟨q40, e40, h⟩ := tB h
          refine rcV C hH hl.1 (mX10_runs l e40) cf_RX10_317 ro_58 (RR_of (by omega) (by decide)) rfl (rest := []) rfl (Nat.le_of_ble_eq_true rfl) dX10_tiesAs_40 ?_
          intro H locs hH
          refine lv_aload_n hx hb dX10_tiesAs_43 rfl (lv_at hl 0 rfl) ?_
          refine lv_iconst (v := 0) hx hb dX10_tiesAs_44 (by decide) ?_
          refine lv_iload_n hx hb dX10_tiesAs_45 rfl (lv_at hl 2 rfl) ?_
          obtain ⟨q46, e46, h⟩ := tB h
          refine rcI C hH hl.1 (hr_X10_tiesAs _ _ _ _ e46) cf_RX10_321 ro_58 (RR_of (by omega) (by decide)) rfl (rest := []) rfl (Nat.le_of_ble_eq_true rfl) dX10_tiesAs_46 ?_
          intro hz46 H locs hH
          refine lv_iconst (v := 2) hx hb dX10_tiesAs_49 (by decide) ?_
          refine lv_imul hx hb dX10_tiesAs_50 ?_
          have h := Option.some.inj h
          subst h
          exact retI C hH trivial dX10_tiesAs_51
      · replace h := tT hc13 h
        exact wX10_tiesAs_16 C hlev hr_X10_tiesAs h hH (lv_sub hl [0, 2] rfl)
set_option maxHeartbeats 2000000 in
set_option maxRecDepth 20000 in
theorem mgX10_tiesAs (l : Launch) {D : va_G} {ca : Nat → ClassId} {A : Nat → Prop} {ad : Nat → Nat} : ∀ n : Nat, (∀ (v1 : Int32) (v2 : Int32) (mm : Mm) (q : Int32 × Mm), dX10_tiesAs n v1 v2 mm = some q → Met l yX10_tiesAs (wsOf yX10_tiesAs cX10_tiesAs 3 (some .int)) (rmk (2 + n)) (PcX WN ad ca WS D A [.ref (ad 58), .int v1, .int v2] mm) (QcI WN ad ca WS D A pzT q) 0 0 A) := by
  intro n
  induction n with
  | zero => exact (fun v1 v2 mm q h => none_ne (show (none : Option (Int32 × Mm)) = some q from h))
  | succ n ih => exact (fun v1 v2 mm q h => mbX10_tiesAs l (by omega) ih h)
set_option maxHeartbeats 2000000 in
set_option maxRecDepth 20000 in
theorem mX10_tiesAs (l : Launch) {D : va_G} {ca : Nat → ClassId} {A : Nat → Prop} {ad : Nat → Nat} (n : Nat) (v1 : Int32) (v2 : Int32) (mm : Mm) (q : Int32 × Mm) (h : dX10_tiesAs n v1 v2 mm = some q) : Met l yX10_tiesAs (wsOf yX10_tiesAs cX10_tiesAs 3 (some .int)) (rmk (2 + n)) (PcX WN ad ca WS D A [.ref (ad 58), .int v1, .int v2] mm) (QcI WN ad ca WS D A pzT q) 0 0 A := (mgX10_tiesAs l n) v1 v2 mm q h
set_option maxHeartbeats 2000000 in
set_option maxRecDepth 20000 in
theorem wX10_shakesAs_10 (C : Cx D ca A p s m args meth c cX10_shakesAs RX10 4 (some .int)) {q : Int32 × Mm} {lev : Nat} (hlev : 103 ≤ lev + 1) {r_X10_shakesAs : Int32 → Int32 → Mm → Option (Int32 × Mm)} (hr_X10_shakesAs : ∀ (v1 : Int32) (v2 : Int32) (mm : Mm) (q : Int32 × Mm), r_X10_shakesAs v1 v2 mm = some q → Met l yX10_shakesAs (wsOf yX10_shakesAs cX10_shakesAs 4 (some .int)) (rmk lev) (PcX WN ad ca WS D A [.ref (ad 58), .int v1, .int v2] mm) (QcI WN ad ca WS D A pzT q) 0 0 A) {v2 : Int32} {mm : Mm} (h : DX10_shakesAs_10 r_X10_shakesAs v2 mm = some q) (hH : Hx WN ad ca WS D A s.heap mm H locs) (hl : lv_has ls 4 [(0, .ref (ad 58)), (2, .int v2)]) : W p l e (rmk (lev + 1)) s m args below meth c H locs 0 0 (MQ below (QcI WN ad ca WS D A pzT q) args s 0 0 A) (F0 m 10 ls []) := by
  unfold DX10_shakesAs_10 at h
  have hx := C.1
  have hb := C.2.1
  refine lv_aload_n hx hb dX10_shakesAs_10 rfl (lv_at hl 0 rfl) ?_
  refine lv_bipush (v := 40) hx hb dX10_shakesAs_11 (by decide) ?_
  obtain ⟨q13, e13, h⟩ := tB h
  refine rcV C hH hl.1 (mX10_runs l e13) cf_RX10_317 ro_58 (RR_of (by omega) (by decide)) rfl (rest := []) rfl (Nat.le_of_ble_eq_true rfl) dX10_shakesAs_13 ?_
  intro H locs hH
  refine lv_aload_n hx hb dX10_shakesAs_16 rfl (lv_at hl 0 rfl) ?_
  refine lv_iconst (v := 2) hx hb dX10_shakesAs_17 (by decide) ?_
  refine lv_iload_n hx hb dX10_shakesAs_18 rfl (lv_at hl 1 rfl) ?_
  obtain ⟨q19, e19, h⟩ := tB h
  refine rcI C hH hl.1 (hr_X10_shakesAs _ _ _ _ e19) cf_RX10_333 ro_58 (RR_of (by omega) (by decide)) rfl (rest := []) rfl (Nat.le_of_ble_eq_true rfl) dX10_shakesAs_19 ?_
  intro hz19 H locs hH
  refine lv_iconst (v := 3) hx hb dX10_shakesAs_22 (by decide) ?_
  refine lv_imul hx hb dX10_shakesAs_23 ?_
  have h := Option.some.inj h
  subst h
  exact retI C hH trivial dX10_shakesAs_24
set_option maxHeartbeats 2000000 in
set_option maxRecDepth 20000 in
theorem wX10_shakesAs_36 (C : Cx D ca A p s m args meth c cX10_shakesAs RX10 4 (some .int)) {q : Int32 × Mm} {lev : Nat} (hlev : 103 ≤ lev + 1) {r_X10_shakesAs : Int32 → Int32 → Mm → Option (Int32 × Mm)} (hr_X10_shakesAs : ∀ (v1 : Int32) (v2 : Int32) (mm : Mm) (q : Int32 × Mm), r_X10_shakesAs v1 v2 mm = some q → Met l yX10_shakesAs (wsOf yX10_shakesAs cX10_shakesAs 4 (some .int)) (rmk lev) (PcX WN ad ca WS D A [.ref (ad 58), .int v1, .int v2] mm) (QcI WN ad ca WS D A pzT q) 0 0 A) {v2 : Int32} {mm : Mm} (h : DX10_shakesAs_36 r_X10_shakesAs v2 mm = some q) (hH : Hx WN ad ca WS D A s.heap mm H locs) (hl : lv_has ls 4 [(0, .ref (ad 58)), (2, .int v2)]) : W p l e (rmk (lev + 1)) s m args below meth c H locs 0 0 (MQ below (QcI WN ad ca WS D A pzT q) args s 0 0 A) (F0 m 36 ls []) := by
  unfold DX10_shakesAs_36 at h
  have hx := C.1
  have hb := C.2.1
  refine lv_aload_n hx hb dX10_shakesAs_36 rfl (lv_at hl 0 rfl) ?_
  refine lv_bipush (v := 50) hx hb dX10_shakesAs_37 (by decide) ?_
  obtain ⟨q39, e39, h⟩ := tB h
  refine rcV C hH hl.1 (mX10_runs l e39) cf_RX10_317 ro_58 (RR_of (by omega) (by decide)) rfl (rest := []) rfl (Nat.le_of_ble_eq_true rfl) dX10_shakesAs_39 ?_
  intro H locs hH
  refine lv_aload_n hx hb dX10_shakesAs_42 rfl (lv_at hl 0 rfl) ?_
  refine lv_iconst (v := 1) hx hb dX10_shakesAs_43 (by decide) ?_
  refine lv_iload_n hx hb dX10_shakesAs_44 rfl (lv_at hl 1 rfl) ?_
  obtain ⟨q45, e45, h⟩ := tB h
  refine rcI C hH hl.1 (hr_X10_shakesAs _ _ _ _ e45) cf_RX10_333 ro_58 (RR_of (by omega) (by decide)) rfl (rest := []) rfl (Nat.le_of_ble_eq_true rfl) dX10_shakesAs_45 ?_
  intro hz45 H locs hH
  refine lv_istore_n (lv' := [(3, .int q45.1), (0, .ref (ad 58)), (2, .int v2)]) hx hb dX10_shakesAs_48 rfl hl (by decide) rfl (fun ls hl => ?_)
  refine lv_iload_n hx hb dX10_shakesAs_49 rfl (lv_at hl 0 rfl) ?_
  refine lv_aload_n hx hb dX10_shakesAs_50 rfl (lv_at hl 1 rfl) ?_
  refine lv_aload_n hx hb dX10_shakesAs_51 rfl (lv_at hl 1 rfl) ?_
  refine rgI C hH fi_RX10_330_58 dX10_shakesAs_52 ?_
  refine lv_iconst (v := 2) hx hb dX10_shakesAs_55 (by decide) ?_
  obtain ⟨q56, e56, h⟩ := tB h
  refine rcI C hH hl.1 (mX10_tiesAs l 100 _ _ _ _ e56) cf_RX10_321 ro_58 (RR_of (by omega) (by decide)) rfl (rest := [.int q45.1]) rfl (Nat.le_of_ble_eq_true rfl) dX10_shakesAs_56 ?_
  intro hz56 H locs hH
  refine lv_isub hx hb dX10_shakesAs_59 ?_
  have h := Option.some.inj h
  subst h
  exact retI C hH trivial dX10_shakesAs_60
set_option maxHeartbeats 2000000 in
set_option maxRecDepth 20000 in
theorem mbX10_shakesAs (l : Launch) {D : va_G} {ca : Nat → ClassId} {A : Nat → Prop} {ad : Nat → Nat} {lev : Nat} (hlev : 103 ≤ lev + 1) {r_X10_shakesAs : Int32 → Int32 → Mm → Option (Int32 × Mm)} (hr_X10_shakesAs : ∀ (v1 : Int32) (v2 : Int32) (mm : Mm) (q : Int32 × Mm), r_X10_shakesAs v1 v2 mm = some q → Met l yX10_shakesAs (wsOf yX10_shakesAs cX10_shakesAs 4 (some .int)) (rmk lev) (PcX WN ad ca WS D A [.ref (ad 58), .int v1, .int v2] mm) (QcI WN ad ca WS D A pzT q) 0 0 A) {v1 : Int32} {v2 : Int32} {mm : Mm} {q : Int32 × Mm} (h : bX10_shakesAs r_X10_shakesAs v1 v2 mm = some q) : Met l yX10_shakesAs (wsOf yX10_shakesAs cX10_shakesAs 4 (some .int)) (rmk (lev + 1)) (PcX WN ad ca WS D A [.ref (ad 58), .int v1, .int v2] mm) (QcI WN ad ca WS D A pzT q) 0 0 A := by
  unfold bX10_shakesAs at h
  refine ent (by decide) (Nat.le_of_ble_eq_true rfl) (fun p e s m args below meth c hargs C hH ls hl => ?_)
  have hx := C.1
  have hb := C.2.1
  have hl : lv_has ls 4 [(0, .ref (ad 58)), (1, .int v1), (2, .int v2)] := hl
  refine lv_iload_n hx hb dX10_shakesAs_0 rfl (lv_at hl 1 rfl) ?_
  refine lv_iconst (v := 3) hx hb dX10_shakesAs_1 (by decide) ?_
  refine lv_icmp_eq (tgt := 10) hx hb dX10_shakesAs_2 (by decide) (fun hc2 => ?_) (fun hc2 => ?_)
  · replace h := tT hc2 h
    exact wX10_shakesAs_10 C hlev hr_X10_shakesAs h hH (lv_sub hl [0, 2] rfl)
  · replace h := tF hc2 h
    refine lv_iload_n hx hb dX10_shakesAs_5 rfl (lv_at hl 1 rfl) ?_
    refine lv_iconst (v := 5) hx hb dX10_shakesAs_6 (by decide) ?_
    refine lv_icmp_ne (tgt := 25) hx hb dX10_shakesAs_7 (by decide) (fun hc7 => ?_) (fun hc7 => ?_)
    · replace h := tF hc7 h
      refine lv_iload_n hx hb dX10_shakesAs_25 rfl (lv_at hl 1 rfl) ?_
      refine lv_iconst (v := 4) hx hb dX10_shakesAs_26 (by decide) ?_
      refine lv_icmp_eq (tgt := 36) hx hb dX10_shakesAs_27 (by decide) (fun hc27 => ?_) (fun hc27 => ?_)
      · replace h := tT hc27 h
        exact wX10_shakesAs_36 C hlev hr_X10_shakesAs h hH (lv_sub hl [0, 2] rfl)
      · replace h := tF hc27 h
        refine lv_iload_n hx hb dX10_shakesAs_30 rfl (lv_at hl 1 rfl) ?_
        refine lv_bipush (v := 7) hx hb dX10_shakesAs_31 (by decide) ?_
        refine lv_icmp_ne (tgt := 61) hx hb dX10_shakesAs_33 (by decide) (fun hc33 => ?_) (fun hc33 => ?_)
        · replace h := tF hc33 h
          refine lv_aload_n hx hb dX10_shakesAs_61 rfl (lv_at hl 0 rfl) ?_
          refine lv_bipush (v := 11) hx hb dX10_shakesAs_62 (by decide) ?_
          obtain ⟨q64, e64, h⟩ := tB h
          refine rcV C hH hl.1 (mX10_runs l e64) cf_RX10_317 ro_58 (RR_of (by omega) (by decide)) rfl (rest := []) rfl (Nat.le_of_ble_eq_true rfl) dX10_shakesAs_64 ?_
          intro H locs hH
          refine lv_iload_n hx hb dX10_shakesAs_67 rfl (lv_at hl 2 rfl) ?_
          refine lv_aload_n hx hb dX10_shakesAs_68 rfl (lv_at hl 0 rfl) ?_
          refine rgI C hH fi_RX10_324_58 dX10_shakesAs_69 ?_
          refine lv_ixor hx hb dX10_shakesAs_72 ?_
          have h := Option.some.inj h
          subst h
          exact retI C hH trivial dX10_shakesAs_73
        · replace h := tT hc33 h
          exact wX10_shakesAs_36 C hlev hr_X10_shakesAs h hH (lv_sub hl [0, 2] rfl)
    · replace h := tT hc7 h
      exact wX10_shakesAs_10 C hlev hr_X10_shakesAs h hH (lv_sub hl [0, 2] rfl)
set_option maxHeartbeats 2000000 in
set_option maxRecDepth 20000 in
theorem mgX10_shakesAs (l : Launch) {D : va_G} {ca : Nat → ClassId} {A : Nat → Prop} {ad : Nat → Nat} : ∀ n : Nat, (∀ (v1 : Int32) (v2 : Int32) (mm : Mm) (q : Int32 × Mm), dX10_shakesAs n v1 v2 mm = some q → Met l yX10_shakesAs (wsOf yX10_shakesAs cX10_shakesAs 4 (some .int)) (rmk (103 + n)) (PcX WN ad ca WS D A [.ref (ad 58), .int v1, .int v2] mm) (QcI WN ad ca WS D A pzT q) 0 0 A) := by
  intro n
  induction n with
  | zero => exact (fun v1 v2 mm q h => none_ne (show (none : Option (Int32 × Mm)) = some q from h))
  | succ n ih => exact (fun v1 v2 mm q h => mbX10_shakesAs l (by omega) ih h)
set_option maxHeartbeats 2000000 in
set_option maxRecDepth 20000 in
theorem mX10_shakesAs (l : Launch) {D : va_G} {ca : Nat → ClassId} {A : Nat → Prop} {ad : Nat → Nat} (n : Nat) (v1 : Int32) (v2 : Int32) (mm : Mm) (q : Int32 × Mm) (h : dX10_shakesAs n v1 v2 mm = some q) : Met l yX10_shakesAs (wsOf yX10_shakesAs cX10_shakesAs 4 (some .int)) (rmk (103 + n)) (PcX WN ad ca WS D A [.ref (ad 58), .int v1, .int v2] mm) (QcI WN ad ca WS D A pzT q) 0 0 A := (mgX10_shakesAs l n) v1 v2 mm q h
set_option maxHeartbeats 2000000 in
set_option maxRecDepth 20000 in
theorem wX10_sellsAs_10 (C : Cx D ca A p s m args meth c cX10_sellsAs RX10 4 (some .int)) {q : Int32 × Mm} {lev : Nat} (hlev : 204 ≤ lev + 1) {r_X10_sellsAs : Int32 → Int32 → Mm → Option (Int32 × Mm)} (hr_X10_sellsAs : ∀ (v1 : Int32) (v2 : Int32) (mm : Mm) (q : Int32 × Mm), r_X10_sellsAs v1 v2 mm = some q → Met l yX10_sellsAs (wsOf yX10_sellsAs cX10_sellsAs 4 (some .int)) (rmk lev) (PcX WN ad ca WS D A [.ref (ad 58), .int v1, .int v2] mm) (QcI WN ad ca WS D A pzT q) 0 0 A) {v2 : Int32} {mm : Mm} (h : DX10_sellsAs_10 r_X10_sellsAs v2 mm = some q) (hH : Hx WN ad ca WS D A s.heap mm H locs) (hl : lv_has ls 4 [(0, .ref (ad 58)), (2, .int v2)]) : W p l e (rmk (lev + 1)) s m args below meth c H locs 0 0 (MQ below (QcI WN ad ca WS D A pzT q) args s 0 0 A) (F0 m 10 ls []) := by
  unfold DX10_sellsAs_10 at h
  have hx := C.1
  have hb := C.2.1
  refine lv_aload_n hx hb dX10_sellsAs_10 rfl (lv_at hl 0 rfl) ?_
  refine lv_bipush (v := 41) hx hb dX10_sellsAs_11 (by decide) ?_
  obtain ⟨q13, e13, h⟩ := tB h
  refine rcV C hH hl.1 (mX10_runs l e13) cf_RX10_317 ro_58 (RR_of (by omega) (by decide)) rfl (rest := []) rfl (Nat.le_of_ble_eq_true rfl) dX10_sellsAs_13 ?_
  intro H locs hH
  refine lv_aload_n hx hb dX10_sellsAs_16 rfl (lv_at hl 0 rfl) ?_
  refine lv_iconst (v := 2) hx hb dX10_sellsAs_17 (by decide) ?_
  refine lv_iload_n hx hb dX10_sellsAs_18 rfl (lv_at hl 1 rfl) ?_
  refine lv_iconst (v := 1) hx hb dX10_sellsAs_19 (by decide) ?_
  refine lv_iadd hx hb dX10_sellsAs_20 ?_
  obtain ⟨q21, e21, h⟩ := tB h
  refine rcI C hH hl.1 (hr_X10_sellsAs _ _ _ _ e21) cf_RX10_327 ro_58 (RR_of (by omega) (by decide)) rfl (rest := []) rfl (Nat.le_of_ble_eq_true rfl) dX10_sellsAs_21 ?_
  intro hz21 H locs hH
  have h := Option.some.inj h
  subst h
  exact retI C hH trivial dX10_sellsAs_24
set_option maxHeartbeats 2000000 in
set_option maxRecDepth 20000 in
theorem mbX10_sellsAs (l : Launch) {D : va_G} {ca : Nat → ClassId} {A : Nat → Prop} {ad : Nat → Nat} {lev : Nat} (hlev : 204 ≤ lev + 1) {r_X10_sellsAs : Int32 → Int32 → Mm → Option (Int32 × Mm)} (hr_X10_sellsAs : ∀ (v1 : Int32) (v2 : Int32) (mm : Mm) (q : Int32 × Mm), r_X10_sellsAs v1 v2 mm = some q → Met l yX10_sellsAs (wsOf yX10_sellsAs cX10_sellsAs 4 (some .int)) (rmk lev) (PcX WN ad ca WS D A [.ref (ad 58), .int v1, .int v2] mm) (QcI WN ad ca WS D A pzT q) 0 0 A) {v1 : Int32} {v2 : Int32} {mm : Mm} {q : Int32 × Mm} (h : bX10_sellsAs r_X10_sellsAs v1 v2 mm = some q) : Met l yX10_sellsAs (wsOf yX10_sellsAs cX10_sellsAs 4 (some .int)) (rmk (lev + 1)) (PcX WN ad ca WS D A [.ref (ad 58), .int v1, .int v2] mm) (QcI WN ad ca WS D A pzT q) 0 0 A := by
  unfold bX10_sellsAs at h
  refine ent (by decide) (Nat.le_of_ble_eq_true rfl) (fun p e s m args below meth c hargs C hH ls hl => ?_)
  have hx := C.1
  have hb := C.2.1
  have hl : lv_has ls 4 [(0, .ref (ad 58)), (1, .int v1), (2, .int v2)] := hl
  refine lv_iload_n hx hb dX10_sellsAs_0 rfl (lv_at hl 1 rfl) ?_
  refine lv_iconst (v := 3) hx hb dX10_sellsAs_1 (by decide) ?_
  refine lv_icmp_eq (tgt := 10) hx hb dX10_sellsAs_2 (by decide) (fun hc2 => ?_) (fun hc2 => ?_)
  · replace h := tT hc2 h
    exact wX10_sellsAs_10 C hlev hr_X10_sellsAs h hH (lv_sub hl [0, 2] rfl)
  · replace h := tF hc2 h
    refine lv_iload_n hx hb dX10_sellsAs_5 rfl (lv_at hl 1 rfl) ?_
    refine lv_iconst (v := 5) hx hb dX10_sellsAs_6 (by decide) ?_
    refine lv_icmp_ne (tgt := 25) hx hb dX10_sellsAs_7 (by decide) (fun hc7 => ?_) (fun hc7 => ?_)
    · replace h := tF hc7 h
      refine lv_iload_n hx hb dX10_sellsAs_25 rfl (lv_at hl 1 rfl) ?_
      refine lv_iconst (v := 2) hx hb dX10_sellsAs_26 (by decide) ?_
      refine lv_icmp_ne (tgt := 44) hx hb dX10_sellsAs_27 (by decide) (fun hc27 => ?_) (fun hc27 => ?_)
      · replace h := tF hc27 h
        refine lv_iload_n hx hb dX10_sellsAs_44 rfl (lv_at hl 1 rfl) ?_
        refine lv_bipush (v := 7) hx hb dX10_sellsAs_45 (by decide) ?_
        refine lv_icmp_ne (tgt := 75) hx hb dX10_sellsAs_47 (by decide) (fun hc47 => ?_) (fun hc47 => ?_)
        · replace h := tF hc47 h
          refine lv_aload_n hx hb dX10_sellsAs_75 rfl (lv_at hl 0 rfl) ?_
          refine lv_bipush (v := 10) hx hb dX10_sellsAs_76 (by decide) ?_
          obtain ⟨q78, e78, h⟩ := tB h
          refine rcV C hH hl.1 (mX10_runs l e78) cf_RX10_317 ro_58 (RR_of (by omega) (by decide)) rfl (rest := []) rfl (Nat.le_of_ble_eq_true rfl) dX10_sellsAs_78 ?_
          intro H locs hH
          refine lv_aload_n hx hb dX10_sellsAs_81 rfl (lv_at hl 0 rfl) ?_
          refine lv_aload_n hx hb dX10_sellsAs_82 rfl (lv_at hl 0 rfl) ?_
          refine rgI C hH fi_RX10_330_58 dX10_sellsAs_83 ?_
          refine lv_iload_n hx hb dX10_sellsAs_86 rfl (lv_at hl 2 rfl) ?_
          obtain ⟨q87, e87, h⟩ := tB h
          refine rcI C hH hl.1 (mX10_tiesAs l 100 _ _ _ _ e87) cf_RX10_321 ro_58 (RR_of (by omega) (by decide)) rfl (rest := []) rfl (Nat.le_of_ble_eq_true rfl) dX10_sellsAs_87 ?_
          intro hz87 H locs hH
          refine lv_iconst (v := 2) hx hb dX10_sellsAs_90 (by decide) ?_
          refine lv_imul hx hb dX10_sellsAs_91 ?_
          have h := Option.some.inj h
          subst h
          exact retI C hH trivial dX10_sellsAs_92
        · replace h := tT hc47 h
          refine lv_aload_n hx hb dX10_sellsAs_50 rfl (lv_at hl 0 rfl) ?_
          refine lv_bipush (v := 80) hx hb dX10_sellsAs_51 (by decide) ?_
          obtain ⟨q53, e53, h⟩ := tB h
          refine rcV C hH hl.1 (mX10_runs l e53) cf_RX10_317 ro_58 (RR_of (by omega) (by decide)) rfl (rest := []) rfl (Nat.le_of_ble_eq_true rfl) dX10_sellsAs_53 ?_
          intro H locs hH
          refine lv_aload_n hx hb dX10_sellsAs_56 rfl (lv_at hl 0 rfl) ?_
          refine lv_iconst (v := 4) hx hb dX10_sellsAs_57 (by decide) ?_
          refine lv_iload_n hx hb dX10_sellsAs_58 rfl (lv_at hl 2 rfl) ?_
          obtain ⟨q59, e59, h⟩ := tB h
          refine rcI C hH hl.1 (hr_X10_sellsAs _ _ _ _ e59) cf_RX10_327 ro_58 (RR_of (by omega) (by decide)) rfl (rest := []) rfl (Nat.le_of_ble_eq_true rfl) dX10_sellsAs_59 ?_
          intro hz59 H locs hH
          refine lv_istore_n (lv' := [(3, .int q59.1), (0, .ref (ad 58)), (1, .int v1), (2, .int v2)]) hx hb dX10_sellsAs_62 rfl hl (by decide) rfl (fun ls hl => ?_)
          refine lv_iload_n hx hb dX10_sellsAs_63 rfl (lv_at hl 0 rfl) ?_
          refine lv_aload_n hx hb dX10_sellsAs_64 rfl (lv_at hl 1 rfl) ?_
          refine lv_aload_n hx hb dX10_sellsAs_65 rfl (lv_at hl 1 rfl) ?_
          refine rgI C hH fi_RX10_330_58 dX10_sellsAs_66 ?_
          refine lv_iconst (v := 2) hx hb dX10_sellsAs_69 (by decide) ?_
          obtain ⟨q70, e70, h⟩ := tB h
          refine rcI C hH hl.1 (mX10_shakesAs l 100 _ _ _ _ e70) cf_RX10_333 ro_58 (RR_of (by omega) (by decide)) rfl (rest := [.int q59.1]) rfl (Nat.le_of_ble_eq_true rfl) dX10_sellsAs_70 ?_
          intro hz70 H locs hH
          refine lv_iadd hx hb dX10_sellsAs_73 ?_
          have h := Option.some.inj h
          subst h
          exact retI C hH trivial dX10_sellsAs_74
      · replace h := tT hc27 h
        refine lv_aload_n hx hb dX10_sellsAs_30 rfl (lv_at hl 0 rfl) ?_
        refine lv_bipush (v := 30) hx hb dX10_sellsAs_31 (by decide) ?_
        obtain ⟨q33, e33, h⟩ := tB h
        refine rcV C hH hl.1 (mX10_runs l e33) cf_RX10_317 ro_58 (RR_of (by omega) (by decide)) rfl (rest := []) rfl (Nat.le_of_ble_eq_true rfl) dX10_sellsAs_33 ?_
        intro H locs hH
        refine lv_aload_n hx hb dX10_sellsAs_36 rfl (lv_at hl 0 rfl) ?_
        refine lv_iconst (v := 0) hx hb dX10_sellsAs_37 (by decide) ?_
        refine lv_iload_n hx hb dX10_sellsAs_38 rfl (lv_at hl 2 rfl) ?_
        obtain ⟨q39, e39, h⟩ := tB h
        refine rcI C hH hl.1 (hr_X10_sellsAs _ _ _ _ e39) cf_RX10_327 ro_58 (RR_of (by omega) (by decide)) rfl (rest := []) rfl (Nat.le_of_ble_eq_true rfl) dX10_sellsAs_39 ?_
        intro hz39 H locs hH
        refine lv_ineg hx hb dX10_sellsAs_42 ?_
        have h := Option.some.inj h
        subst h
        exact retI C hH trivial dX10_sellsAs_43
    · replace h := tT hc7 h
      exact wX10_sellsAs_10 C hlev hr_X10_sellsAs h hH (lv_sub hl [0, 2] rfl)
set_option maxHeartbeats 2000000 in
set_option maxRecDepth 20000 in
theorem mgX10_sellsAs (l : Launch) {D : va_G} {ca : Nat → ClassId} {A : Nat → Prop} {ad : Nat → Nat} : ∀ n : Nat, (∀ (v1 : Int32) (v2 : Int32) (mm : Mm) (q : Int32 × Mm), dX10_sellsAs n v1 v2 mm = some q → Met l yX10_sellsAs (wsOf yX10_sellsAs cX10_sellsAs 4 (some .int)) (rmk (204 + n)) (PcX WN ad ca WS D A [.ref (ad 58), .int v1, .int v2] mm) (QcI WN ad ca WS D A pzT q) 0 0 A) := by
  intro n
  induction n with
  | zero => exact (fun v1 v2 mm q h => none_ne (show (none : Option (Int32 × Mm)) = some q from h))
  | succ n ih => exact (fun v1 v2 mm q h => mbX10_sellsAs l (by omega) ih h)
set_option maxHeartbeats 2000000 in
set_option maxRecDepth 20000 in
theorem mX10_sellsAs (l : Launch) {D : va_G} {ca : Nat → ClassId} {A : Nat → Prop} {ad : Nat → Nat} (n : Nat) (v1 : Int32) (v2 : Int32) (mm : Mm) (q : Int32 × Mm) (h : dX10_sellsAs n v1 v2 mm = some q) : Met l yX10_sellsAs (wsOf yX10_sellsAs cX10_sellsAs 4 (some .int)) (rmk (204 + n)) (PcX WN ad ca WS D A [.ref (ad 58), .int v1, .int v2] mm) (QcI WN ad ca WS D A pzT q) 0 0 A := (mgX10_sellsAs l n) v1 v2 mm q h
set_option maxHeartbeats 2000000 in
set_option maxRecDepth 20000 in
theorem mbX10_tellsAs (l : Launch) {D : va_G} {ca : Nat → ClassId} {A : Nat → Prop} {ad : Nat → Nat} {lev : Nat} (hlev : 305 ≤ lev + 1) {r_X10_tellsAs : Int32 → Int32 → Mm → Option (Int32 × Mm)} (hr_X10_tellsAs : ∀ (v1 : Int32) (v2 : Int32) (mm : Mm) (q : Int32 × Mm), r_X10_tellsAs v1 v2 mm = some q → Met l yX10_tellsAs (wsOf yX10_tellsAs cX10_tellsAs 4 (some .int)) (rmk lev) (PcX WN ad ca WS D A [.ref (ad 58), .int v1, .int v2] mm) (QcI WN ad ca WS D A pzT q) 0 0 A) {v1 : Int32} {v2 : Int32} {mm : Mm} {q : Int32 × Mm} (h : bX10_tellsAs r_X10_tellsAs v1 v2 mm = some q) : Met l yX10_tellsAs (wsOf yX10_tellsAs cX10_tellsAs 4 (some .int)) (rmk (lev + 1)) (PcX WN ad ca WS D A [.ref (ad 58), .int v1, .int v2] mm) (QcI WN ad ca WS D A pzT q) 0 0 A := by
  unfold bX10_tellsAs at h
  refine ent (by decide) (Nat.le_of_ble_eq_true rfl) (fun p e s m args below meth c hargs C hH ls hl => ?_)
  have hx := C.1
  have hb := C.2.1
  have hl : lv_has ls 4 [(0, .ref (ad 58)), (1, .int v1), (2, .int v2)] := hl
  refine lv_iload_n hx hb dX10_tellsAs_0 rfl (lv_at hl 1 rfl) ?_
  refine lv_iconst (v := 5) hx hb dX10_tellsAs_1 (by decide) ?_
  refine lv_icmp_ne (tgt := 20) hx hb dX10_tellsAs_2 (by decide) (fun hc2 => ?_) (fun hc2 => ?_)
  · replace h := tF hc2 h
    refine lv_iload_n hx hb dX10_tellsAs_20 rfl (lv_at hl 1 rfl) ?_
    refine lv_bipush (v := 7) hx hb dX10_tellsAs_21 (by decide) ?_
    refine lv_icmp_ne (tgt := 41) hx hb dX10_tellsAs_23 (by decide) (fun hc23 => ?_) (fun hc23 => ?_)
    · replace h := tF hc23 h
      refine lv_aload_n hx hb dX10_tellsAs_41 rfl (lv_at hl 0 rfl) ?_
      refine lv_iconst (v := 2) hx hb dX10_tellsAs_42 (by decide) ?_
      obtain ⟨q43, e43, h⟩ := tB h
      refine rcV C hH hl.1 (mX10_runs l e43) cf_RX10_317 ro_58 (RR_of (by omega) (by decide)) rfl (rest := []) rfl (Nat.le_of_ble_eq_true rfl) dX10_tellsAs_43 ?_
      intro H locs hH
      refine lv_aload_n hx hb dX10_tellsAs_46 rfl (lv_at hl 0 rfl) ?_
      refine lv_aload_n hx hb dX10_tellsAs_47 rfl (lv_at hl 0 rfl) ?_
      refine rgI C hH fi_RX10_330_58 dX10_tellsAs_48 ?_
      refine lv_iload_n hx hb dX10_tellsAs_51 rfl (lv_at hl 2 rfl) ?_
      obtain ⟨q52, e52, h⟩ := tB h
      refine rcI C hH hl.1 (mX10_sellsAs l 100 _ _ _ _ e52) cf_RX10_327 ro_58 (RR_of (by omega) (by decide)) rfl (rest := []) rfl (Nat.le_of_ble_eq_true rfl) dX10_tellsAs_52 ?_
      intro hz52 H locs hH
      refine lv_istore_n (lv' := [(3, .int q52.1), (0, .ref (ad 58)), (1, .int v1), (2, .int v2)]) hx hb dX10_tellsAs_55 rfl hl (by decide) rfl (fun ls hl => ?_)
      refine lv_iload_n hx hb dX10_tellsAs_56 rfl (lv_at hl 0 rfl) ?_
      refine lv_aload_n hx hb dX10_tellsAs_57 rfl (lv_at hl 1 rfl) ?_
      refine lv_aload_n hx hb dX10_tellsAs_58 rfl (lv_at hl 1 rfl) ?_
      refine rgI C hH fi_RX10_330_58 dX10_tellsAs_59 ?_
      refine lv_iconst (v := 1) hx hb dX10_tellsAs_62 (by decide) ?_
      obtain ⟨q63, e63, h⟩ := tB h
      refine rcI C hH hl.1 (mX10_shakesAs l 100 _ _ _ _ e63) cf_RX10_333 ro_58 (RR_of (by omega) (by decide)) rfl (rest := [.int q52.1]) rfl (Nat.le_of_ble_eq_true rfl) dX10_tellsAs_63 ?_
      intro hz63 H locs hH
      refine lv_isub hx hb dX10_tellsAs_66 ?_
      have h := Option.some.inj h
      subst h
      exact retI C hH trivial dX10_tellsAs_67
    · replace h := tT hc23 h
      refine lv_aload_n hx hb dX10_tellsAs_26 rfl (lv_at hl 0 rfl) ?_
      refine lv_bipush (v := 81) hx hb dX10_tellsAs_27 (by decide) ?_
      obtain ⟨q29, e29, h⟩ := tB h
      refine rcV C hH hl.1 (mX10_runs l e29) cf_RX10_317 ro_58 (RR_of (by omega) (by decide)) rfl (rest := []) rfl (Nat.le_of_ble_eq_true rfl) dX10_tellsAs_29 ?_
      intro H locs hH
      refine lv_aload_n hx hb dX10_tellsAs_32 rfl (lv_at hl 0 rfl) ?_
      refine lv_iconst (v := 4) hx hb dX10_tellsAs_33 (by decide) ?_
      refine lv_iload_n hx hb dX10_tellsAs_34 rfl (lv_at hl 2 rfl) ?_
      obtain ⟨q35, e35, h⟩ := tB h
      refine rcI C hH hl.1 (hr_X10_tellsAs _ _ _ _ e35) cf_RX10_336 ro_58 (RR_of (by omega) (by decide)) rfl (rest := []) rfl (Nat.le_of_ble_eq_true rfl) dX10_tellsAs_35 ?_
      intro hz35 H locs hH
      refine lv_iconst (v := 1) hx hb dX10_tellsAs_38 (by decide) ?_
      refine lv_isub hx hb dX10_tellsAs_39 ?_
      have h := Option.some.inj h
      subst h
      exact retI C hH trivial dX10_tellsAs_40
  · replace h := tT hc2 h
    refine lv_aload_n hx hb dX10_tellsAs_5 rfl (lv_at hl 0 rfl) ?_
    refine lv_bipush (v := 60) hx hb dX10_tellsAs_6 (by decide) ?_
    obtain ⟨q8, e8, h⟩ := tB h
    refine rcV C hH hl.1 (mX10_runs l e8) cf_RX10_317 ro_58 (RR_of (by omega) (by decide)) rfl (rest := []) rfl (Nat.le_of_ble_eq_true rfl) dX10_tellsAs_8 ?_
    intro H locs hH
    refine lv_aload_n hx hb dX10_tellsAs_11 rfl (lv_at hl 0 rfl) ?_
    refine lv_iconst (v := 3) hx hb dX10_tellsAs_12 (by decide) ?_
    refine lv_iload_n hx hb dX10_tellsAs_13 rfl (lv_at hl 2 rfl) ?_
    obtain ⟨q14, e14, h⟩ := tB h
    refine rcI C hH hl.1 (hr_X10_tellsAs _ _ _ _ e14) cf_RX10_336 ro_58 (RR_of (by omega) (by decide)) rfl (rest := []) rfl (Nat.le_of_ble_eq_true rfl) dX10_tellsAs_14 ?_
    intro hz14 H locs hH
    refine lv_iconst (v := 5) hx hb dX10_tellsAs_17 (by decide) ?_
    refine lv_ixor hx hb dX10_tellsAs_18 ?_
    have h := Option.some.inj h
    subst h
    exact retI C hH trivial dX10_tellsAs_19
set_option maxHeartbeats 2000000 in
set_option maxRecDepth 20000 in
theorem mgX10_tellsAs (l : Launch) {D : va_G} {ca : Nat → ClassId} {A : Nat → Prop} {ad : Nat → Nat} : ∀ n : Nat, (∀ (v1 : Int32) (v2 : Int32) (mm : Mm) (q : Int32 × Mm), dX10_tellsAs n v1 v2 mm = some q → Met l yX10_tellsAs (wsOf yX10_tellsAs cX10_tellsAs 4 (some .int)) (rmk (305 + n)) (PcX WN ad ca WS D A [.ref (ad 58), .int v1, .int v2] mm) (QcI WN ad ca WS D A pzT q) 0 0 A) := by
  intro n
  induction n with
  | zero => exact (fun v1 v2 mm q h => none_ne (show (none : Option (Int32 × Mm)) = some q from h))
  | succ n ih => exact (fun v1 v2 mm q h => mbX10_tellsAs l (by omega) ih h)
set_option maxHeartbeats 2000000 in
set_option maxRecDepth 20000 in
theorem mX10_tellsAs (l : Launch) {D : va_G} {ca : Nat → ClassId} {A : Nat → Prop} {ad : Nat → Nat} (n : Nat) (v1 : Int32) (v2 : Int32) (mm : Mm) (q : Int32 × Mm) (h : dX10_tellsAs n v1 v2 mm = some q) : Met l yX10_tellsAs (wsOf yX10_tellsAs cX10_tellsAs 4 (some .int)) (rmk (305 + n)) (PcX WN ad ca WS D A [.ref (ad 58), .int v1, .int v2] mm) (QcI WN ad ca WS D A pzT q) 0 0 A := (mgX10_tellsAs l n) v1 v2 mm q h
set_option maxHeartbeats 2000000 in
set_option maxRecDepth 20000 in
theorem mX10_act (l : Launch) {D : va_G} {ca : Nat → ClassId} {A : Nat → Prop} {ad : Nat → Nat} {v1 : Int32} {v2 : Int32} {v3 : Int32} {mm : Mm} {q : Int32 × Mm} (h : dX10_act v1 v2 v3 mm = some q) : Met l yX10_act (wsOf yX10_act cX10_act 4 (some .int)) (rmk 406) (PcX WN ad ca WS D A [.ref (ad 58), .int v1, .int v2, .int v3] mm) (QcI WN ad ca WS D A pzT q) 0 0 A := by
  unfold dX10_act at h
  refine ent (by decide) (Nat.le_of_ble_eq_true rfl) (fun p e s m args below meth c hargs C hH ls hl => ?_)
  have hx := C.1
  have hb := C.2.1
  have hl : lv_has ls 4 [(0, .ref (ad 58)), (1, .int v1), (2, .int v2), (3, .int v3)] := hl
  refine lv_aload_n hx hb dX10_act_0 rfl (lv_at hl 0 rfl) ?_
  refine lv_iconst (v := 0) hx hb dX10_act_1 (by decide) ?_
  refine rpI C hH fp_RX10_314_58 rfl rfl dX10_act_2 (fun H locs hH => ?_)
  refine lv_aload_n hx hb dX10_act_5 rfl (lv_at hl 0 rfl) ?_
  refine lv_iload_n hx hb dX10_act_6 rfl (lv_at hl 1 rfl) ?_
  obtain ⟨q7, e7, h⟩ := tB h
  refine rcI C hH hl.1 (mX10_isBody l e7) cf_RX10_339 ro_58 (RR_of (by decide) (by decide)) rfl (rest := []) rfl (Nat.le_of_ble_eq_true rfl) dX10_act_7 ?_
  intro hz7 H locs hH
  refine lv_if_ne (tgt := 15) hx hb dX10_act_10 (by decide) (fun hc10 => ?_) (fun hc10 => ?_)
  · replace h := tF hc10 h
    refine lv_aload_n hx hb dX10_act_15 rfl (lv_at hl 0 rfl) ?_
    refine lv_aload_n hx hb dX10_act_16 rfl (lv_at hl 0 rfl) ?_
    refine rgS C hH fs_RX10_66_58 dX10_act_17 ?_
    refine lv_iload_n hx hb dX10_act_20 rfl (lv_at hl 1 rfl) ?_
    obtain ⟨hi21, h⟩ := tC h
    refine raI C hH (k := (Int32.toNatClampNeg v1)) (by decide) (show WS 77 = .inr (0, 50, 0) from rfl) hi21 rfl dX10_act_21 ?_
    refine rpI C hH fp_RX10_330_58 rfl rfl dX10_act_22 (fun H locs hH => ?_)
    refine lv_aload_n hx hb dX10_act_25 rfl (lv_at hl 0 rfl) ?_
    refine lv_iload_n hx hb dX10_act_26 rfl (lv_at hl 1 rfl) ?_
    refine rpI C hH fp_RX10_324_58 rfl rfl dX10_act_27 (fun H locs hH => ?_)
    refine lv_iload_n hx hb dX10_act_30 rfl (lv_at hl 2 rfl) ?_
    by_cases hc31_0 : v2 = 0
    · replace h := tT hc31_0 h
      refine lv_tableIn (tgt := 60) hx hb dX10_act_31 (by rw [hc31_0]; decide) (by rw [hc31_0]; decide) (by rw [hc31_0]; rfl) (by decide) ?_
      refine lv_aload_n hx hb dX10_act_60 rfl (lv_at hl 0 rfl) ?_
      refine lv_aload_n hx hb dX10_act_61 rfl (lv_at hl 0 rfl) ?_
      refine rgI C hH fi_RX10_330_58 dX10_act_62 ?_
      refine lv_iload_n hx hb dX10_act_65 rfl (lv_at hl 3 rfl) ?_
      obtain ⟨q66, e66, h⟩ := tB h
      refine rcI C hH hl.1 (mX10_tiesAs l 100 _ _ _ _ e66) cf_RX10_321 ro_58 (RR_of (by decide) (by decide)) rfl (rest := []) rfl (Nat.le_of_ble_eq_true rfl) dX10_act_66 ?_
      intro hz66 H locs hH
      have h := Option.some.inj h
      subst h
      exact retI C hH trivial dX10_act_69
    · replace h := tF hc31_0 h
      by_cases hc31_1 : v2 = 1
      · replace h := tT hc31_1 h
        refine lv_tableIn (tgt := 70) hx hb dX10_act_31 (by rw [hc31_1]; decide) (by rw [hc31_1]; decide) (by rw [hc31_1]; rfl) (by decide) ?_
        refine lv_aload_n hx hb dX10_act_70 rfl (lv_at hl 0 rfl) ?_
        refine lv_aload_n hx hb dX10_act_71 rfl (lv_at hl 0 rfl) ?_
        refine rgI C hH fi_RX10_330_58 dX10_act_72 ?_
        refine lv_iload_n hx hb dX10_act_75 rfl (lv_at hl 3 rfl) ?_
        obtain ⟨q76, e76, h⟩ := tB h
        refine rcI C hH hl.1 (mX10_sellsAs l 100 _ _ _ _ e76) cf_RX10_327 ro_58 (RR_of (by decide) (by decide)) rfl (rest := []) rfl (Nat.le_of_ble_eq_true rfl) dX10_act_76 ?_
        intro hz76 H locs hH
        have h := Option.some.inj h
        subst h
        exact retI C hH trivial dX10_act_79
      · replace h := tF hc31_1 h
        by_cases hc31_2 : v2 = 2
        · replace h := tT hc31_2 h
          refine lv_tableIn (tgt := 80) hx hb dX10_act_31 (by rw [hc31_2]; decide) (by rw [hc31_2]; decide) (by rw [hc31_2]; rfl) (by decide) ?_
          refine lv_aload_n hx hb dX10_act_80 rfl (lv_at hl 0 rfl) ?_
          refine lv_aload_n hx hb dX10_act_81 rfl (lv_at hl 0 rfl) ?_
          refine rgI C hH fi_RX10_330_58 dX10_act_82 ?_
          refine lv_iload_n hx hb dX10_act_85 rfl (lv_at hl 3 rfl) ?_
          obtain ⟨q86, e86, h⟩ := tB h
          refine rcI C hH hl.1 (mX10_shakesAs l 100 _ _ _ _ e86) cf_RX10_333 ro_58 (RR_of (by decide) (by decide)) rfl (rest := []) rfl (Nat.le_of_ble_eq_true rfl) dX10_act_86 ?_
          intro hz86 H locs hH
          have h := Option.some.inj h
          subst h
          exact retI C hH trivial dX10_act_89
        · replace h := tF hc31_2 h
          by_cases hc31_3 : v2 = 3
          · replace h := tT hc31_3 h
            refine lv_tableIn (tgt := 90) hx hb dX10_act_31 (by rw [hc31_3]; decide) (by rw [hc31_3]; decide) (by rw [hc31_3]; rfl) (by decide) ?_
            refine lv_aload_n hx hb dX10_act_90 rfl (lv_at hl 0 rfl) ?_
            refine lv_aload_n hx hb dX10_act_91 rfl (lv_at hl 0 rfl) ?_
            refine rgI C hH fi_RX10_330_58 dX10_act_92 ?_
            refine lv_iload_n hx hb dX10_act_95 rfl (lv_at hl 3 rfl) ?_
            obtain ⟨q96, e96, h⟩ := tB h
            refine rcI C hH hl.1 (mX10_tellsAs l 100 _ _ _ _ e96) cf_RX10_336 ro_58 (RR_of (by decide) (by decide)) rfl (rest := []) rfl (Nat.le_of_ble_eq_true rfl) dX10_act_96 ?_
            intro hz96 H locs hH
            have h := Option.some.inj h
            subst h
            exact retI C hH trivial dX10_act_99
          · replace h := tF hc31_3 h
            have ghc31_0 := lv_neT (k := 0) (a := 0) hc31_0 rfl
            have ghc31_1 := lv_neT (k := 1) (a := 1) hc31_1 rfl
            have ghc31_2 := lv_neT (k := 2) (a := 2) hc31_2 rfl
            have ghc31_3 := lv_neT (k := 3) (a := 3) hc31_3 rfl
            refine lv_tableOut (tgt := 100) hx hb dX10_act_31 (by omega) (by decide) ?_
            refine lv_iconst (v := 0) hx hb dX10_act_100 (by decide) ?_
            have h := Option.some.inj h
            subst h
            exact retI C hH trivial dX10_act_101
  · replace h := tT hc10 h
    refine lv_iconst (v := 0) hx hb dX10_act_13 (by decide) ?_
    have h := Option.some.inj h
    subst h
    exact retI C hH trivial dX10_act_14
set_option maxHeartbeats 2000000 in
set_option maxRecDepth 20000 in
theorem wX4_ranAt_18 (C : Cx D ca A p s m args meth c cX4_ranAt RX4 2 (some .int)) {q : Int32 × Mm} {mm : Mm} (h : DX4_ranAt_18 mm = some q) (hH : Hx WN ad ca WS D A s.heap mm H locs) (hl : lv_has ls 2 []) : W p l e (rmk 1) s m args below meth c H locs 0 0 (MQ below (QcI WN ad ca WS D A pzT q) args s 0 0 A) (F0 m 18 ls []) := by
  unfold DX4_ranAt_18 at h
  have hx := C.1
  have hb := C.2.1
  refine lv_iconst (v := (-1)) hx hb dX4_ranAt_18 (by decide) ?_
  refine lv_goto (tgt := 28) hx hb dX4_ranAt_19 (by decide) ?_
  have h := Option.some.inj h
  subst h
  exact retI C hH trivial dX4_ranAt_28
set_option maxHeartbeats 2000000 in
set_option maxRecDepth 20000 in
theorem mX4_ranAt (l : Launch) {D : va_G} {ca : Nat → ClassId} {A : Nat → Prop} {ad : Nat → Nat} {v1 : Int32} {mm : Mm} {q : Int32 × Mm} (h : dX4_ranAt v1 mm = some q) : Met l yX4_ranAt (wsOf yX4_ranAt cX4_ranAt 2 (some .int)) (rmk 1) (PcX WN ad ca WS D A [.ref (ad 34), .int v1] mm) (QcI WN ad ca WS D A pzT q) 0 0 A := by
  unfold dX4_ranAt at h
  refine ent (by decide) (Nat.le_of_ble_eq_true rfl) (fun p e s m args below meth c hargs C hH ls hl => ?_)
  have hx := C.1
  have hb := C.2.1
  have hl : lv_has ls 2 [(0, .ref (ad 34)), (1, .int v1)] := hl
  refine lv_iload_n hx hb dX4_ranAt_0 rfl (lv_at hl 1 rfl) ?_
  refine lv_if_lt (tgt := 18) hx hb dX4_ranAt_1 (by decide) (fun hc1 => ?_) (fun hc1 => ?_)
  · replace h := tT hc1 h
    exact wX4_ranAt_18 C h hH (lv_sub hl [] rfl)
  · replace h := tF hc1 h
    refine lv_iload_n hx hb dX4_ranAt_4 rfl (lv_at hl 1 rfl) ?_
    refine lv_aload_n hx hb dX4_ranAt_5 rfl (lv_at hl 0 rfl) ?_
    refine rgI C hH fi_RX4_33_34 dX4_ranAt_6 ?_
    refine lv_icmp_ge (tgt := 18) hx hb dX4_ranAt_9 (by decide) (fun hc9 => ?_) (fun hc9 => ?_)
    · replace h := tT hc9 h
      exact wX4_ranAt_18 C h hH (lv_sub hl [] rfl)
    · replace h := tF hc9 h
      refine lv_iload_n hx hb dX4_ranAt_12 rfl (lv_at hl 1 rfl) ?_
      refine lv_bipush (v := 24) hx hb dX4_ranAt_13 (by decide) ?_
      refine lv_icmp_lt (tgt := 22) hx hb dX4_ranAt_15 (by decide) (fun hc15 => ?_) (fun hc15 => ?_)
      · replace h := tT hc15 h
        refine lv_aload_n hx hb dX4_ranAt_22 rfl (lv_at hl 0 rfl) ?_
        refine rgS C hH fs_RX4_15_34 dX4_ranAt_23 ?_
        refine lv_iload_n hx hb dX4_ranAt_26 rfl (lv_at hl 1 rfl) ?_
        obtain ⟨hi27, h⟩ := tC h
        refine raI C hH (k := (Int32.toNatClampNeg v1)) (by decide) (show WS 36 = .inr (0, 24, 0) from rfl) hi27 rfl dX4_ranAt_27 ?_
        have h := Option.some.inj h
        subst h
        exact retI C hH trivial dX4_ranAt_28
      · replace h := tF hc15 h
        exact wX4_ranAt_18 C h hH (lv_sub hl [] rfl)
set_option maxHeartbeats 2000000 in
set_option maxRecDepth 20000 in
theorem mX9_trace (l : Launch) {D : va_G} {ca : Nat → ClassId} {A : Nat → Prop} {ad : Nat → Nat} {v1 : Int32} {mm : Mm} {q : Int32 × Mm} (h : dX9_trace v1 mm = some q) : Met l yX9_trace (wsOf yX9_trace cX9_trace 2 (some .int)) (rmk 2) (PcX WN ad ca WS D A [.ref (ad 0), .int v1] mm) (QcI WN ad ca WS D A pzT q) 0 0 A := by
  unfold dX9_trace at h
  refine ent (by decide) (Nat.le_of_ble_eq_true rfl) (fun p e s m args below meth c hargs C hH ls hl => ?_)
  have hx := C.1
  have hb := C.2.1
  have hl : lv_has ls 2 [(0, .ref (ad 0)), (1, .int v1)] := hl
  refine lv_aload_n hx hb dX9_trace_0 rfl (lv_at hl 0 rfl) ?_
  refine rgS C hH fs_RX9_56_0 dX9_trace_1 ?_
  refine lv_iload_n hx hb dX9_trace_4 rfl (lv_at hl 1 rfl) ?_
  obtain ⟨q5, e5, h⟩ := tB h
  refine rcI C hH hl.1 (mX4_ranAt l e5) cf_RX9_289 ro_34 (RR_of (by decide) (by decide)) rfl (rest := []) rfl (Nat.le_of_ble_eq_true rfl) dX9_trace_5 ?_
  intro hz5 H locs hH
  have h := Option.some.inj h
  subst h
  exact retI C hH trivial dX9_trace_8
set_option maxHeartbeats 2000000 in
set_option maxRecDepth 20000 in
theorem wX10_trace_27 (C : Cx D ca A p s m args meth c cX10_trace RX10 2 (some .int)) {q : Int32 × Mm} {mm : Mm} (h : DX10_trace_27 mm = some q) (hH : Hx WN ad ca WS D A s.heap mm H locs) (hl : lv_has ls 2 []) : W p l e (rmk 1) s m args below meth c H locs 0 0 (MQ below (QcI WN ad ca WS D A pzT q) args s 0 0 A) (F0 m 27 ls []) := by
  unfold DX10_trace_27 at h
  have hx := C.1
  have hb := C.2.1
  refine lv_iconst (v := (-1)) hx hb dX10_trace_27 (by decide) ?_
  have h := Option.some.inj h
  subst h
  exact retI C hH trivial dX10_trace_28
set_option maxHeartbeats 2000000 in
set_option maxRecDepth 20000 in
theorem mX10_trace (l : Launch) {D : va_G} {ca : Nat → ClassId} {A : Nat → Prop} {ad : Nat → Nat} {v1 : Int32} {mm : Mm} {q : Int32 × Mm} (h : dX10_trace v1 mm = some q) : Met l yX10_trace (wsOf yX10_trace cX10_trace 2 (some .int)) (rmk 1) (PcX WN ad ca WS D A [.ref (ad 58), .int v1] mm) (QcI WN ad ca WS D A pzT q) 0 0 A := by
  unfold dX10_trace at h
  refine ent (by decide) (Nat.le_of_ble_eq_true rfl) (fun p e s m args below meth c hargs C hH ls hl => ?_)
  have hx := C.1
  have hb := C.2.1
  have hl : lv_has ls 2 [(0, .ref (ad 58)), (1, .int v1)] := hl
  refine lv_iload_n hx hb dX10_trace_0 rfl (lv_at hl 1 rfl) ?_
  refine lv_if_lt (tgt := 27) hx hb dX10_trace_1 (by decide) (fun hc1 => ?_) (fun hc1 => ?_)
  · replace h := tT hc1 h
    exact wX10_trace_27 C h hH (lv_sub hl [] rfl)
  · replace h := tF hc1 h
    refine lv_iload_n hx hb dX10_trace_4 rfl (lv_at hl 1 rfl) ?_
    refine lv_aload_n hx hb dX10_trace_5 rfl (lv_at hl 0 rfl) ?_
    refine rgI C hH fi_RX10_314_58 dX10_trace_6 ?_
    refine lv_icmp_ge (tgt := 27) hx hb dX10_trace_9 (by decide) (fun hc9 => ?_) (fun hc9 => ?_)
    · replace h := tT hc9 h
      exact wX10_trace_27 C h hH (lv_sub hl [] rfl)
    · replace h := tF hc9 h
      refine lv_iload_n hx hb dX10_trace_12 rfl (lv_at hl 1 rfl) ?_
      refine lv_bipush (v := 24) hx hb dX10_trace_13 (by decide) ?_
      refine lv_icmp_ge (tgt := 27) hx hb dX10_trace_15 (by decide) (fun hc15 => ?_) (fun hc15 => ?_)
      · replace h := tT hc15 h
        exact wX10_trace_27 C h hH (lv_sub hl [] rfl)
      · replace h := tF hc15 h
        refine lv_aload_n hx hb dX10_trace_18 rfl (lv_at hl 0 rfl) ?_
        refine rgS C hH fs_RX10_69_58 dX10_trace_19 ?_
        refine lv_iload_n hx hb dX10_trace_22 rfl (lv_at hl 1 rfl) ?_
        obtain ⟨hi23, h⟩ := tC h
        refine raI C hH (k := (Int32.toNatClampNeg v1)) (by decide) (show WS 78 = .inr (0, 24, 0) from rfl) hi23 rfl dX10_trace_23 ?_
        refine lv_goto (tgt := 28) hx hb dX10_trace_24 (by decide) ?_
        have h := Option.some.inj h
        subst h
        exact retI C hH trivial dX10_trace_28
set_option maxHeartbeats 2000000 in
set_option maxRecDepth 20000 in
theorem wX8_lay_10 (C : Cx D ca A p s m args meth c cX8_lay RX8 2 none) {q : Unit × Mm} {v0 : Nat} {v1 : Int32} {s0 : Int32} {s1 : Nat} {mm : Mm} (ho0 : isSh v0) (hs1 : isSh s1) (h : DX8_lay_10 v0 v1 s0 s1 mm = some q) (hH : Hx WN ad ca WS D A s.heap mm H locs) (hl : lv_has ls 2 [(0, .ref (ad v0)), (1, .int v1)]) : W p l e (rmk 1) s m args below meth c H locs 0 0 (MQ below (QcV WN ad ca WS D A q) args s 0 0 A) (F0 m 10 ls [.int s0, .ref (ad s1)]) := by
  unfold DX8_lay_10 at h
  have hx := C.1
  have hb := C.2.1
  refine rpI C hH (fpSH_RX8_15 hs1) rfl rfl dX8_lay_10 (fun H locs hH => ?_)
  refine lv_aload_n hx hb dX8_lay_13 rfl (lv_at hl 0 rfl) ?_
  refine lv_iload_n hx hb dX8_lay_14 rfl (lv_at hl 1 rfl) ?_
  refine rpI C hH (fpSH_RX8_19 ho0) rfl rfl dX8_lay_15 (fun H locs hH => ?_)
  have h := Option.some.inj h
  subst h
  exact retV C hH dX8_lay_18
set_option maxHeartbeats 2000000 in
set_option maxRecDepth 20000 in
theorem mX8_lay (l : Launch) {D : va_G} {ca : Nat → ClassId} {A : Nat → Prop} {ad : Nat → Nat} {v0 : Nat} {v1 : Int32} {mm : Mm} {q : Unit × Mm} (h : dX8_lay v0 v1 mm = some q) : Met l yX8_lay (wsOf yX8_lay cX8_lay 2 none) (rmk 1) (PcX WN ad ca WS D A [.ref (ad v0), .int v1] mm) (QcV WN ad ca WS D A q) 0 0 A := by
  unfold dX8_lay at h
  refine ent (by decide) (Nat.le_of_ble_eq_true rfl) (fun p e s m args below meth c hargs C hH ls hl => ?_)
  have hx := C.1
  have hb := C.2.1
  have hl : lv_has ls 2 [(0, .ref (ad v0)), (1, .int v1)] := hl
  obtain ⟨ho0, h⟩ := tC h
  refine lv_aload_n hx hb dX8_lay_0 rfl (lv_at hl 0 rfl) ?_
  refine lv_iload_n hx hb dX8_lay_1 rfl (lv_at hl 1 rfl) ?_
  refine lv_if_ge (tgt := 9) hx hb dX8_lay_2 (by decide) (fun hc2 => ?_) (fun hc2 => ?_)
  · replace h := tT hc2 h
    refine lv_iconst (v := 1) hx hb dX8_lay_9 (by decide) ?_
    exact wX8_lay_10 C ho0 ho0 h hH (lv_sub hl [0, 1] rfl)
  · replace h := tF hc2 h
    refine lv_iconst (v := 0) hx hb dX8_lay_5 (by decide) ?_
    refine lv_goto (tgt := 10) hx hb dX8_lay_6 (by decide) ?_
    exact wX8_lay_10 C ho0 ho0 h hH (lv_sub hl [0, 1] rfl)
set_option maxHeartbeats 2000000 in
set_option maxRecDepth 20000 in
theorem wX9_keep_23 (C : Cx D ca A p s m args meth c cX9_keep RX9 3 (some .int)) {q : Int32 × Mm} {mm : Mm} (h : DX9_keep_23 mm = some q) (hH : Hx WN ad ca WS D A s.heap mm H locs) (hl : lv_has ls 3 []) : W p l e (rmk 2) s m args below meth c H locs 0 0 (MQ below (QcI WN ad ca WS D A pzT q) args s 0 0 A) (F0 m 23 ls []) := by
  unfold DX9_keep_23 at h
  have hx := C.1
  have hb := C.2.1
  refine lv_iconst (v := (-1)) hx hb dX9_keep_23 (by decide) ?_
  have h := Option.some.inj h
  subst h
  exact retI C hH trivial dX9_keep_24
set_option maxHeartbeats 2000000 in
set_option maxRecDepth 20000 in
theorem wX9_keep_25 (C : Cx D ca A p s m args meth c cX9_keep RX9 3 (some .int)) {q : Int32 × Mm} {v1 : Int32} {v2 : Int32} {mm : Mm} (h : DX9_keep_25 v1 v2 mm = some q) (hH : Hx WN ad ca WS D A s.heap mm H locs) (hl : lv_has ls 3 [(0, .ref (ad 0)), (1, .int v1), (2, .int v2)]) : W p l e (rmk 2) s m args below meth c H locs 0 0 (MQ below (QcI WN ad ca WS D A pzT q) args s 0 0 A) (F0 m 25 ls []) := by
  unfold DX9_keep_25 at h
  have hx := C.1
  have hb := C.2.1
  refine lv_aload_n hx hb dX9_keep_25 rfl (lv_at hl 0 rfl) ?_
  refine rgS C hH fs_RX9_62_0 dX9_keep_26 ?_
  refine lv_iload_n hx hb dX9_keep_29 rfl (lv_at hl 1 rfl) ?_
  obtain ⟨hi30, h⟩ := tC h
  refine raS C hH (o := 37) (k := (Int32.toNatClampNeg v1)) (by decide) (show WS 37 = .inr (4, 6, 38) from rfl) hi30 rfl dX9_keep_30 ?_
  refine lv_iload_n hx hb dX9_keep_31 rfl (lv_at hl 2 rfl) ?_
  obtain ⟨q32, e32, h⟩ := tB h
  refine rcV C hH hl.1 (mX8_lay l e32) cf_RX9_295 (ro_sh (sh_of hi30)) (RR_of (by decide) (by decide)) rfl (rest := []) rfl (Nat.le_of_ble_eq_true rfl) dX9_keep_32 ?_
  intro H locs hH
  refine lv_iconst (v := 1) hx hb dX9_keep_35 (by decide) ?_
  have h := Option.some.inj h
  subst h
  exact retI C hH trivial dX9_keep_36
set_option maxHeartbeats 2000000 in
set_option maxRecDepth 20000 in
theorem mX9_keep (l : Launch) {D : va_G} {ca : Nat → ClassId} {A : Nat → Prop} {ad : Nat → Nat} {v1 : Int32} {v2 : Int32} {mm : Mm} {q : Int32 × Mm} (h : dX9_keep v1 v2 mm = some q) : Met l yX9_keep (wsOf yX9_keep cX9_keep 3 (some .int)) (rmk 2) (PcX WN ad ca WS D A [.ref (ad 0), .int v1, .int v2] mm) (QcI WN ad ca WS D A pzT q) 0 0 A := by
  unfold dX9_keep at h
  refine ent (by decide) (Nat.le_of_ble_eq_true rfl) (fun p e s m args below meth c hargs C hH ls hl => ?_)
  have hx := C.1
  have hb := C.2.1
  have hl : lv_has ls 3 [(0, .ref (ad 0)), (1, .int v1), (2, .int v2)] := hl
  refine lv_iload_n hx hb dX9_keep_0 rfl (lv_at hl 1 rfl) ?_
  obtain ⟨q1, e1, h⟩ := tB h
  refine rsI C hH hl.1 (mX9_isShelf l e1) cs_RX9_75 (RR_of (by decide) (by decide)) rfl (rest := []) rfl (Nat.le_of_ble_eq_true rfl) dX9_keep_1 ?_
  intro hz1 H locs hH
  refine lv_if_eq (tgt := 23) hx hb dX9_keep_4 (by decide) (fun hc4 => ?_) (fun hc4 => ?_)
  · replace h := tT hc4 h
    exact wX9_keep_23 C h hH (lv_sub hl [] rfl)
  · replace h := tF hc4 h
    refine lv_iload_n hx hb dX9_keep_7 rfl (lv_at hl 2 rfl) ?_
    refine lv_iconst (v := (-1)) hx hb dX9_keep_8 (by decide) ?_
    refine lv_icmp_eq (tgt := 25) hx hb dX9_keep_9 (by decide) (fun hc9 => ?_) (fun hc9 => ?_)
    · replace h := tT hc9 h
      exact wX9_keep_25 C h hH (lv_sub hl [0, 1, 2] rfl)
    · replace h := tF hc9 h
      refine lv_aload_n hx hb dX9_keep_12 rfl (lv_at hl 0 rfl) ?_
      refine rgS C hH fs_RX9_56_0 dX9_keep_13 ?_
      refine lv_iload_n hx hb dX9_keep_16 rfl (lv_at hl 2 rfl) ?_
      obtain ⟨q17, e17, h⟩ := tB h
      refine rcI C hH hl.1 (mX4_has l e17) cf_RX9_292 ro_34 (RR_of (by decide) (by decide)) rfl (rest := []) rfl (Nat.le_of_ble_eq_true rfl) dX9_keep_17 ?_
      intro hz17 H locs hH
      refine lv_if_ne (tgt := 25) hx hb dX9_keep_20 (by decide) (fun hc20 => ?_) (fun hc20 => ?_)
      · replace h := tF hc20 h
        exact wX9_keep_25 C h hH (lv_sub hl [0, 1, 2] rfl)
      · replace h := tT hc20 h
        exact wX9_keep_23 C h hH (lv_sub hl [] rfl)
set_option maxHeartbeats 2000000 in
set_option maxRecDepth 20000 in
theorem wX10_keep_20 (C : Cx D ca A p s m args meth c cX10_keep RX10 3 (some .int)) {q : Int32 × Mm} {mm : Mm} (h : DX10_keep_20 mm = some q) (hH : Hx WN ad ca WS D A s.heap mm H locs) (hl : lv_has ls 3 []) : W p l e (rmk 3) s m args below meth c H locs 0 0 (MQ below (QcI WN ad ca WS D A pzT q) args s 0 0 A) (F0 m 20 ls []) := by
  unfold DX10_keep_20 at h
  have hx := C.1
  have hb := C.2.1
  refine lv_iconst (v := (-1)) hx hb dX10_keep_20 (by decide) ?_
  have h := Option.some.inj h
  subst h
  exact retI C hH trivial dX10_keep_21
set_option maxHeartbeats 2000000 in
set_option maxRecDepth 20000 in
theorem wX10_keep_22 (C : Cx D ca A p s m args meth c cX10_keep RX10 3 (some .int)) {q : Int32 × Mm} {v1 : Int32} {v2 : Int32} {mm : Mm} (h : DX10_keep_22 v1 v2 mm = some q) (hH : Hx WN ad ca WS D A s.heap mm H locs) (hl : lv_has ls 3 [(0, .ref (ad 58)), (1, .int v1), (2, .int v2)]) : W p l e (rmk 3) s m args below meth c H locs 0 0 (MQ below (QcI WN ad ca WS D A pzT q) args s 0 0 A) (F0 m 22 ls []) := by
  unfold DX10_keep_22 at h
  have hx := C.1
  have hb := C.2.1
  refine lv_aload_n hx hb dX10_keep_22 rfl (lv_at hl 0 rfl) ?_
  refine rgS C hH fs_RX10_72_58 dX10_keep_23 ?_
  refine lv_iload_n hx hb dX10_keep_26 rfl (lv_at hl 1 rfl) ?_
  refine lv_iload_n hx hb dX10_keep_27 rfl (lv_at hl 2 rfl) ?_
  obtain ⟨hi28, h⟩ := tC h
  refine rwI C hH (k := (Int32.toNatClampNeg v1)) (by decide) (show WS 79 = .inr (0, 6, 0) from rfl) hi28 rfl dX10_keep_28 (fun H locs hH => ?_)
  refine lv_aload_n hx hb dX10_keep_29 rfl (lv_at hl 0 rfl) ?_
  refine rgS C hH fs_RX10_75_58 dX10_keep_30 ?_
  refine lv_iload_n hx hb dX10_keep_33 rfl (lv_at hl 1 rfl) ?_
  refine lv_iconst (v := 0) hx hb dX10_keep_34 (by decide) ?_
  obtain ⟨hi35, h⟩ := tC h
  refine rwI C hH (k := (Int32.toNatClampNeg v1)) (by decide) (show WS 80 = .inr (0, 6, 0) from rfl) hi35 rfl dX10_keep_35 (fun H locs hH => ?_)
  refine lv_iconst (v := 1) hx hb dX10_keep_36 (by decide) ?_
  have h := Option.some.inj h
  subst h
  exact retI C hH trivial dX10_keep_37
set_option maxHeartbeats 2000000 in
set_option maxRecDepth 20000 in
theorem mX10_keep (l : Launch) {D : va_G} {ca : Nat → ClassId} {A : Nat → Prop} {ad : Nat → Nat} {v1 : Int32} {v2 : Int32} {mm : Mm} {q : Int32 × Mm} (h : dX10_keep v1 v2 mm = some q) : Met l yX10_keep (wsOf yX10_keep cX10_keep 3 (some .int)) (rmk 3) (PcX WN ad ca WS D A [.ref (ad 58), .int v1, .int v2] mm) (QcI WN ad ca WS D A pzT q) 0 0 A := by
  unfold dX10_keep at h
  refine ent (by decide) (Nat.le_of_ble_eq_true rfl) (fun p e s m args below meth c hargs C hH ls hl => ?_)
  have hx := C.1
  have hb := C.2.1
  have hl : lv_has ls 3 [(0, .ref (ad 58)), (1, .int v1), (2, .int v2)] := hl
  refine lv_iload_n hx hb dX10_keep_0 rfl (lv_at hl 1 rfl) ?_
  obtain ⟨q1, e1, h⟩ := tB h
  refine rsI C hH hl.1 (mX10_isShelf l e1) cs_RX10_114 (RR_of (by decide) (by decide)) rfl (rest := []) rfl (Nat.le_of_ble_eq_true rfl) dX10_keep_1 ?_
  intro hz1 H locs hH
  refine lv_if_eq (tgt := 20) hx hb dX10_keep_4 (by decide) (fun hc4 => ?_) (fun hc4 => ?_)
  · replace h := tT hc4 h
    exact wX10_keep_20 C h hH (lv_sub hl [] rfl)
  · replace h := tF hc4 h
    refine lv_iload_n hx hb dX10_keep_7 rfl (lv_at hl 2 rfl) ?_
    refine lv_iconst (v := (-1)) hx hb dX10_keep_8 (by decide) ?_
    refine lv_icmp_eq (tgt := 22) hx hb dX10_keep_9 (by decide) (fun hc9 => ?_) (fun hc9 => ?_)
    · replace h := tT hc9 h
      exact wX10_keep_22 C h hH (lv_sub hl [0, 1, 2] rfl)
    · replace h := tF hc9 h
      refine lv_aload_n hx hb dX10_keep_12 rfl (lv_at hl 0 rfl) ?_
      refine lv_iload_n hx hb dX10_keep_13 rfl (lv_at hl 2 rfl) ?_
      obtain ⟨q14, e14, h⟩ := tB h
      refine rcI C hH hl.1 (mX10_isBody l e14) cf_RX10_339 ro_58 (RR_of (by decide) (by decide)) rfl (rest := []) rfl (Nat.le_of_ble_eq_true rfl) dX10_keep_14 ?_
      intro hz14 H locs hH
      refine lv_if_ne (tgt := 22) hx hb dX10_keep_17 (by decide) (fun hc17 => ?_) (fun hc17 => ?_)
      · replace h := tF hc17 h
        exact wX10_keep_22 C h hH (lv_sub hl [0, 1, 2] rfl)
      · replace h := tT hc17 h
        exact wX10_keep_20 C h hH (lv_sub hl [] rfl)
set_option maxHeartbeats 2000000 in
set_option maxRecDepth 20000 in
theorem mX8_layRow (l : Launch) {D : va_G} {ca : Nat → ClassId} {A : Nat → Prop} {ad : Nat → Nat} {v0 : Nat} {v1 : Int32} {v2 : Int32} {mm : Mm} {q : Unit × Mm} (h : dX8_layRow v0 v1 v2 mm = some q) : Met l yX8_layRow (wsOf yX8_layRow cX8_layRow 3 none) (rmk 2) (PcX WN ad ca WS D A [.ref (ad v0), .int v1, .int v2] mm) (QcV WN ad ca WS D A q) 0 0 A := by
  unfold dX8_layRow at h
  refine ent (by decide) (Nat.le_of_ble_eq_true rfl) (fun p e s m args below meth c hargs C hH ls hl => ?_)
  have hx := C.1
  have hb := C.2.1
  have hl : lv_has ls 3 [(0, .ref (ad v0)), (1, .int v1), (2, .int v2)] := hl
  obtain ⟨ho0, h⟩ := tC h
  refine lv_aload_n hx hb dX8_layRow_0 rfl (lv_at hl 0 rfl) ?_
  refine lv_iconst (v := 2) hx hb dX8_layRow_1 (by decide) ?_
  refine rpI C hH (fpSH_RX8_15 ho0) rfl rfl dX8_layRow_2 (fun H locs hH => ?_)
  refine lv_aload_n hx hb dX8_layRow_5 rfl (lv_at hl 0 rfl) ?_
  refine lv_iload_n hx hb dX8_layRow_6 rfl (lv_at hl 1 rfl) ?_
  refine rpI C hH (fpSH_RX8_22 ho0) rfl rfl dX8_layRow_7 (fun H locs hH => ?_)
  refine lv_aload_n hx hb dX8_layRow_10 rfl (lv_at hl 0 rfl) ?_
  refine lv_iload_n hx hb dX8_layRow_11 rfl (lv_at hl 2 rfl) ?_
  refine rpI C hH (fpSH_RX8_25 ho0) rfl rfl dX8_layRow_12 (fun H locs hH => ?_)
  refine lv_aload_n hx hb dX8_layRow_15 rfl (lv_at hl 0 rfl) ?_
  refine rgS C hH (fsSH_RX8_11 ho0) dX8_layRow_16 ?_
  refine lv_lconst (v := 0) hx hb dX8_layRow_19 (by decide) ?_
  refine rsV C hH hl.1 (q := ((), flL (sI (sI (sI mm v0 1 2) v0 3 v1) v0 4 v2) (v0 + 6) 60 0)) (mJ7_fill_d0a16 l (shE ho0).2.2.1 (shE ho0).2.2.2 (by decide)) cs_RX8_28 (RR_of (by decide) (by decide)) rfl (rest := []) rfl (Nat.le_of_ble_eq_true rfl) dX8_layRow_20 ?_
  intro H locs hH
  have h := Option.some.inj h
  subst h
  exact retV C hH dX8_layRow_23
end WALK
