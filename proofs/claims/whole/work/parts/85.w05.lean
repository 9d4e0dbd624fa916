/-! ===== the walks: each method by its denotation (laid by wip/whole/gen.py) ===== -/
section WALK
variable {p : Program} {l : Launch} {e : Env} {s : State} {m : MethodId} {args : Array Value} {below : List Frame} {meth : Method} {c : Code} {H : Heap} {locs : List Loc} {Q : State → Prop} {cells slots : Nat} {ls : Array Slot} {D : va_G} {ca : Nat → ClassId} {A : Nat → Prop} {ad : Nat → Nat}
set_option maxHeartbeats 2000000 in
set_option maxRecDepth 20000 in
theorem wX2_dealOne_172 (C : Cx D ca A p s m args meth c cX2_dealOne RX2 8 none) {q : Unit × Mm} {k54 : Int32 → Int32 → Mm → Option (Unit × Mm)} (hk54 : ∀ (v1 : Int32) (v3 : Int32) (mm : Mm), k54 v1 v3 mm = some q → ∀ (H : Heap) (locs : List Loc) (ls : Array Slot), Hx WN ad ca WS D A s.heap mm H locs → lv_has ls 8 [(0, .ref (ad 19)), (1, .int v1), (3, .int v3)] → W p l e (rmk 5) s m args below meth c H locs 0 0 (MQ below (QcV WN ad ca WS D A q) args s 0 0 A) (F0 m 54 ls [])) {v1 : Int32} {v3 : Int32} {mm : Mm} (h : DX2_dealOne_172 k54 v1 v3 mm = some q) (hH : Hx WN ad ca WS D A s.heap mm H locs) (hl : lv_has ls 8 [(0, .ref (ad 19)), (1, .int v1), (3, .int v3)]) : W p l e (rmk 5) s m args below meth c H locs 0 0 (MQ below (QcV WN ad ca WS D A q) args s 0 0 A) (F0 m 172 ls []) := by
  unfold DX2_dealOne_172 at h
  have hx := C.1
  have hb := C.2.1
  refine lv_iinc (v := (v3 + (-1))) (lv' := [(3, .int (v3 + (-1))), (0, .ref (ad 19)), (1, .int v1)]) hx hb dX2_dealOne_172 hl (k := 2) rfl rfl (by decide) rfl (fun ls hl => ?_)
  refine lv_goto (tgt := 54) hx hb dX2_dealOne_175 (by decide) ?_
  exact hk54 _ _ _ h _ _ _ hH (lv_sub hl [1, 2, 0] rfl)
set_option maxHeartbeats 2000000 in
set_option maxRecDepth 20000 in
theorem wX2_dealOne_166 (C : Cx D ca A p s m args meth c cX2_dealOne RX2 8 none) {q : Unit × Mm} {k54 : Int32 → Int32 → Mm → Option (Unit × Mm)} (hk54 : ∀ (v1 : Int32) (v3 : Int32) (mm : Mm), k54 v1 v3 mm = some q → ∀ (H : Heap) (locs : List Loc) (ls : Array Slot), Hx WN ad ca WS D A s.heap mm H locs → lv_has ls 8 [(0, .ref (ad 19)), (1, .int v1), (3, .int v3)] → W p l e (rmk 5) s m args below meth c H locs 0 0 (MQ below (QcV WN ad ca WS D A q) args s 0 0 A) (F0 m 54 ls [])) {k61 : Int32 → Int32 → Int32 → Mm → Option (Unit × Mm)} (hk61 : ∀ (v1 : Int32) (v3 : Int32) (v4 : Int32) (mm : Mm), k61 v1 v3 v4 mm = some q → ∀ (H : Heap) (locs : List Loc) (ls : Array Slot), Hx WN ad ca WS D A s.heap mm H locs → lv_has ls 8 [(0, .ref (ad 19)), (1, .int v1), (3, .int v3), (4, .int v4)] → W p l e (rmk 5) s m args below meth c H locs 0 0 (MQ below (QcV WN ad ca WS D A q) args s 0 0 A) (F0 m 61 ls [])) {v1 : Int32} {v3 : Int32} {v4 : Int32} {mm : Mm} (h : DX2_dealOne_166 k54 k61 v1 v3 v4 mm = some q) (hH : Hx WN ad ca WS D A s.heap mm H locs) (hl : lv_has ls 8 [(0, .ref (ad 19)), (1, .int v1), (3, .int v3), (4, .int v4)]) : W p l e (rmk 5) s m args below meth c H locs 0 0 (MQ below (QcV WN ad ca WS D A q) args s 0 0 A) (F0 m 166 ls []) := by
  unfold DX2_dealOne_166 at h
  have hx := C.1
  have hb := C.2.1
  refine lv_iinc (v := (v4 + 1)) (lv' := [(4, .int (v4 + 1)), (0, .ref (ad 19)), (1, .int v1), (3, .int v3)]) hx hb dX2_dealOne_166 hl (k := 3) rfl rfl (by decide) rfl (fun ls hl => ?_)
  refine lv_goto (tgt := 61) hx hb dX2_dealOne_169 (by decide) ?_
  exact hk61 _ _ _ _ h _ _ _ hH (lv_sub hl [1, 2, 3, 0] rfl)
set_option maxHeartbeats 2000000 in
set_option maxRecDepth 20000 in
theorem wbX2_dealOne_61 (C : Cx D ca A p s m args meth c cX2_dealOne RX2 8 none) {q : Unit × Mm} {k54 : Int32 → Int32 → Mm → Option (Unit × Mm)} (hk54 : ∀ (v1 : Int32) (v3 : Int32) (mm : Mm), k54 v1 v3 mm = some q → ∀ (H : Heap) (locs : List Loc) (ls : Array Slot), Hx WN ad ca WS D A s.heap mm H locs → lv_has ls 8 [(0, .ref (ad 19)), (1, .int v1), (3, .int v3)] → W p l e (rmk 5) s m args below meth c H locs 0 0 (MQ below (QcV WN ad ca WS D A q) args s 0 0 A) (F0 m 54 ls [])) {k61 : Int32 → Int32 → Int32 → Mm → Option (Unit × Mm)} (hk61 : ∀ (v1 : Int32) (v3 : Int32) (v4 : Int32) (mm : Mm), k61 v1 v3 v4 mm = some q → ∀ (H : Heap) (locs : List Loc) (ls : Array Slot), Hx WN ad ca WS D A s.heap mm H locs → lv_has ls 8 [(0, .ref (ad 19)), (1, .int v1), (3, .int v3), (4, .int v4)] → W p l e (rmk 5) s m args below meth c H locs 0 0 (MQ below (QcV WN ad ca WS D A q) args s 0 0 A) (F0 m 61 ls [])) {v1 : Int32} {v3 : Int32} {v4 : Int32} {mm : Mm} (h : BX2_dealOne_61 k54 k61 v1 v3 v4 mm = some q) (hH : Hx WN ad ca WS D A s.heap mm H locs) (hl : lv_has ls 8 [(0, .ref (ad 19)), (1, .int v1), (3, .int v3), (4, .int v4)]) : W p l e (rmk 5) s m args below meth c H locs 0 0 (MQ below (QcV WN ad ca WS D A q) args s 0 0 A) (F0 m 61 ls []) := by
  unfold BX2_dealOne_61 at h
  have hx := C.1
  have hb := C.2.1
  refine lv_iload hx hb dX2_dealOne_61 (lv_at hl 3 rfl) ?_
  refine lv_aload_n hx hb dX2_dealOne_63 rfl (lv_at hl 0 rfl) ?_
  refine rgS C hH fs_RX2_22_19 dX2_dealOne_64 ?_
  refine rgI C hH fi_RX2_81_1 dX2_dealOne_67 ?_
  refine lv_icmp_ge (tgt := 172) hx hb dX2_dealOne_70 (by decide) (fun hc70 => ?_) (fun hc70 => ?_)
  · replace h := tT hc70 h
    exact wX2_dealOne_172 C hk54 h hH (lv_sub hl [0, 1, 2] rfl)
  · replace h := tF hc70 h
    refine lv_aload_n hx hb dX2_dealOne_73 rfl (lv_at hl 0 rfl) ?_
    refine rgS C hH fs_RX2_15_19 dX2_dealOne_74 ?_
    refine lv_iload_n hx hb dX2_dealOne_77 rfl (lv_at hl 2 rfl) ?_
    obtain ⟨hi78, h⟩ := tC h
    refine raL C hH (k := (Int32.toNatClampNeg v3)) (by decide) (show WS 21 = .inr (3, 64, 0) from rfl) hi78 rfl dX2_dealOne_78 ?_
    refine rldc2 C (v := (-1)) k_RX2_63 dX2_dealOne_79 ?_
    refine lc_eq (tgt := 172) hx hb dX2_dealOne_82 dX2_dealOne_83 (by decide) (fun hc83 => ?_) (fun hc83 => ?_)
    · replace h := tT hc83 h
      exact wX2_dealOne_172 C hk54 h hH (lv_sub hl [0, 1, 2] rfl)
    · replace h := tF hc83 h
      refine lv_iload_n hx hb dX2_dealOne_86 rfl (lv_at hl 2 rfl) ?_
      refine lv_iload hx hb dX2_dealOne_87 (lv_at hl 3 rfl) ?_
      refine lv_ishr' hx hb dX2_dealOne_89 ?_
      refine lv_iconst (v := 1) hx hb dX2_dealOne_90 (by decide) ?_
      refine lv_iand hx hb dX2_dealOne_91 ?_
      refine lv_if_ne (tgt := 166) hx hb dX2_dealOne_92 (by decide) (fun hc92 => ?_) (fun hc92 => ?_)
      · replace h := tF hc92 h
        exact wX2_dealOne_166 C hk54 hk61 h hH (lv_sub hl [0, 1, 2, 3] rfl)
      · replace h := tT hc92 h
        refine lv_aload_n hx hb dX2_dealOne_95 rfl (lv_at hl 0 rfl) ?_
        refine rgS C hH fs_RX2_9_19 dX2_dealOne_96 ?_
        refine lv_iload hx hb dX2_dealOne_99 (lv_at hl 3 rfl) ?_
        obtain ⟨hi101, h⟩ := tC h
        refine raI C hH (k := (Int32.toNatClampNeg v4)) (by decide) (show WS 20 = .inr (0, 10, 0) from rfl) hi101 rfl dX2_dealOne_101 ?_
        refine lv_if_lt (tgt := 166) hx hb dX2_dealOne_102 (by decide) (fun hc102 => ?_) (fun hc102 => ?_)
        · replace h := tT hc102 h
          exact wX2_dealOne_166 C hk54 hk61 h hH (lv_sub hl [0, 1, 2, 3] rfl)
        · replace h := tF hc102 h
          refine lv_iload_n hx hb dX2_dealOne_105 rfl (lv_at hl 2 rfl) ?_
          refine lv_iconst (v := 1) hx hb dX2_dealOne_106 (by decide) ?_
          refine lv_iload hx hb dX2_dealOne_107 (lv_at hl 3 rfl) ?_
          refine lv_ishl' hx hb dX2_dealOne_109 ?_
          refine lv_ior hx hb dX2_dealOne_110 ?_
          refine lv_istore (lv' := [(5, .int (v3 ||| (iShl 1 v4))), (0, .ref (ad 19)), (1, .int v1), (3, .int v3), (4, .int v4)]) hx hb dX2_dealOne_111 hl (by decide) rfl (fun ls hl => ?_)
          refine lv_aload_n hx hb dX2_dealOne_113 rfl (lv_at hl 1 rfl) ?_
          refine rgS C hH fs_RX2_15_19 dX2_dealOne_114 ?_
          refine lv_iload_n hx hb dX2_dealOne_117 rfl (lv_at hl 3 rfl) ?_
          obtain ⟨hi118, h⟩ := tC h
          refine raL C hH (k := (Int32.toNatClampNeg v3)) (by decide) (show WS 21 = .inr (3, 64, 0) from rfl) hi118 rfl dX2_dealOne_118 ?_
          refine lv_aload_n hx hb dX2_dealOne_119 rfl (lv_at hl 1 rfl) ?_
          refine rgS C hH fs_RX2_9_19 dX2_dealOne_120 ?_
          refine lv_iload hx hb dX2_dealOne_123 (lv_at hl 4 rfl) ?_
          obtain ⟨hi125, h⟩ := tC h
          refine raI C hH (k := (Int32.toNatClampNeg v4)) (by decide) (show WS 20 = .inr (0, 10, 0) from rfl) hi125 rfl dX2_dealOne_125 ?_
          refine lv_i2l' hx hb dX2_dealOne_126 ?_
          refine rldc2 C (v := 1771561) k_RX2_87 dX2_dealOne_127 ?_
          refine lv_lmul hx hb dX2_dealOne_130 ?_
          refine lv_ladd hx hb dX2_dealOne_131 ?_
          refine lv_bipush (v := 10) hx hb dX2_dealOne_132 (by decide) ?_
          refine lv_iload_n hx hb dX2_dealOne_134 rfl (lv_at hl 2 rfl) ?_
          refine lv_isub hx hb dX2_dealOne_135 ?_
          refine rst C hH C.2.2.2.2.2.2.2.2.2.2.2.2.1 st_RX2_89 dX2_dealOne_136 (fun t136 hT136 => ?_)
          refine lv_iload hx hb dX2_dealOne_139 (lv_at hl 4 rfl) ?_
          obtain ⟨hi141, h⟩ := tC h
          refine rsti C hH hT136 hi141 dX2_dealOne_141 ?_
          refine lv_imul hx hb dX2_dealOne_142 ?_
          refine lv_i2l' hx hb dX2_dealOne_143 ?_
          refine lv_ladd hx hb dX2_dealOne_144 ?_
          refine lv_lstore (lv' := [(6, .long (((gL mm 21 (Int32.toNatClampNeg v3)) + ((Int32.toInt64 (gI mm 20 (Int32.toNatClampNeg v4))) * 1771561)) + (Int32.toInt64 ((10 - v1) * (tbPLACES (Int32.toNatClampNeg v4)))))), (5, .int (v3 ||| (iShl 1 v4))), (0, .ref (ad 19)), (1, .int v1), (3, .int v3), (4, .int v4)]) hx hb dX2_dealOne_145 hl (by decide) rfl (fun ls hl => ?_)
          refine lv_aload_n hx hb dX2_dealOne_147 rfl (lv_at hl 2 rfl) ?_
          refine rgS C hH fs_RX2_15_19 dX2_dealOne_148 ?_
          refine lv_iload hx hb dX2_dealOne_151 (lv_at hl 1 rfl) ?_
          refine lv_aload_n hx hb dX2_dealOne_153 rfl (lv_at hl 2 rfl) ?_
          refine rgS C hH fs_RX2_15_19 dX2_dealOne_154 ?_
          refine lv_iload hx hb dX2_dealOne_157 (lv_at hl 1 rfl) ?_
          obtain ⟨hi159, h⟩ := tC h
          refine raL C hH (k := (Int32.toNatClampNeg (v3 ||| (iShl 1 v4)))) (by decide) (show WS 21 = .inr (3, 64, 0) from rfl) hi159 rfl dX2_dealOne_159 ?_
          refine lv_lload hx hb dX2_dealOne_160 (lv_at hl 0 rfl) ?_
          refine rmaxl C hl.1 mf_RX2_75 (RR_of (by decide) (by decide)) (Nat.le_of_ble_eq_true rfl) dX2_dealOne_162 ?_
          obtain ⟨hi165, h⟩ := tC h
          refine rwL C hH (k := (Int32.toNatClampNeg (v3 ||| (iShl 1 v4)))) (by decide) (show WS 21 = .inr (3, 64, 0) from rfl) hi165 rfl dX2_dealOne_165 (fun H locs hH => ?_)
          exact wX2_dealOne_166 C hk54 hk61 h hH (lv_sub hl [2, 3, 4, 5] rfl)
set_option maxHeartbeats 2000000 in
set_option maxRecDepth 20000 in
theorem wX2_dealOne_61 (C : Cx D ca A p s m args meth c cX2_dealOne RX2 8 none) {q : Unit × Mm} {k54 : Int32 → Int32 → Mm → Option (Unit × Mm)} (hk54 : ∀ (v1 : Int32) (v3 : Int32) (mm : Mm), k54 v1 v3 mm = some q → ∀ (H : Heap) (locs : List Loc) (ls : Array Slot), Hx WN ad ca WS D A s.heap mm H locs → lv_has ls 8 [(0, .ref (ad 19)), (1, .int v1), (3, .int v3)] → W p l e (rmk 5) s m args below meth c H locs 0 0 (MQ below (QcV WN ad ca WS D A q) args s 0 0 A) (F0 m 54 ls [])) : ∀ (N : Nat) (v1 : Int32) (v3 : Int32) (v4 : Int32) (mm : Mm), DX2_dealOne_61 k54 N v1 v3 v4 mm = some q → ∀ (H : Heap) (locs : List Loc) (ls : Array Slot), Hx WN ad ca WS D A s.heap mm H locs → lv_has ls 8 [(0, .ref (ad 19)), (1, .int v1), (3, .int v3), (4, .int v4)] → W p l e (rmk 5) s m args below meth c H locs 0 0 (MQ below (QcV WN ad ca WS D A q) args s 0 0 A) (F0 m 61 ls []) := by
  intro N
  induction N with
  | zero =>
    intro v1 v3 v4 mm h
    have h2 : (none : Option (Unit × Mm)) = some q := h
    cases h2
  | succ N ih =>
    intro v1 v3 v4 mm h H locs ls hH hl
    exact wbX2_dealOne_61 C hk54 ih h hH hl
set_option maxHeartbeats 2000000 in
set_option maxRecDepth 20000 in
theorem wbX2_dealOne_54 (C : Cx D ca A p s m args meth c cX2_dealOne RX2 8 none) {q : Unit × Mm} {k54 : Int32 → Int32 → Mm → Option (Unit × Mm)} (hk54 : ∀ (v1 : Int32) (v3 : Int32) (mm : Mm), k54 v1 v3 mm = some q → ∀ (H : Heap) (locs : List Loc) (ls : Array Slot), Hx WN ad ca WS D A s.heap mm H locs → lv_has ls 8 [(0, .ref (ad 19)), (1, .int v1), (3, .int v3)] → W p l e (rmk 5) s m args below meth c H locs 0 0 (MQ below (QcV WN ad ca WS D A q) args s 0 0 A) (F0 m 54 ls [])) {v1 : Int32} {v3 : Int32} {mm : Mm} (h : BX2_dealOne_54 k54 v1 v3 mm = some q) (hH : Hx WN ad ca WS D A s.heap mm H locs) (hl : lv_has ls 8 [(0, .ref (ad 19)), (1, .int v1), (3, .int v3)]) : W p l e (rmk 5) s m args below meth c H locs 0 0 (MQ below (QcV WN ad ca WS D A q) args s 0 0 A) (F0 m 54 ls []) := by
  unfold BX2_dealOne_54 at h
  have hx := C.1
  have hb := C.2.1
  refine lv_iload_n hx hb dX2_dealOne_54 rfl (lv_at hl 2 rfl) ?_
  refine lv_if_lt (tgt := 178) hx hb dX2_dealOne_55 (by decide) (fun hc55 => ?_) (fun hc55 => ?_)
  · replace h := tT hc55 h
    have h := Option.some.inj h
    subst h
    exact retV C hH dX2_dealOne_178
  · replace h := tF hc55 h
    refine lv_iconst (v := 0) hx hb dX2_dealOne_58 (by decide) ?_
    refine lv_istore (lv' := [(4, .int 0), (0, .ref (ad 19)), (1, .int v1), (3, .int v3)]) hx hb dX2_dealOne_59 hl (by decide) rfl (fun ls hl => ?_)
    exact wX2_dealOne_61 C hk54 FU _ _ _ _ h _ _ _ hH (lv_sub hl [1, 2, 3, 0] rfl)
set_option maxHeartbeats 2000000 in
set_option maxRecDepth 20000 in
theorem wX2_dealOne_54 (C : Cx D ca A p s m args meth c cX2_dealOne RX2 8 none) {q : Unit × Mm} : ∀ (N : Nat) (v1 : Int32) (v3 : Int32) (mm : Mm), DX2_dealOne_54 N v1 v3 mm = some q → ∀ (H : Heap) (locs : List Loc) (ls : Array Slot), Hx WN ad ca WS D A s.heap mm H locs → lv_has ls 8 [(0, .ref (ad 19)), (1, .int v1), (3, .int v3)] → W p l e (rmk 5) s m args below meth c H locs 0 0 (MQ below (QcV WN ad ca WS D A q) args s 0 0 A) (F0 m 54 ls []) := by
  intro N
  induction N with
  | zero =>
    intro v1 v3 mm h
    have h2 : (none : Option (Unit × Mm)) = some q := h
    cases h2
  | succ N ih =>
    intro v1 v3 mm h H locs ls hH hl
    exact wbX2_dealOne_54 C ih h hH hl
set_option maxHeartbeats 2000000 in
set_option maxRecDepth 20000 in
theorem wbX2_dealOne_12 (C : Cx D ca A p s m args meth c cX2_dealOne RX2 8 none) {q : Unit × Mm} {k12 : Int32 → Int32 → Int32 → Mm → Option (Unit × Mm)} (hk12 : ∀ (v1 : Int32) (v2 : Int32) (v3 : Int32) (mm : Mm), k12 v1 v2 v3 mm = some q → ∀ (H : Heap) (locs : List Loc) (ls : Array Slot), Hx WN ad ca WS D A s.heap mm H locs → lv_has ls 8 [(0, .ref (ad 19)), (1, .int v1), (2, .int v2), (3, .int v3)] → W p l e (rmk 5) s m args below meth c H locs 0 0 (MQ below (QcV WN ad ca WS D A q) args s 0 0 A) (F0 m 12 ls [])) {v1 : Int32} {v2 : Int32} {v3 : Int32} {mm : Mm} (h : BX2_dealOne_12 k12 v1 v2 v3 mm = some q) (hH : Hx WN ad ca WS D A s.heap mm H locs) (hl : lv_has ls 8 [(0, .ref (ad 19)), (1, .int v1), (2, .int v2), (3, .int v3)]) : W p l e (rmk 5) s m args below meth c H locs 0 0 (MQ below (QcV WN ad ca WS D A q) args s 0 0 A) (F0 m 12 ls []) := by
  unfold BX2_dealOne_12 at h
  have hx := C.1
  have hb := C.2.1
  refine lv_iload_n hx hb dX2_dealOne_12 rfl (lv_at hl 3 rfl) ?_
  refine lv_aload_n hx hb dX2_dealOne_13 rfl (lv_at hl 0 rfl) ?_
  refine rgS C hH fs_RX2_22_19 dX2_dealOne_14 ?_
  refine rgI C hH fi_RX2_81_1 dX2_dealOne_17 ?_
  refine lv_icmp_ge (tgt := 46) hx hb dX2_dealOne_20 (by decide) (fun hc20 => ?_) (fun hc20 => ?_)
  · replace h := tT hc20 h
    refine lv_aload_n hx hb dX2_dealOne_46 rfl (lv_at hl 0 rfl) ?_
    refine rgS C hH fs_RX2_15_19 dX2_dealOne_47 ?_
    refine wln C hH (v := 64) (o := 21) (by decide) (show WS 21 = .inr (3, 64, 0) from rfl) rfl (by decide) dX2_dealOne_50 ?_
    refine lv_iconst (v := 1) hx hb dX2_dealOne_51 (by decide) ?_
    refine lv_isub hx hb dX2_dealOne_52 ?_
    refine lv_istore_n (lv' := [(3, .int (64 - 1)), (0, .ref (ad 19)), (1, .int v1), (2, .int v2)]) hx hb dX2_dealOne_53 rfl hl (by decide) rfl (fun ls hl => ?_)
    exact wX2_dealOne_54 C FU _ _ _ h _ _ _ hH (lv_sub hl [1, 2, 0] rfl)
  · replace h := tF hc20 h
    refine lv_aload_n hx hb dX2_dealOne_23 rfl (lv_at hl 0 rfl) ?_
    refine rgS C hH fs_RX2_9_19 dX2_dealOne_24 ?_
    refine lv_iload_n hx hb dX2_dealOne_27 rfl (lv_at hl 3 rfl) ?_
    refine lv_aload_n hx hb dX2_dealOne_28 rfl (lv_at hl 0 rfl) ?_
    refine rgS C hH fs_RX2_22_19 dX2_dealOne_29 ?_
    refine lv_iload_n hx hb dX2_dealOne_32 rfl (lv_at hl 3 rfl) ?_
    refine lv_iload_n hx hb dX2_dealOne_33 rfl (lv_at hl 2 rfl) ?_
    obtain ⟨q34, e34, h⟩ := tB h
    refine rcI C hH hl.1 (mX7_plainWorth l e34) cf_RX2_84 ro_1 (RR_of (by decide) (by decide)) rfl (rest := [.int v3, .ref (ad 20)]) rfl (Nat.le_of_ble_eq_true rfl) dX2_dealOne_34 ?_
    intro hz34 H locs hH
    refine lv_iload_n hx hb dX2_dealOne_37 rfl (lv_at hl 2 rfl) ?_
    refine lv_isub hx hb dX2_dealOne_38 ?_
    obtain ⟨hi39, h⟩ := tC h
    refine rwI C hH (k := (Int32.toNatClampNeg v3)) (by decide) (show WS 20 = .inr (0, 10, 0) from rfl) hi39 rfl dX2_dealOne_39 (fun H locs hH => ?_)
    refine lv_iinc (v := (v3 + 1)) (lv' := [(3, .int (v3 + 1)), (0, .ref (ad 19)), (1, .int v1), (2, .int v2)]) hx hb dX2_dealOne_40 hl (k := 3) rfl rfl (by decide) rfl (fun ls hl => ?_)
    refine lv_goto (tgt := 12) hx hb dX2_dealOne_43 (by decide) ?_
    exact hk12 _ _ _ _ h _ _ _ hH (lv_sub hl [1, 2, 3, 0] rfl)
set_option maxHeartbeats 2000000 in
set_option maxRecDepth 20000 in
theorem wX2_dealOne_12 (C : Cx D ca A p s m args meth c cX2_dealOne RX2 8 none) {q : Unit × Mm} : ∀ (N : Nat) (v1 : Int32) (v2 : Int32) (v3 : Int32) (mm : Mm), DX2_dealOne_12 N v1 v2 v3 mm = some q → ∀ (H : Heap) (locs : List Loc) (ls : Array Slot), Hx WN ad ca WS D A s.heap mm H locs → lv_has ls 8 [(0, .ref (ad 19)), (1, .int v1), (2, .int v2), (3, .int v3)] → W p l e (rmk 5) s m args below meth c H locs 0 0 (MQ below (QcV WN ad ca WS D A q) args s 0 0 A) (F0 m 12 ls []) := by
  intro N
  induction N with
  | zero =>
    intro v1 v2 v3 mm h
    have h2 : (none : Option (Unit × Mm)) = some q := h
    cases h2
  | succ N ih =>
    intro v1 v2 v3 mm h H locs ls hH hl
    exact wbX2_dealOne_12 C ih h hH hl
set_option maxHeartbeats 2000000 in
set_option maxRecDepth 20000 in
theorem mX2_dealOne (l : Launch) {D : va_G} {ca : Nat → ClassId} {A : Nat → Prop} {ad : Nat → Nat} {v1 : Int32} {mm : Mm} {q : Unit × Mm} (h : dX2_dealOne v1 mm = some q) : Met l yX2_dealOne (wsOf yX2_dealOne cX2_dealOne 8 none) (rmk 5) (PcX WN ad ca WS D A [.ref (ad 19), .int v1] mm) (QcV WN ad ca WS D A q) 0 0 A := by
  unfold dX2_dealOne at h
  refine ent (by decide) (Nat.le_of_ble_eq_true rfl) (fun p e s m args below meth c hargs C hH ls hl => ?_)
  have hx := C.1
  have hb := C.2.1
  have hl : lv_has ls 8 [(0, .ref (ad 19)), (1, .int v1)] := hl
  refine lv_aload_n hx hb dX2_dealOne_0 rfl (lv_at hl 0 rfl) ?_
  refine rgS C hH fs_RX2_22_19 dX2_dealOne_1 ?_
  refine lv_iconst (v := 5) hx hb dX2_dealOne_4 (by decide) ?_
  refine lv_iload_n hx hb dX2_dealOne_5 rfl (lv_at hl 1 rfl) ?_
  obtain ⟨q6, e6, h⟩ := tB h
  refine rcI C hH hl.1 (mX7_told l e6) cf_RX2_38 ro_1 (RR_of (by decide) (by decide)) rfl (rest := []) rfl (Nat.le_of_ble_eq_true rfl) dX2_dealOne_6 ?_
  intro hz6 H locs hH
  refine lv_istore_n (lv' := [(2, .int q6.1), (0, .ref (ad 19)), (1, .int v1)]) hx hb dX2_dealOne_9 rfl hl (by decide) rfl (fun ls hl => ?_)
  refine lv_iconst (v := 0) hx hb dX2_dealOne_10 (by decide) ?_
  refine lv_istore_n (lv' := [(3, .int 0), (2, .int q6.1), (0, .ref (ad 19)), (1, .int v1)]) hx hb dX2_dealOne_11 rfl hl (by decide) rfl (fun ls hl => ?_)
  exact wX2_dealOne_12 C FU _ _ _ _ h _ _ _ hH (lv_sub hl [2, 3, 1, 0] rfl)
set_option maxHeartbeats 2000000 in
set_option maxRecDepth 20000 in
theorem wbX2_bestDeal_56 (C : Cx D ca A p s m args meth c cX2_bestDeal RX2 4 (some .long)) {q : Int64 × Mm} {k56 : Int64 → Int32 → Mm → Option (Int64 × Mm)} (hk56 : ∀ (v1 : Int64) (v3 : Int32) (mm : Mm), k56 v1 v3 mm = some q → ∀ (H : Heap) (locs : List Loc) (ls : Array Slot), Hx WN ad ca WS D A s.heap mm H locs → lv_has ls 4 [(0, .ref (ad 19)), (1, .long v1), (3, .int v3)] → W p l e (rmk 6) s m args below meth c H locs 0 0 (MQ below (QcL WN ad ca WS D A q) args s 0 0 A) (F0 m 56 ls [])) {v1 : Int64} {v3 : Int32} {mm : Mm} (h : BX2_bestDeal_56 k56 v1 v3 mm = some q) (hH : Hx WN ad ca WS D A s.heap mm H locs) (hl : lv_has ls 4 [(0, .ref (ad 19)), (1, .long v1), (3, .int v3)]) : W p l e (rmk 6) s m args below meth c H locs 0 0 (MQ below (QcL WN ad ca WS D A q) args s 0 0 A) (F0 m 56 ls []) := by
  unfold BX2_bestDeal_56 at h
  have hx := C.1
  have hb := C.2.1
  refine lv_iload_n hx hb dX2_bestDeal_56 rfl (lv_at hl 2 rfl) ?_
  refine lv_aload_n hx hb dX2_bestDeal_57 rfl (lv_at hl 0 rfl) ?_
  refine rgS C hH fs_RX2_15_19 dX2_bestDeal_58 ?_
  refine wln C hH (v := 64) (o := 21) (by decide) (show WS 21 = .inr (3, 64, 0) from rfl) rfl (by decide) dX2_bestDeal_61 ?_
  refine lv_icmp_ge (tgt := 82) hx hb dX2_bestDeal_62 (by decide) (fun hc62 => ?_) (fun hc62 => ?_)
  · replace h := tT hc62 h
    refine lv_lload_n hx hb dX2_bestDeal_82 rfl (lv_at hl 1 rfl) ?_
    have h := Option.some.inj h
    subst h
    exact retL C hH dX2_bestDeal_83
  · replace h := tF hc62 h
    refine lv_lload_n hx hb dX2_bestDeal_65 rfl (lv_at hl 1 rfl) ?_
    refine lv_aload_n hx hb dX2_bestDeal_66 rfl (lv_at hl 0 rfl) ?_
    refine rgS C hH fs_RX2_15_19 dX2_bestDeal_67 ?_
    refine lv_iload_n hx hb dX2_bestDeal_70 rfl (lv_at hl 2 rfl) ?_
    obtain ⟨hi71, h⟩ := tC h
    refine raL C hH (k := (Int32.toNatClampNeg v3)) (by decide) (show WS 21 = .inr (3, 64, 0) from rfl) hi71 rfl dX2_bestDeal_71 ?_
    refine rmaxl C hl.1 mf_RX2_75 (RR_of (by decide) (by decide)) (Nat.le_of_ble_eq_true rfl) dX2_bestDeal_72 ?_
    refine lv_lstore_n (lv' := [(1, .long (lMax v1 (gL mm 21 (Int32.toNatClampNeg v3)))), (0, .ref (ad 19)), (3, .int v3)]) hx hb dX2_bestDeal_75 rfl hl (by decide) rfl (fun ls hl => ?_)
    refine lv_iinc (v := (v3 + 1)) (lv' := [(3, .int (v3 + 1)), (1, .long (lMax v1 (gL mm 21 (Int32.toNatClampNeg v3)))), (0, .ref (ad 19))]) hx hb dX2_bestDeal_76 hl (k := 2) rfl rfl (by decide) rfl (fun ls hl => ?_)
    refine lv_goto (tgt := 56) hx hb dX2_bestDeal_79 (by decide) ?_
    exact hk56 _ _ _ h _ _ _ hH (lv_sub hl [2, 1, 0] rfl)
set_option maxHeartbeats 2000000 in
set_option maxRecDepth 20000 in
theorem wX2_bestDeal_56 (C : Cx D ca A p s m args meth c cX2_bestDeal RX2 4 (some .long)) {q : Int64 × Mm} : ∀ (N : Nat) (v1 : Int64) (v3 : Int32) (mm : Mm), DX2_bestDeal_56 N v1 v3 mm = some q → ∀ (H : Heap) (locs : List Loc) (ls : Array Slot), Hx WN ad ca WS D A s.heap mm H locs → lv_has ls 4 [(0, .ref (ad 19)), (1, .long v1), (3, .int v3)] → W p l e (rmk 6) s m args below meth c H locs 0 0 (MQ below (QcL WN ad ca WS D A q) args s 0 0 A) (F0 m 56 ls []) := by
  intro N
  induction N with
  | zero =>
    intro v1 v3 mm h
    have h2 : (none : Option (Int64 × Mm)) = some q := h
    cases h2
  | succ N ih =>
    intro v1 v3 mm h H locs ls hH hl
    exact wbX2_bestDeal_56 C ih h hH hl
set_option maxHeartbeats 2000000 in
set_option maxRecDepth 20000 in
theorem wX2_bestDeal_46 (C : Cx D ca A p s m args meth c cX2_bestDeal RX2 4 (some .long)) {q : Int64 × Mm} {k19 : Int32 → Mm → Option (Int64 × Mm)} (hk19 : ∀ (v1 : Int32) (mm : Mm), k19 v1 mm = some q → ∀ (H : Heap) (locs : List Loc) (ls : Array Slot), Hx WN ad ca WS D A s.heap mm H locs → lv_has ls 4 [(0, .ref (ad 19)), (1, .int v1)] → W p l e (rmk 6) s m args below meth c H locs 0 0 (MQ below (QcL WN ad ca WS D A q) args s 0 0 A) (F0 m 19 ls [])) {v1 : Int32} {mm : Mm} (h : DX2_bestDeal_46 k19 v1 mm = some q) (hH : Hx WN ad ca WS D A s.heap mm H locs) (hl : lv_has ls 4 [(0, .ref (ad 19)), (1, .int v1)]) : W p l e (rmk 6) s m args below meth c H locs 0 0 (MQ below (QcL WN ad ca WS D A q) args s 0 0 A) (F0 m 46 ls []) := by
  unfold DX2_bestDeal_46 at h
  have hx := C.1
  have hb := C.2.1
  refine lv_iinc (v := (v1 + 1)) (lv' := [(1, .int (v1 + 1)), (0, .ref (ad 19))]) hx hb dX2_bestDeal_46 hl (k := 1) rfl rfl (by decide) rfl (fun ls hl => ?_)
  refine lv_goto (tgt := 19) hx hb dX2_bestDeal_49 (by decide) ?_
  exact hk19 _ _ h _ _ _ hH (lv_sub hl [1, 0] rfl)
set_option maxHeartbeats 2000000 in
set_option maxRecDepth 20000 in
theorem wbX2_bestDeal_19 (C : Cx D ca A p s m args meth c cX2_bestDeal RX2 4 (some .long)) {q : Int64 × Mm} {k19 : Int32 → Mm → Option (Int64 × Mm)} (hk19 : ∀ (v1 : Int32) (mm : Mm), k19 v1 mm = some q → ∀ (H : Heap) (locs : List Loc) (ls : Array Slot), Hx WN ad ca WS D A s.heap mm H locs → lv_has ls 4 [(0, .ref (ad 19)), (1, .int v1)] → W p l e (rmk 6) s m args below meth c H locs 0 0 (MQ below (QcL WN ad ca WS D A q) args s 0 0 A) (F0 m 19 ls [])) {v1 : Int32} {mm : Mm} (h : BX2_bestDeal_19 k19 v1 mm = some q) (hH : Hx WN ad ca WS D A s.heap mm H locs) (hl : lv_has ls 4 [(0, .ref (ad 19)), (1, .int v1)]) : W p l e (rmk 6) s m args below meth c H locs 0 0 (MQ below (QcL WN ad ca WS D A q) args s 0 0 A) (F0 m 19 ls []) := by
  unfold BX2_bestDeal_19 at h
  have hx := C.1
  have hb := C.2.1
  refine lv_iload_n hx hb dX2_bestDeal_19 rfl (lv_at hl 1 rfl) ?_
  refine lv_aload_n hx hb dX2_bestDeal_20 rfl (lv_at hl 0 rfl) ?_
  refine rgS C hH fs_RX2_22_19 dX2_bestDeal_21 ?_
  refine rgI C hH fi_RX2_68_1 dX2_bestDeal_24 ?_
  refine lv_icmp_ge (tgt := 52) hx hb dX2_bestDeal_27 (by decide) (fun hc27 => ?_) (fun hc27 => ?_)
  · replace h := tT hc27 h
    refine lv_lconst (v := 0) hx hb dX2_bestDeal_52 (by decide) ?_
    refine lv_lstore_n (lv' := [(1, .long 0), (0, .ref (ad 19))]) hx hb dX2_bestDeal_53 rfl hl (by decide) rfl (fun ls hl => ?_)
    refine lv_iconst (v := 0) hx hb dX2_bestDeal_54 (by decide) ?_
    refine lv_istore_n (lv' := [(3, .int 0), (1, .long 0), (0, .ref (ad 19))]) hx hb dX2_bestDeal_55 rfl hl (by decide) rfl (fun ls hl => ?_)
    exact wX2_bestDeal_56 C FU _ _ _ h _ _ _ hH (lv_sub hl [2, 1, 0] rfl)
  · replace h := tF hc27 h
    refine lv_aload_n hx hb dX2_bestDeal_30 rfl (lv_at hl 0 rfl) ?_
    refine rgS C hH fs_RX2_22_19 dX2_bestDeal_31 ?_
    refine lv_iload_n hx hb dX2_bestDeal_34 rfl (lv_at hl 1 rfl) ?_
    obtain ⟨q35, e35, h⟩ := tB h
    refine rcI C hH hl.1 (mX7_isFree l e35) cf_RX2_32 ro_1 (RR_of (by decide) (by decide)) rfl (rest := []) rfl (Nat.le_of_ble_eq_true rfl) dX2_bestDeal_35 ?_
    intro hz35 H locs hH
    refine lv_if_eq (tgt := 46) hx hb dX2_bestDeal_38 (by decide) (fun hc38 => ?_) (fun hc38 => ?_)
    · replace h := tT hc38 h
      exact wX2_bestDeal_46 C hk19 h hH (lv_sub hl [0, 1] rfl)
    · replace h := tF hc38 h
      refine lv_aload_n hx hb dX2_bestDeal_41 rfl (lv_at hl 0 rfl) ?_
      refine lv_iload_n hx hb dX2_bestDeal_42 rfl (lv_at hl 1 rfl) ?_
      obtain ⟨q43, e43, h⟩ := tB h
      refine rcV C hH hl.1 (mX2_dealOne l e43) cf_RX2_71 ro_19 (RR_of (by decide) (by decide)) rfl (rest := []) rfl (Nat.le_of_ble_eq_true rfl) dX2_bestDeal_43 ?_
      intro H locs hH
      exact wX2_bestDeal_46 C hk19 h hH (lv_sub hl [0, 1] rfl)
set_option maxHeartbeats 2000000 in
set_option maxRecDepth 20000 in
theorem wX2_bestDeal_19 (C : Cx D ca A p s m args meth c cX2_bestDeal RX2 4 (some .long)) {q : Int64 × Mm} : ∀ (N : Nat) (v1 : Int32) (mm : Mm), DX2_bestDeal_19 N v1 mm = some q → ∀ (H : Heap) (locs : List Loc) (ls : Array Slot), Hx WN ad ca WS D A s.heap mm H locs → lv_has ls 4 [(0, .ref (ad 19)), (1, .int v1)] → W p l e (rmk 6) s m args below meth c H locs 0 0 (MQ below (QcL WN ad ca WS D A q) args s 0 0 A) (F0 m 19 ls []) := by
  intro N
  induction N with
  | zero =>
    intro v1 mm h
    have h2 : (none : Option (Int64 × Mm)) = some q := h
    cases h2
  | succ N ih =>
    intro v1 mm h H locs ls hH hl
    exact wbX2_bestDeal_19 C ih h hH hl
set_option maxHeartbeats 2000000 in
set_option maxRecDepth 20000 in
theorem mX2_bestDeal (l : Launch) {D : va_G} {ca : Nat → ClassId} {A : Nat → Prop} {ad : Nat → Nat} {mm : Mm} {q : Int64 × Mm} (h : dX2_bestDeal mm = some q) : Met l yX2_bestDeal (wsOf yX2_bestDeal cX2_bestDeal 4 (some .long)) (rmk 6) (PcX WN ad ca WS D A [.ref (ad 19)] mm) (QcL WN ad ca WS D A q) 0 0 A := by
  unfold dX2_bestDeal at h
  refine ent (by decide) (Nat.le_of_ble_eq_true rfl) (fun p e s m args below meth c hargs C hH ls hl => ?_)
  have hx := C.1
  have hb := C.2.1
  have hl : lv_has ls 4 [(0, .ref (ad 19))] := hl
  refine lv_aload_n hx hb dX2_bestDeal_0 rfl (lv_at hl 0 rfl) ?_
  refine rgS C hH fs_RX2_15_19 dX2_bestDeal_1 ?_
  refine rldc2 C (v := (-1)) k_RX2_63 dX2_bestDeal_4 ?_
  refine rsV C hH hl.1 (q := ((), flL mm 21 64 (-1))) (mJ7_fill_d0a16 l (by decide) (show WS 21 = .inr (3, 64, 0) from rfl) (by decide)) cs_RX2_65 (RR_of (by decide) (by decide)) rfl (rest := []) rfl (Nat.le_of_ble_eq_true rfl) dX2_bestDeal_7 ?_
  intro H locs hH
  refine lv_aload_n hx hb dX2_bestDeal_10 rfl (lv_at hl 0 rfl) ?_
  refine rgS C hH fs_RX2_15_19 dX2_bestDeal_11 ?_
  refine lv_iconst (v := 0) hx hb dX2_bestDeal_14 (by decide) ?_
  refine lv_lconst (v := 0) hx hb dX2_bestDeal_15 (by decide) ?_
  refine rwL C hH (k := 0) (by decide) (show WS 21 = .inr (3, 64, 0) from rfl) (show inB 0 64 from by decide) (by decide) dX2_bestDeal_16 (fun H locs hH => ?_)
  refine lv_iconst (v := 0) hx hb dX2_bestDeal_17 (by decide) ?_
  refine lv_istore_n (lv' := [(1, .int 0), (0, .ref (ad 19))]) hx hb dX2_bestDeal_18 rfl hl (by decide) rfl (fun ls hl => ?_)
  exact wX2_bestDeal_19 C FU _ _ h _ _ _ hH (lv_sub hl [1, 0] rfl)
set_option maxHeartbeats 2000000 in
set_option maxRecDepth 20000 in
theorem mX2_dealtWorth (l : Launch) {D : va_G} {ca : Nat → ClassId} {A : Nat → Prop} {ad : Nat → Nat} {v1 : Int64} {mm : Mm} {q : Int32 × Mm} (h : dX2_dealtWorth v1 mm = some q) : Met l yX2_dealtWorth (wsOf yX2_dealtWorth cX2_dealtWorth 3 (some .int)) (rmk 1) (PcX WN ad ca WS D A [.ref (ad 19), .long v1] mm) (QcI WN ad ca WS D A pzT q) 0 0 A := by
  unfold dX2_dealtWorth at h
  refine ent (by decide) (Nat.le_of_ble_eq_true rfl) (fun p e s m args below meth c hargs C hH ls hl => ?_)
  have hx := C.1
  have hb := C.2.1
  have hl : lv_has ls 3 [(0, .ref (ad 19)), (1, .long v1)] := hl
  refine lv_lload_n hx hb dX2_dealtWorth_0 rfl (lv_at hl 1 rfl) ?_
  refine rldc2 C (v := 1771561) k_RX2_87 dX2_dealtWorth_1 ?_
  refine lv_ldiv hx hb dX2_dealtWorth_4 (by decide) ?_
  refine lv_l2i' hx hb dX2_dealtWorth_5 ?_
  have h := Option.some.inj h
  subst h
  exact retI C hH trivial dX2_dealtWorth_6
set_option maxHeartbeats 2000000 in
set_option maxRecDepth 20000 in
theorem wbX2_dealtSack_8 (C : Cx D ca A p s m args meth c cX2_dealtSack RX2 7 (some .int)) {q : Int32 × Mm} {k8 : Int64 → Int32 → Mm → Option (Int32 × Mm)} (hk8 : ∀ (v4 : Int64) (v6 : Int32) (mm : Mm), k8 v4 v6 mm = some q → ∀ (H : Heap) (locs : List Loc) (ls : Array Slot), Hx WN ad ca WS D A s.heap mm H locs → lv_has ls 7 [(4, .long v4), (6, .int v6)] → W p l e (rmk 1) s m args below meth c H locs 0 0 (MQ below (QcI WN ad ca WS D A pzT q) args s 0 0 A) (F0 m 8 ls [])) {v4 : Int64} {v6 : Int32} {mm : Mm} (h : BX2_dealtSack_8 k8 v4 v6 mm = some q) (hH : Hx WN ad ca WS D A s.heap mm H locs) (hl : lv_has ls 7 [(4, .long v4), (6, .int v6)]) : W p l e (rmk 1) s m args below meth c H locs 0 0 (MQ below (QcI WN ad ca WS D A pzT q) args s 0 0 A) (F0 m 8 ls []) := by
  unfold BX2_dealtSack_8 at h
  have hx := C.1
  have hb := C.2.1
  refine lv_iload hx hb dX2_dealtSack_8 (lv_at hl 1 rfl) ?_
  refine lv_bipush (v := 6) hx hb dX2_dealtSack_10 (by decide) ?_
  refine lv_icmp_ge (tgt := 29) hx hb dX2_dealtSack_12 (by decide) (fun hc12 => ?_) (fun hc12 => ?_)
  · replace h := tT hc12 h
    refine lv_lload hx hb dX2_dealtSack_29 (lv_at hl 0 rfl) ?_
    refine rldc2 C (v := 11) k_RX2_92 dX2_dealtSack_31 ?_
    refine lv_lrem' hx hb dX2_dealtSack_34 (by decide) ?_
    refine lv_l2i' hx hb dX2_dealtSack_35 ?_
    refine lv_istore (lv' := [(6, .int (Int64.toInt32 (lRem v4 11))), (4, .long v4)]) hx hb dX2_dealtSack_36 hl (by decide) rfl (fun ls hl => ?_)
    refine lv_iload hx hb dX2_dealtSack_38 (lv_at hl 0 rfl) ?_
    refine lv_if_ne (tgt := 48) hx hb dX2_dealtSack_40 (by decide) (fun hc40 => ?_) (fun hc40 => ?_)
    · replace h := tF hc40 h
      refine lv_bipush (v := 10) hx hb dX2_dealtSack_48 (by decide) ?_
      refine lv_iload hx hb dX2_dealtSack_50 (lv_at hl 0 rfl) ?_
      refine lv_isub hx hb dX2_dealtSack_52 ?_
      have h := Option.some.inj h
      subst h
      exact retI C hH trivial dX2_dealtSack_53
    · replace h := tT hc40 h
      refine lv_bipush (v := (-2)) hx hb dX2_dealtSack_43 (by decide) ?_
      refine lv_goto (tgt := 53) hx hb dX2_dealtSack_45 (by decide) ?_
      have h := Option.some.inj h
      subst h
      exact retI C hH trivial dX2_dealtSack_53
  · replace h := tF hc12 h
    refine lv_lload hx hb dX2_dealtSack_15 (lv_at hl 0 rfl) ?_
    refine rldc2 C (v := 11) k_RX2_92 dX2_dealtSack_17 ?_
    refine lv_ldiv hx hb dX2_dealtSack_20 (by decide) ?_
    refine lv_lstore (lv' := [(4, .long (v4 / 11)), (6, .int v6)]) hx hb dX2_dealtSack_21 hl (by decide) rfl (fun ls hl => ?_)
    refine lv_iinc (v := (v6 + 1)) (lv' := [(6, .int (v6 + 1)), (4, .long (v4 / 11))]) hx hb dX2_dealtSack_23 hl (k := 1) rfl rfl (by decide) rfl (fun ls hl => ?_)
    refine lv_goto (tgt := 8) hx hb dX2_dealtSack_26 (by decide) ?_
    exact hk8 _ _ _ h _ _ _ hH (lv_sub hl [1, 0] rfl)
set_option maxHeartbeats 2000000 in
set_option maxRecDepth 20000 in
theorem wX2_dealtSack_8 (C : Cx D ca A p s m args meth c cX2_dealtSack RX2 7 (some .int)) {q : Int32 × Mm} : ∀ (N : Nat) (v4 : Int64) (v6 : Int32) (mm : Mm), DX2_dealtSack_8 N v4 v6 mm = some q → ∀ (H : Heap) (locs : List Loc) (ls : Array Slot), Hx WN ad ca WS D A s.heap mm H locs → lv_has ls 7 [(4, .long v4), (6, .int v6)] → W p l e (rmk 1) s m args below meth c H locs 0 0 (MQ below (QcI WN ad ca WS D A pzT q) args s 0 0 A) (F0 m 8 ls []) := by
  intro N
  induction N with
  | zero =>
    intro v4 v6 mm h
    have h2 : (none : Option (Int32 × Mm)) = some q := h
    cases h2
  | succ N ih =>
    intro v4 v6 mm h H locs ls hH hl
    exact wbX2_dealtSack_8 C ih h hH hl
set_option maxHeartbeats 2000000 in
set_option maxRecDepth 20000 in
theorem mX2_dealtSack (l : Launch) {D : va_G} {ca : Nat → ClassId} {A : Nat → Prop} {ad : Nat → Nat} {v1 : Int64} {v3 : Int32} {mm : Mm} {q : Int32 × Mm} (h : dX2_dealtSack v1 v3 mm = some q) : Met l yX2_dealtSack (wsOf yX2_dealtSack cX2_dealtSack 7 (some .int)) (rmk 1) (PcX WN ad ca WS D A [.ref (ad 19), .long v1, .int v3] mm) (QcI WN ad ca WS D A pzT q) 0 0 A := by
  unfold dX2_dealtSack at h
  refine ent (by decide) (Nat.le_of_ble_eq_true rfl) (fun p e s m args below meth c hargs C hH ls hl => ?_)
  have hx := C.1
  have hb := C.2.1
  have hl : lv_has ls 7 [(0, .ref (ad 19)), (1, .long v1), (3, .int v3)] := hl
  refine lv_lload_n hx hb dX2_dealtSack_0 rfl (lv_at hl 1 rfl) ?_
  refine lv_lstore (lv' := [(4, .long v1), (0, .ref (ad 19)), (1, .long v1), (3, .int v3)]) hx hb dX2_dealtSack_1 hl (by decide) rfl (fun ls hl => ?_)
  refine lv_iload_n hx hb dX2_dealtSack_3 rfl (lv_at hl 3 rfl) ?_
  refine lv_iconst (v := 1) hx hb dX2_dealtSack_4 (by decide) ?_
  refine lv_iadd hx hb dX2_dealtSack_5 ?_
  refine lv_istore (lv' := [(6, .int (v3 + 1)), (4, .long v1), (0, .ref (ad 19)), (1, .long v1), (3, .int v3)]) hx hb dX2_dealtSack_6 hl (by decide) rfl (fun ls hl => ?_)
  exact wX2_dealtSack_8 C FU _ _ _ h _ _ _ hH (lv_sub hl [1, 0] rfl)
set_option maxHeartbeats 2000000 in
set_option maxRecDepth 20000 in
theorem wX9_dealt_20 (C : Cx D ca A p s m args meth c cX9_dealt RX9 4 (some .int)) {q : Int32 × Mm} {v1 : Int32} {mm : Mm} (h : DX9_dealt_20 v1 mm = some q) (hH : Hx WN ad ca WS D A s.heap mm H locs) (hl : lv_has ls 4 [(0, .ref (ad 0)), (1, .int v1)]) : W p l e (rmk 7) s m args below meth c H locs 0 0 (MQ below (QcI WN ad ca WS D A pzT q) args s 0 0 A) (F0 m 20 ls []) := by
  unfold DX9_dealt_20 at h
  have hx := C.1
  have hb := C.2.1
  refine lv_aload_n hx hb dX9_dealt_20 rfl (lv_at hl 0 rfl) ?_
  refine rgS C hH fs_RX9_35_0 dX9_dealt_21 ?_
  obtain ⟨q24, e24, h⟩ := tB h
  refine rcL C hH hl.1 (mX2_bestDeal l e24) cf_RX9_198 ro_19 (RR_of (by decide) (by decide)) rfl (rest := []) rfl (Nat.le_of_ble_eq_true rfl) dX9_dealt_24 ?_
  intro H locs hH
  refine lv_lstore_n (lv' := [(2, .long q24.1), (0, .ref (ad 0)), (1, .int v1)]) hx hb dX9_dealt_27 rfl hl (by decide) rfl (fun ls hl => ?_)
  refine lv_iload_n hx hb dX9_dealt_28 rfl (lv_at hl 2 rfl) ?_
  refine lv_iconst (v := (-1)) hx hb dX9_dealt_29 (by decide) ?_
  refine lv_icmp_ne (tgt := 44) hx hb dX9_dealt_30 (by decide) (fun hc30 => ?_) (fun hc30 => ?_)
  · replace h := tF hc30 h
    refine lv_aload_n hx hb dX9_dealt_44 rfl (lv_at hl 1 rfl) ?_
    refine rgS C hH fs_RX9_35_0 dX9_dealt_45 ?_
    refine lv_lload_n hx hb dX9_dealt_48 rfl (lv_at hl 0 rfl) ?_
    refine lv_iload_n hx hb dX9_dealt_49 rfl (lv_at hl 2 rfl) ?_
    obtain ⟨q50, e50, h⟩ := tB h
    refine rcI C hH hl.1 (mX2_dealtSack l e50) cf_RX9_205 ro_19 (RR_of (by decide) (by decide)) rfl (rest := []) rfl (Nat.le_of_ble_eq_true rfl) dX9_dealt_50 ?_
    intro hz50 H locs hH
    have h := Option.some.inj h
    subst h
    exact retI C hH trivial dX9_dealt_53
  · replace h := tT hc30 h
    refine lv_aload_n hx hb dX9_dealt_33 rfl (lv_at hl 1 rfl) ?_
    refine rgS C hH fs_RX9_35_0 dX9_dealt_34 ?_
    refine lv_lload_n hx hb dX9_dealt_37 rfl (lv_at hl 0 rfl) ?_
    obtain ⟨q38, e38, h⟩ := tB h
    refine rcI C hH hl.1 (mX2_dealtWorth l e38) cf_RX9_201 ro_19 (RR_of (by decide) (by decide)) rfl (rest := []) rfl (Nat.le_of_ble_eq_true rfl) dX9_dealt_38 ?_
    intro hz38 H locs hH
    refine lv_goto (tgt := 53) hx hb dX9_dealt_41 (by decide) ?_
    have h := Option.some.inj h
    subst h
    exact retI C hH trivial dX9_dealt_53
set_option maxHeartbeats 2000000 in
set_option maxRecDepth 20000 in
theorem mX9_dealt (l : Launch) {D : va_G} {ca : Nat → ClassId} {A : Nat → Prop} {ad : Nat → Nat} {v1 : Int32} {mm : Mm} {q : Int32 × Mm} (h : dX9_dealt v1 mm = some q) : Met l yX9_dealt (wsOf yX9_dealt cX9_dealt 4 (some .int)) (rmk 7) (PcX WN ad ca WS D A [.ref (ad 0), .int v1] mm) (QcI WN ad ca WS D A pzT q) 0 0 A := by
  unfold dX9_dealt at h
  refine ent (by decide) (Nat.le_of_ble_eq_true rfl) (fun p e s m args below meth c hargs C hH ls hl => ?_)
  have hx := C.1
  have hb := C.2.1
  have hl : lv_has ls 4 [(0, .ref (ad 0)), (1, .int v1)] := hl
  refine lv_iload_n hx hb dX9_dealt_0 rfl (lv_at hl 1 rfl) ?_
  refine lv_iconst (v := (-1)) hx hb dX9_dealt_1 (by decide) ?_
  refine lv_icmp_eq (tgt := 20) hx hb dX9_dealt_2 (by decide) (fun hc2 => ?_) (fun hc2 => ?_)
  · replace h := tT hc2 h
    exact wX9_dealt_20 C h hH (lv_sub hl [0, 1] rfl)
  · replace h := tF hc2 h
    refine lv_aload_n hx hb dX9_dealt_5 rfl (lv_at hl 0 rfl) ?_
    refine rgS C hH fs_RX9_10_0 dX9_dealt_6 ?_
    refine lv_bipush (v := 6) hx hb dX9_dealt_9 (by decide) ?_
    refine lv_iload_n hx hb dX9_dealt_11 rfl (lv_at hl 1 rfl) ?_
    obtain ⟨q12, e12, h⟩ := tB h
    refine rcI C hH hl.1 (mX7_holds l e12) cf_RX9_67 ro_1 (RR_of (by decide) (by decide)) rfl (rest := []) rfl (Nat.le_of_ble_eq_true rfl) dX9_dealt_12 ?_
    intro hz12 H locs hH
    refine lv_if_ne (tgt := 20) hx hb dX9_dealt_15 (by decide) (fun hc15 => ?_) (fun hc15 => ?_)
    · replace h := tF hc15 h
      exact wX9_dealt_20 C h hH (lv_sub hl [0, 1] rfl)
    · replace h := tT hc15 h
      refine lv_iconst (v := (-1)) hx hb dX9_dealt_18 (by decide) ?_
      have h := Option.some.inj h
      subst h
      exact retI C hH trivial dX9_dealt_19
set_option maxHeartbeats 2000000 in
set_option maxRecDepth 20000 in
theorem mX10_dealAt (l : Launch) {D : va_G} {ca : Nat → ClassId} {A : Nat → Prop} {ad : Nat → Nat} {v1 : Int32} {v2 : Int32} {mm : Mm} {q : Int32 × Mm} (h : dX10_dealAt v1 v2 mm = some q) : Met l yX10_dealAt (wsOf yX10_dealAt cX10_dealAt 3 (some .int)) (rmk 1) (PcX WN ad ca WS D A [.ref (ad 58), .int v1, .int v2] mm) (QcI WN ad ca WS D A pzT q) 0 0 A := by
  unfold dX10_dealAt at h
  refine ent (by decide) (Nat.le_of_ble_eq_true rfl) (fun p e s m args below meth c hargs C hH ls hl => ?_)
  have hx := C.1
  have hb := C.2.1
  have hl : lv_has ls 3 [(0, .ref (ad 58)), (1, .int v1), (2, .int v2)] := hl
  refine lv_iload_n hx hb dX10_dealAt_0 rfl (lv_at hl 1 rfl) ?_
  refine lv_bipush (v := 10) hx hb dX10_dealAt_1 (by decide) ?_
  refine lv_ishl' hx hb dX10_dealAt_3 ?_
  refine lv_iload_n hx hb dX10_dealAt_4 rfl (lv_at hl 2 rfl) ?_
  refine lv_iadd hx hb dX10_dealAt_5 ?_
  have h := Option.some.inj h
  subst h
  exact retI C hH trivial dX10_dealAt_6
set_option maxHeartbeats 2000000 in
set_option maxRecDepth 20000 in
theorem wX10_dealt_387 (C : Cx D ca A p s m args meth c cX10_dealt RX10 8 (some .int)) {q : Int32 × Mm} {k253 : Int32 → Int32 → Int32 → Int32 → Mm → Option (Int32 × Mm)} (hk253 : ∀ (v1 : Int32) (v2 : Int32) (v3 : Int32) (v4 : Int32) (mm : Mm), k253 v1 v2 v3 v4 mm = some q → ∀ (H : Heap) (locs : List Loc) (ls : Array Slot), Hx WN ad ca WS D A s.heap mm H locs → lv_has ls 8 [(0, .ref (ad 58)), (1, .int v1), (2, .int v2), (3, .int v3), (4, .int v4)] → W p l e (rmk 108) s m args below meth c H locs 0 0 (MQ below (QcI WN ad ca WS D A pzT q) args s 0 0 A) (F0 m 253 ls [])) {v1 : Int32} {v3 : Int32} {v4 : Int32} {s0 : Int32} {s1 : Int32} {mm : Mm} (h : DX10_dealt_387 k253 v1 v3 v4 s0 s1 mm = some q) (hH : Hx WN ad ca WS D A s.heap mm H locs) (hl : lv_has ls 8 [(0, .ref (ad 58)), (1, .int v1), (3, .int v3), (4, .int v4)]) : W p l e (rmk 108) s m args below meth c H locs 0 0 (MQ below (QcI WN ad ca WS D A pzT q) args s 0 0 A) (F0 m 387 ls [.int s0, .int s1]) := by
  unfold DX10_dealt_387 at h
  have hx := C.1
  have hb := C.2.1
  refine lv_ior hx hb dX10_dealt_387 ?_
  refine lv_istore_n (lv' := [(2, .int (s1 ||| s0)), (0, .ref (ad 58)), (1, .int v1), (3, .int v3), (4, .int v4)]) hx hb dX10_dealt_388 rfl hl (by decide) rfl (fun ls hl => ?_)
  refine lv_iinc (v := (v4 + 1)) (lv' := [(4, .int (v4 + 1)), (2, .int (s1 ||| s0)), (0, .ref (ad 58)), (1, .int v1), (3, .int v3)]) hx hb dX10_dealt_389 hl (k := 4) rfl rfl (by decide) rfl (fun ls hl => ?_)
  refine lv_goto (tgt := 253) hx hb dX10_dealt_392 (by decide) ?_
  exact hk253 _ _ _ _ _ h _ _ _ hH (lv_sub hl [2, 3, 1, 4, 0] rfl)
set_option maxHeartbeats 2000000 in
set_option maxRecDepth 20000 in
theorem wX10_dealt_375 (C : Cx D ca A p s m args meth c cX10_dealt RX10 8 (some .int)) {q : Int32 × Mm} {k253 : Int32 → Int32 → Int32 → Int32 → Mm → Option (Int32 × Mm)} (hk253 : ∀ (v1 : Int32) (v2 : Int32) (v3 : Int32) (v4 : Int32) (mm : Mm), k253 v1 v2 v3 v4 mm = some q → ∀ (H : Heap) (locs : List Loc) (ls : Array Slot), Hx WN ad ca WS D A s.heap mm H locs → lv_has ls 8 [(0, .ref (ad 58)), (1, .int v1), (2, .int v2), (3, .int v3), (4, .int v4)] → W p l e (rmk 108) s m args below meth c H locs 0 0 (MQ below (QcI WN ad ca WS D A pzT q) args s 0 0 A) (F0 m 253 ls [])) {v1 : Int32} {v2 : Int32} {v3 : Int32} {v4 : Int32} {mm : Mm} (h : DX10_dealt_375 k253 v1 v2 v3 v4 mm = some q) (hH : Hx WN ad ca WS D A s.heap mm H locs) (hl : lv_has ls 8 [(0, .ref (ad 58)), (1, .int v1), (2, .int v2), (3, .int v3), (4, .int v4)]) : W p l e (rmk 108) s m args below meth c H locs 0 0 (MQ below (QcI WN ad ca WS D A pzT q) args s 0 0 A) (F0 m 375 ls []) := by
  unfold DX10_dealt_375 at h
  have hx := C.1
  have hb := C.2.1
  refine lv_iload_n hx hb dX10_dealt_375 rfl (lv_at hl 2 rfl) ?_
  refine lv_iload_n hx hb dX10_dealt_376 rfl (lv_at hl 3 rfl) ?_
  refine lv_if_ge (tgt := 384) hx hb dX10_dealt_377 (by decide) (fun hc377 => ?_) (fun hc377 => ?_)
  · replace h := tT hc377 h
    refine lv_iconst (v := 1) hx hb dX10_dealt_384 (by decide) ?_
    refine lv_iload_n hx hb dX10_dealt_385 rfl (lv_at hl 3 rfl) ?_
    refine lv_ishl' hx hb dX10_dealt_386 ?_
    exact wX10_dealt_387 C hk253 h hH (lv_sub hl [0, 1, 3, 4] rfl)
  · replace h := tF hc377 h
    refine lv_iconst (v := 0) hx hb dX10_dealt_380 (by decide) ?_
    refine lv_goto (tgt := 387) hx hb dX10_dealt_381 (by decide) ?_
    exact wX10_dealt_387 C hk253 h hH (lv_sub hl [0, 1, 3, 4] rfl)
set_option maxHeartbeats 2000000 in
set_option maxRecDepth 20000 in
theorem wX10_dealt_368 (C : Cx D ca A p s m args meth c cX10_dealt RX10 8 (some .int)) {q : Int32 × Mm} {k253 : Int32 → Int32 → Int32 → Int32 → Mm → Option (Int32 × Mm)} (hk253 : ∀ (v1 : Int32) (v2 : Int32) (v3 : Int32) (v4 : Int32) (mm : Mm), k253 v1 v2 v3 v4 mm = some q → ∀ (H : Heap) (locs : List Loc) (ls : Array Slot), Hx WN ad ca WS D A s.heap mm H locs → lv_has ls 8 [(0, .ref (ad 58)), (1, .int v1), (2, .int v2), (3, .int v3), (4, .int v4)] → W p l e (rmk 108) s m args below meth c H locs 0 0 (MQ below (QcI WN ad ca WS D A pzT q) args s 0 0 A) (F0 m 253 ls [])) {k265 : Int32 → Int32 → Int32 → Int32 → Int32 → Mm → Option (Int32 × Mm)} (hk265 : ∀ (v1 : Int32) (v2 : Int32) (v3 : Int32) (v4 : Int32) (v5 : Int32) (mm : Mm), k265 v1 v2 v3 v4 v5 mm = some q → ∀ (H : Heap) (locs : List Loc) (ls : Array Slot), Hx WN ad ca WS D A s.heap mm H locs → lv_has ls 8 [(0, .ref (ad 58)), (1, .int v1), (2, .int v2), (3, .int v3), (4, .int v4), (5, .int v5)] → W p l e (rmk 108) s m args below meth c H locs 0 0 (MQ below (QcI WN ad ca WS D A pzT q) args s 0 0 A) (F0 m 265 ls [])) {v1 : Int32} {v2 : Int32} {v4 : Int32} {v5 : Int32} {s0 : Int32} {mm : Mm} (h : DX10_dealt_368 k253 k265 v1 v2 v4 v5 s0 mm = some q) (hH : Hx WN ad ca WS D A s.heap mm H locs) (hl : lv_has ls 8 [(0, .ref (ad 58)), (1, .int v1), (2, .int v2), (4, .int v4), (5, .int v5)]) : W p l e (rmk 108) s m args below meth c H locs 0 0 (MQ below (QcI WN ad ca WS D A pzT q) args s 0 0 A) (F0 m 368 ls [.int s0]) := by
  unfold DX10_dealt_368 at h
  have hx := C.1
  have hb := C.2.1
  refine lv_istore_n (lv' := [(3, .int s0), (0, .ref (ad 58)), (1, .int v1), (2, .int v2), (4, .int v4), (5, .int v5)]) hx hb dX10_dealt_368 rfl hl (by decide) rfl (fun ls hl => ?_)
  refine lv_iinc (v := (v5 + 1)) (lv' := [(5, .int (v5 + 1)), (3, .int s0), (0, .ref (ad 58)), (1, .int v1), (2, .int v2), (4, .int v4)]) hx hb dX10_dealt_369 hl (k := 5) rfl rfl (by decide) rfl (fun ls hl => ?_)
  refine lv_goto (tgt := 265) hx hb dX10_dealt_372 (by decide) ?_
  exact hk265 _ _ _ _ _ _ h _ _ _ hH (lv_sub hl [2, 3, 4, 1, 5, 0] rfl)
set_option maxHeartbeats 2000000 in
set_option maxRecDepth 20000 in
theorem wX10_dealt_354 (C : Cx D ca A p s m args meth c cX10_dealt RX10 8 (some .int)) {q : Int32 × Mm} {k253 : Int32 → Int32 → Int32 → Int32 → Mm → Option (Int32 × Mm)} (hk253 : ∀ (v1 : Int32) (v2 : Int32) (v3 : Int32) (v4 : Int32) (mm : Mm), k253 v1 v2 v3 v4 mm = some q → ∀ (H : Heap) (locs : List Loc) (ls : Array Slot), Hx WN ad ca WS D A s.heap mm H locs → lv_has ls 8 [(0, .ref (ad 58)), (1, .int v1), (2, .int v2), (3, .int v3), (4, .int v4)] → W p l e (rmk 108) s m args below meth c H locs 0 0 (MQ below (QcI WN ad ca WS D A pzT q) args s 0 0 A) (F0 m 253 ls [])) {k265 : Int32 → Int32 → Int32 → Int32 → Int32 → Mm → Option (Int32 × Mm)} (hk265 : ∀ (v1 : Int32) (v2 : Int32) (v3 : Int32) (v4 : Int32) (v5 : Int32) (mm : Mm), k265 v1 v2 v3 v4 v5 mm = some q → ∀ (H : Heap) (locs : List Loc) (ls : Array Slot), Hx WN ad ca WS D A s.heap mm H locs → lv_has ls 8 [(0, .ref (ad 58)), (1, .int v1), (2, .int v2), (3, .int v3), (4, .int v4), (5, .int v5)] → W p l e (rmk 108) s m args below meth c H locs 0 0 (MQ below (QcI WN ad ca WS D A pzT q) args s 0 0 A) (F0 m 265 ls [])) {v1 : Int32} {v2 : Int32} {v4 : Int32} {v5 : Int32} {s0 : Int32} {mm : Mm} (h : DX10_dealt_354 k253 k265 v1 v2 v4 v5 s0 mm = some q) (hH : Hx WN ad ca WS D A s.heap mm H locs) (hl : lv_has ls 8 [(0, .ref (ad 58)), (1, .int v1), (2, .int v2), (4, .int v4), (5, .int v5)]) : W p l e (rmk 108) s m args below meth c H locs 0 0 (MQ below (QcI WN ad ca WS D A pzT q) args s 0 0 A) (F0 m 354 ls [.int s0]) := by
  unfold DX10_dealt_354 at h
  have hx := C.1
  have hb := C.2.1
  refine lv_istore (lv' := [(7, .int s0), (0, .ref (ad 58)), (1, .int v1), (2, .int v2), (4, .int v4), (5, .int v5)]) hx hb dX10_dealt_354 hl (by decide) rfl (fun ls hl => ?_)
  refine lv_iload hx hb dX10_dealt_356 (lv_at hl 0 rfl) ?_
  refine lv_if_eq (tgt := 366) hx hb dX10_dealt_358 (by decide) (fun hc358 => ?_) (fun hc358 => ?_)
  · replace h := tT hc358 h
    refine lv_bipush (v := (-2)) hx hb dX10_dealt_366 (by decide) ?_
    exact wX10_dealt_368 C hk253 hk265 h hH (lv_sub hl [1, 2, 3, 4, 5] rfl)
  · replace h := tF hc358 h
    refine lv_iload hx hb dX10_dealt_361 (lv_at hl 5 rfl) ?_
    refine lv_goto (tgt := 368) hx hb dX10_dealt_363 (by decide) ?_
    exact wX10_dealt_368 C hk253 hk265 h hH (lv_sub hl [1, 2, 3, 4, 5] rfl)
set_option maxHeartbeats 2000000 in
set_option maxRecDepth 20000 in
theorem wX10_dealt_353 (C : Cx D ca A p s m args meth c cX10_dealt RX10 8 (some .int)) {q : Int32 × Mm} {k253 : Int32 → Int32 → Int32 → Int32 → Mm → Option (Int32 × Mm)} (hk253 : ∀ (v1 : Int32) (v2 : Int32) (v3 : Int32) (v4 : Int32) (mm : Mm), k253 v1 v2 v3 v4 mm = some q → ∀ (H : Heap) (locs : List Loc) (ls : Array Slot), Hx WN ad ca WS D A s.heap mm H locs → lv_has ls 8 [(0, .ref (ad 58)), (1, .int v1), (2, .int v2), (3, .int v3), (4, .int v4)] → W p l e (rmk 108) s m args below meth c H locs 0 0 (MQ below (QcI WN ad ca WS D A pzT q) args s 0 0 A) (F0 m 253 ls [])) {k265 : Int32 → Int32 → Int32 → Int32 → Int32 → Mm → Option (Int32 × Mm)} (hk265 : ∀ (v1 : Int32) (v2 : Int32) (v3 : Int32) (v4 : Int32) (v5 : Int32) (mm : Mm), k265 v1 v2 v3 v4 v5 mm = some q → ∀ (H : Heap) (locs : List Loc) (ls : Array Slot), Hx WN ad ca WS D A s.heap mm H locs → lv_has ls 8 [(0, .ref (ad 58)), (1, .int v1), (2, .int v2), (3, .int v3), (4, .int v4), (5, .int v5)] → W p l e (rmk 108) s m args below meth c H locs 0 0 (MQ below (QcI WN ad ca WS D A pzT q) args s 0 0 A) (F0 m 265 ls [])) {v1 : Int32} {v2 : Int32} {v4 : Int32} {v5 : Int32} {mm : Mm} (h : DX10_dealt_353 k253 k265 v1 v2 v4 v5 mm = some q) (hH : Hx WN ad ca WS D A s.heap mm H locs) (hl : lv_has ls 8 [(0, .ref (ad 58)), (1, .int v1), (2, .int v2), (4, .int v4), (5, .int v5)]) : W p l e (rmk 108) s m args below meth c H locs 0 0 (MQ below (QcI WN ad ca WS D A pzT q) args s 0 0 A) (F0 m 353 ls []) := by
  unfold DX10_dealt_353 at h
  have hx := C.1
  have hb := C.2.1
  refine lv_iconst (v := 0) hx hb dX10_dealt_353 (by decide) ?_
  exact wX10_dealt_354 C hk253 hk265 h hH (lv_sub hl [0, 1, 2, 3, 4] rfl)
set_option maxHeartbeats 2000000 in
set_option maxRecDepth 20000 in
theorem wbX10_dealt_265 (C : Cx D ca A p s m args meth c cX10_dealt RX10 8 (some .int)) {q : Int32 × Mm} {k253 : Int32 → Int32 → Int32 → Int32 → Mm → Option (Int32 × Mm)} (hk253 : ∀ (v1 : Int32) (v2 : Int32) (v3 : Int32) (v4 : Int32) (mm : Mm), k253 v1 v2 v3 v4 mm = some q → ∀ (H : Heap) (locs : List Loc) (ls : Array Slot), Hx WN ad ca WS D A s.heap mm H locs → lv_has ls 8 [(0, .ref (ad 58)), (1, .int v1), (2, .int v2), (3, .int v3), (4, .int v4)] → W p l e (rmk 108) s m args below meth c H locs 0 0 (MQ below (QcI WN ad ca WS D A pzT q) args s 0 0 A) (F0 m 253 ls [])) {k265 : Int32 → Int32 → Int32 → Int32 → Int32 → Mm → Option (Int32 × Mm)} (hk265 : ∀ (v1 : Int32) (v2 : Int32) (v3 : Int32) (v4 : Int32) (v5 : Int32) (mm : Mm), k265 v1 v2 v3 v4 v5 mm = some q → ∀ (H : Heap) (locs : List Loc) (ls : Array Slot), Hx WN ad ca WS D A s.heap mm H locs → lv_has ls 8 [(0, .ref (ad 58)), (1, .int v1), (2, .int v2), (3, .int v3), (4, .int v4), (5, .int v5)] → W p l e (rmk 108) s m args below meth c H locs 0 0 (MQ below (QcI WN ad ca WS D A pzT q) args s 0 0 A) (F0 m 265 ls [])) {v1 : Int32} {v2 : Int32} {v3 : Int32} {v4 : Int32} {v5 : Int32} {mm : Mm} (h : BX10_dealt_265 k253 k265 v1 v2 v3 v4 v5 mm = some q) (hH : Hx WN ad ca WS D A s.heap mm H locs) (hl : lv_has ls 8 [(0, .ref (ad 58)), (1, .int v1), (2, .int v2), (3, .int v3), (4, .int v4), (5, .int v5)]) : W p l e (rmk 108) s m args below meth c H locs 0 0 (MQ below (QcI WN ad ca WS D A pzT q) args s 0 0 A) (F0 m 265 ls []) := by
  unfold BX10_dealt_265 at h
  have hx := C.1
  have hb := C.2.1
  refine lv_iload hx hb dX10_dealt_265 (lv_at hl 5 rfl) ?_
  refine lv_aload_n hx hb dX10_dealt_267 rfl (lv_at hl 0 rfl) ?_
  refine rgI C hH fi_RX10_100_58 dX10_dealt_268 ?_
  refine lv_icmp_ge (tgt := 375) hx hb dX10_dealt_271 (by decide) (fun hc271 => ?_) (fun hc271 => ?_)
  · replace h := tT hc271 h
    exact wX10_dealt_375 C hk253 h hH (lv_sub hl [0, 1, 2, 3, 4] rfl)
  · replace h := tF hc271 h
    refine lv_iload_n hx hb dX10_dealt_274 rfl (lv_at hl 3 rfl) ?_
    refine lv_if_ge (tgt := 375) hx hb dX10_dealt_275 (by decide) (fun hc275 => ?_) (fun hc275 => ?_)
    · replace h := tT hc275 h
      exact wX10_dealt_375 C hk253 h hH (lv_sub hl [0, 1, 2, 3, 4] rfl)
    · replace h := tF hc275 h
      refine lv_aload_n hx hb dX10_dealt_278 rfl (lv_at hl 0 rfl) ?_
      refine lv_iconst (v := (-1)) hx hb dX10_dealt_279 (by decide) ?_
      refine lv_iload hx hb dX10_dealt_280 (lv_at hl 4 rfl) ?_
      refine lv_iload hx hb dX10_dealt_282 (lv_at hl 5 rfl) ?_
      obtain ⟨q284, e284, h⟩ := tB h
      refine rcI C hH hl.1 (mX10_gainOf l e284) cf_RX10_255 ro_58 (RR_of (by decide) (by decide)) rfl (rest := []) rfl (Nat.le_of_ble_eq_true rfl) dX10_dealt_284 ?_
      intro hz284 H locs hH
      refine lv_istore (lv' := [(6, .int q284.1), (0, .ref (ad 58)), (1, .int v1), (2, .int v2), (3, .int v3), (4, .int v4), (5, .int v5)]) hx hb dX10_dealt_287 hl (by decide) rfl (fun ls hl => ?_)
      refine lv_aload_n hx hb dX10_dealt_289 rfl (lv_at hl 1 rfl) ?_
      refine lv_iload hx hb dX10_dealt_290 (lv_at hl 6 rfl) ?_
      obtain ⟨q292, e292, h⟩ := tB h
      refine rcI C hH hl.1 (mX10_isFree l e292) cf_RX10_261 ro_58 (RR_of (by decide) (by decide)) rfl (rest := []) rfl (Nat.le_of_ble_eq_true rfl) dX10_dealt_292 ?_
      intro hz292 H locs hH
      refine lv_if_eq (tgt := 353) hx hb dX10_dealt_295 (by decide) (fun hc295 => ?_) (fun hc295 => ?_)
      · replace h := tT hc295 h
        exact wX10_dealt_353 C hk253 hk265 h hH (lv_sub hl [1, 2, 3, 5, 6] rfl)
      · replace h := tF hc295 h
        refine lv_iload_n hx hb dX10_dealt_298 rfl (lv_at hl 3 rfl) ?_
        refine lv_iload hx hb dX10_dealt_299 (lv_at hl 6 rfl) ?_
        obtain ⟨q301, e301, h⟩ := tB h
        refine rsI C hH hl.1 (mX10_isIn l e301) cs_RX10_258 (RR_of (by decide) (by decide)) rfl (rest := []) rfl (Nat.le_of_ble_eq_true rfl) dX10_dealt_301 ?_
        intro hz301 H locs hH
        refine lv_if_ne (tgt := 353) hx hb dX10_dealt_304 (by decide) (fun hc304 => ?_) (fun hc304 => ?_)
        · replace h := tF hc304 h
          exact wX10_dealt_353 C hk253 hk265 h hH (lv_sub hl [1, 2, 3, 5, 6] rfl)
        · replace h := tT hc304 h
          refine lv_iload hx hb dX10_dealt_307 (lv_at hl 0 rfl) ?_
          refine lv_if_lt (tgt := 353) hx hb dX10_dealt_309 (by decide) (fun hc309 => ?_) (fun hc309 => ?_)
          · replace h := tT hc309 h
            exact wX10_dealt_353 C hk253 hk265 h hH (lv_sub hl [1, 2, 3, 5, 6] rfl)
          · replace h := tF hc309 h
            refine lv_iload hx hb dX10_dealt_312 (lv_at hl 0 rfl) ?_
            refine lv_aload_n hx hb dX10_dealt_314 rfl (lv_at hl 1 rfl) ?_
            refine rgS C hH fs_RX10_45_58 dX10_dealt_315 ?_
            refine lv_aload_n hx hb dX10_dealt_318 rfl (lv_at hl 1 rfl) ?_
            refine lv_iload hx hb dX10_dealt_319 (lv_at hl 5 rfl) ?_
            refine lv_iconst (v := 1) hx hb dX10_dealt_321 (by decide) ?_
            refine lv_iadd hx hb dX10_dealt_322 ?_
            refine lv_iload_n hx hb dX10_dealt_323 rfl (lv_at hl 3 rfl) ?_
            refine lv_iconst (v := 1) hx hb dX10_dealt_324 (by decide) ?_
            refine lv_iload hx hb dX10_dealt_325 (lv_at hl 6 rfl) ?_
            refine lv_ishl' hx hb dX10_dealt_327 ?_
            refine lv_ior hx hb dX10_dealt_328 ?_
            obtain ⟨q329, e329, h⟩ := tB h
            refine rcI C hH hl.1 (mX10_dealAt l e329) cf_RX10_267 ro_58 (RR_of (by decide) (by decide)) rfl (rest := [.ref (ad 70), .int q284.1]) rfl (Nat.le_of_ble_eq_true rfl) dX10_dealt_329 ?_
            intro hz329 H locs hH
            obtain ⟨hi332, h⟩ := tC h
            refine raI C hH (k := (Int32.toNatClampNeg q329.1)) (by decide) (show WS 70 = .inr (0, 7168, 0) from rfl) hi332 rfl dX10_dealt_332 ?_
            refine lv_iadd hx hb dX10_dealt_333 ?_
            refine lv_aload_n hx hb dX10_dealt_334 rfl (lv_at hl 1 rfl) ?_
            refine rgS C hH fs_RX10_45_58 dX10_dealt_335 ?_
            refine lv_aload_n hx hb dX10_dealt_338 rfl (lv_at hl 1 rfl) ?_
            refine lv_iload hx hb dX10_dealt_339 (lv_at hl 5 rfl) ?_
            refine lv_iload_n hx hb dX10_dealt_341 rfl (lv_at hl 3 rfl) ?_
            obtain ⟨q342, e342, h⟩ := tB h
            refine rcI C hH hl.1 (mX10_dealAt l e342) cf_RX10_267 ro_58 (RR_of (by decide) (by decide)) rfl (rest := [.ref (ad 70), .int (q284.1 + (gI q329.2 70 (Int32.toNatClampNeg q329.1)))]) rfl (Nat.le_of_ble_eq_true rfl) dX10_dealt_342 ?_
            intro hz342 H locs hH
            obtain ⟨hi345, h⟩ := tC h
            refine raI C hH (k := (Int32.toNatClampNeg q342.1)) (by decide) (show WS 70 = .inr (0, 7168, 0) from rfl) hi345 rfl dX10_dealt_345 ?_
            refine lv_icmp_ne (tgt := 353) hx hb dX10_dealt_346 (by decide) (fun hc346 => ?_) (fun hc346 => ?_)
            · replace h := tF hc346 h
              exact wX10_dealt_353 C hk253 hk265 h hH (lv_sub hl [1, 2, 3, 5, 6] rfl)
            · replace h := tT hc346 h
              refine lv_iconst (v := 1) hx hb dX10_dealt_349 (by decide) ?_
              refine lv_goto (tgt := 354) hx hb dX10_dealt_350 (by decide) ?_
              exact wX10_dealt_354 C hk253 hk265 h hH (lv_sub hl [1, 2, 3, 5, 6] rfl)
set_option maxHeartbeats 2000000 in
set_option maxRecDepth 20000 in
theorem wX10_dealt_265 (C : Cx D ca A p s m args meth c cX10_dealt RX10 8 (some .int)) {q : Int32 × Mm} {k253 : Int32 → Int32 → Int32 → Int32 → Mm → Option (Int32 × Mm)} (hk253 : ∀ (v1 : Int32) (v2 : Int32) (v3 : Int32) (v4 : Int32) (mm : Mm), k253 v1 v2 v3 v4 mm = some q → ∀ (H : Heap) (locs : List Loc) (ls : Array Slot), Hx WN ad ca WS D A s.heap mm H locs → lv_has ls 8 [(0, .ref (ad 58)), (1, .int v1), (2, .int v2), (3, .int v3), (4, .int v4)] → W p l e (rmk 108) s m args below meth c H locs 0 0 (MQ below (QcI WN ad ca WS D A pzT q) args s 0 0 A) (F0 m 253 ls [])) : ∀ (N : Nat) (v1 : Int32) (v2 : Int32) (v3 : Int32) (v4 : Int32) (v5 : Int32) (mm : Mm), DX10_dealt_265 k253 N v1 v2 v3 v4 v5 mm = some q → ∀ (H : Heap) (locs : List Loc) (ls : Array Slot), Hx WN ad ca WS D A s.heap mm H locs → lv_has ls 8 [(0, .ref (ad 58)), (1, .int v1), (2, .int v2), (3, .int v3), (4, .int v4), (5, .int v5)] → W p l e (rmk 108) s m args below meth c H locs 0 0 (MQ below (QcI WN ad ca WS D A pzT q) args s 0 0 A) (F0 m 265 ls []) := by
  intro N
  induction N with
  | zero =>
    intro v1 v2 v3 v4 v5 mm h
    have h2 : (none : Option (Int32 × Mm)) = some q := h
    cases h2
  | succ N ih =>
    intro v1 v2 v3 v4 v5 mm h H locs ls hH hl
    exact wbX10_dealt_265 C hk253 ih h hH hl
set_option maxHeartbeats 2000000 in
set_option maxRecDepth 20000 in
theorem wbX10_dealt_253 (C : Cx D ca A p s m args meth c cX10_dealt RX10 8 (some .int)) {q : Int32 × Mm} {k253 : Int32 → Int32 → Int32 → Int32 → Mm → Option (Int32 × Mm)} (hk253 : ∀ (v1 : Int32) (v2 : Int32) (v3 : Int32) (v4 : Int32) (mm : Mm), k253 v1 v2 v3 v4 mm = some q → ∀ (H : Heap) (locs : List Loc) (ls : Array Slot), Hx WN ad ca WS D A s.heap mm H locs → lv_has ls 8 [(0, .ref (ad 58)), (1, .int v1), (2, .int v2), (3, .int v3), (4, .int v4)] → W p l e (rmk 108) s m args below meth c H locs 0 0 (MQ below (QcI WN ad ca WS D A pzT q) args s 0 0 A) (F0 m 253 ls [])) {v1 : Int32} {v2 : Int32} {v3 : Int32} {v4 : Int32} {mm : Mm} (h : BX10_dealt_253 k253 v1 v2 v3 v4 mm = some q) (hH : Hx WN ad ca WS D A s.heap mm H locs) (hl : lv_has ls 8 [(0, .ref (ad 58)), (1, .int v1), (2, .int v2), (3, .int v3), (4, .int v4)]) : W p l e (rmk 108) s m args below meth c H locs 0 0 (MQ below (QcI WN ad ca WS D A pzT q) args s 0 0 A) (F0 m 253 ls []) := by
  unfold BX10_dealt_253 at h
  have hx := C.1
  have hb := C.2.1
  refine lv_iload hx hb dX10_dealt_253 (lv_at hl 4 rfl) ?_
  refine lv_iload_n hx hb dX10_dealt_255 rfl (lv_at hl 1 rfl) ?_
  refine lv_icmp_gt (tgt := 395) hx hb dX10_dealt_256 (by decide) (fun hc256 => ?_) (fun hc256 => ?_)
  · replace h := tT hc256 h
    refine lv_iload_n hx hb dX10_dealt_395 rfl (lv_at hl 3 rfl) ?_
    have h := Option.some.inj h
    subst h
    exact retI C hH trivial dX10_dealt_396
  · replace h := tF hc256 h
    refine lv_bipush (v := (-2)) hx hb dX10_dealt_259 (by decide) ?_
    refine lv_istore_n (lv' := [(3, .int (-2)), (0, .ref (ad 58)), (1, .int v1), (2, .int v2), (4, .int v4)]) hx hb dX10_dealt_261 rfl hl (by decide) rfl (fun ls hl => ?_)
    refine lv_iconst (v := 0) hx hb dX10_dealt_262 (by decide) ?_
    refine lv_istore (lv' := [(5, .int 0), (3, .int (-2)), (0, .ref (ad 58)), (1, .int v1), (2, .int v2), (4, .int v4)]) hx hb dX10_dealt_263 hl (by decide) rfl (fun ls hl => ?_)
    exact wX10_dealt_265 C hk253 FU _ _ _ _ _ _ h _ _ _ hH (lv_sub hl [2, 3, 4, 1, 5, 0] rfl)
set_option maxHeartbeats 2000000 in
set_option maxRecDepth 20000 in
theorem wX10_dealt_253 (C : Cx D ca A p s m args meth c cX10_dealt RX10 8 (some .int)) {q : Int32 × Mm} : ∀ (N : Nat) (v1 : Int32) (v2 : Int32) (v3 : Int32) (v4 : Int32) (mm : Mm), DX10_dealt_253 N v1 v2 v3 v4 mm = some q → ∀ (H : Heap) (locs : List Loc) (ls : Array Slot), Hx WN ad ca WS D A s.heap mm H locs → lv_has ls 8 [(0, .ref (ad 58)), (1, .int v1), (2, .int v2), (3, .int v3), (4, .int v4)] → W p l e (rmk 108) s m args below meth c H locs 0 0 (MQ below (QcI WN ad ca WS D A pzT q) args s 0 0 A) (F0 m 253 ls []) := by
  intro N
  induction N with
  | zero =>
    intro v1 v2 v3 v4 mm h
    have h2 : (none : Option (Int32 × Mm)) = some q := h
    cases h2
  | succ N ih =>
    intro v1 v2 v3 v4 mm h H locs ls hH hl
    exact wbX10_dealt_253 C ih h hH hl
set_option maxHeartbeats 2000000 in
set_option maxRecDepth 20000 in
theorem wX10_dealt_197 (C : Cx D ca A p s m args meth c cX10_dealt RX10 8 (some .int)) {q : Int32 × Mm} {k53 : Int32 → Int32 → Mm → Option (Int32 × Mm)} (hk53 : ∀ (v1 : Int32) (v2 : Int32) (mm : Mm), k53 v1 v2 mm = some q → ∀ (H : Heap) (locs : List Loc) (ls : Array Slot), Hx WN ad ca WS D A s.heap mm H locs → lv_has ls 8 [(0, .ref (ad 58)), (1, .int v1), (2, .int v2)] → W p l e (rmk 108) s m args below meth c H locs 0 0 (MQ below (QcI WN ad ca WS D A pzT q) args s 0 0 A) (F0 m 53 ls [])) {k88 : Int32 → Int32 → Int32 → Mm → Option (Int32 × Mm)} (hk88 : ∀ (v1 : Int32) (v2 : Int32) (v3 : Int32) (mm : Mm), k88 v1 v2 v3 mm = some q → ∀ (H : Heap) (locs : List Loc) (ls : Array Slot), Hx WN ad ca WS D A s.heap mm H locs → lv_has ls 8 [(0, .ref (ad 58)), (1, .int v1), (2, .int v2), (3, .int v3)] → W p l e (rmk 108) s m args below meth c H locs 0 0 (MQ below (QcI WN ad ca WS D A pzT q) args s 0 0 A) (F0 m 88 ls [])) {k116 : Int32 → Int32 → Int32 → Int32 → Int32 → Mm → Option (Int32 × Mm)} (hk116 : ∀ (v1 : Int32) (v2 : Int32) (v3 : Int32) (v4 : Int32) (v5 : Int32) (mm : Mm), k116 v1 v2 v3 v4 v5 mm = some q → ∀ (H : Heap) (locs : List Loc) (ls : Array Slot), Hx WN ad ca WS D A s.heap mm H locs → lv_has ls 8 [(0, .ref (ad 58)), (1, .int v1), (2, .int v2), (3, .int v3), (4, .int v4), (5, .int v5)] → W p l e (rmk 108) s m args below meth c H locs 0 0 (MQ below (QcI WN ad ca WS D A pzT q) args s 0 0 A) (F0 m 116 ls [])) {v1 : Int32} {v2 : Int32} {v3 : Int32} {v4 : Int32} {v5 : Int32} {mm : Mm} (h : DX10_dealt_197 k53 k88 k116 v1 v2 v3 v4 v5 mm = some q) (hH : Hx WN ad ca WS D A s.heap mm H locs) (hl : lv_has ls 8 [(0, .ref (ad 58)), (1, .int v1), (2, .int v2), (3, .int v3), (4, .int v4), (5, .int v5)]) : W p l e (rmk 108) s m args below meth c H locs 0 0 (MQ below (QcI WN ad ca WS D A pzT q) args s 0 0 A) (F0 m 197 ls []) := by
  unfold DX10_dealt_197 at h
  have hx := C.1
  have hb := C.2.1
  refine lv_iinc (v := (v5 + 1)) (lv' := [(5, .int (v5 + 1)), (0, .ref (ad 58)), (1, .int v1), (2, .int v2), (3, .int v3), (4, .int v4)]) hx hb dX10_dealt_197 hl (k := 5) rfl rfl (by decide) rfl (fun ls hl => ?_)
  refine lv_goto (tgt := 116) hx hb dX10_dealt_200 (by decide) ?_
  exact hk116 _ _ _ _ _ _ h _ _ _ hH (lv_sub hl [1, 2, 3, 4, 5, 0] rfl)
set_option maxHeartbeats 2000000 in
set_option maxRecDepth 20000 in
theorem wX10_dealt_195 (C : Cx D ca A p s m args meth c cX10_dealt RX10 8 (some .int)) {q : Int32 × Mm} {k53 : Int32 → Int32 → Mm → Option (Int32 × Mm)} (hk53 : ∀ (v1 : Int32) (v2 : Int32) (mm : Mm), k53 v1 v2 mm = some q → ∀ (H : Heap) (locs : List Loc) (ls : Array Slot), Hx WN ad ca WS D A s.heap mm H locs → lv_has ls 8 [(0, .ref (ad 58)), (1, .int v1), (2, .int v2)] → W p l e (rmk 108) s m args below meth c H locs 0 0 (MQ below (QcI WN ad ca WS D A pzT q) args s 0 0 A) (F0 m 53 ls [])) {k88 : Int32 → Int32 → Int32 → Mm → Option (Int32 × Mm)} (hk88 : ∀ (v1 : Int32) (v2 : Int32) (v3 : Int32) (mm : Mm), k88 v1 v2 v3 mm = some q → ∀ (H : Heap) (locs : List Loc) (ls : Array Slot), Hx WN ad ca WS D A s.heap mm H locs → lv_has ls 8 [(0, .ref (ad 58)), (1, .int v1), (2, .int v2), (3, .int v3)] → W p l e (rmk 108) s m args below meth c H locs 0 0 (MQ below (QcI WN ad ca WS D A pzT q) args s 0 0 A) (F0 m 88 ls [])) {k116 : Int32 → Int32 → Int32 → Int32 → Int32 → Mm → Option (Int32 × Mm)} (hk116 : ∀ (v1 : Int32) (v2 : Int32) (v3 : Int32) (v4 : Int32) (v5 : Int32) (mm : Mm), k116 v1 v2 v3 v4 v5 mm = some q → ∀ (H : Heap) (locs : List Loc) (ls : Array Slot), Hx WN ad ca WS D A s.heap mm H locs → lv_has ls 8 [(0, .ref (ad 58)), (1, .int v1), (2, .int v2), (3, .int v3), (4, .int v4), (5, .int v5)] → W p l e (rmk 108) s m args below meth c H locs 0 0 (MQ below (QcI WN ad ca WS D A pzT q) args s 0 0 A) (F0 m 116 ls [])) {v1 : Int32} {v2 : Int32} {v3 : Int32} {v5 : Int32} {s0 : Int32} {mm : Mm} (h : DX10_dealt_195 k53 k88 k116 v1 v2 v3 v5 s0 mm = some q) (hH : Hx WN ad ca WS D A s.heap mm H locs) (hl : lv_has ls 8 [(0, .ref (ad 58)), (1, .int v1), (2, .int v2), (3, .int v3), (5, .int v5)]) : W p l e (rmk 108) s m args below meth c H locs 0 0 (MQ below (QcI WN ad ca WS D A pzT q) args s 0 0 A) (F0 m 195 ls [.int s0]) := by
  unfold DX10_dealt_195 at h
  have hx := C.1
  have hb := C.2.1
  refine lv_istore (lv' := [(4, .int s0), (0, .ref (ad 58)), (1, .int v1), (2, .int v2), (3, .int v3), (5, .int v5)]) hx hb dX10_dealt_195 hl (by decide) rfl (fun ls hl => ?_)
  exact wX10_dealt_197 C hk53 hk88 hk116 h hH (lv_sub hl [1, 2, 3, 4, 0, 5] rfl)
set_option maxHeartbeats 2000000 in
set_option maxRecDepth 20000 in
theorem wbX10_dealt_116 (C : Cx D ca A p s m args meth c cX10_dealt RX10 8 (some .int)) {q : Int32 × Mm} {k53 : Int32 → Int32 → Mm → Option (Int32 × Mm)} (hk53 : ∀ (v1 : Int32) (v2 : Int32) (mm : Mm), k53 v1 v2 mm = some q → ∀ (H : Heap) (locs : List Loc) (ls : Array Slot), Hx WN ad ca WS D A s.heap mm H locs → lv_has ls 8 [(0, .ref (ad 58)), (1, .int v1), (2, .int v2)] → W p l e (rmk 108) s m args below meth c H locs 0 0 (MQ below (QcI WN ad ca WS D A pzT q) args s 0 0 A) (F0 m 53 ls [])) {k88 : Int32 → Int32 → Int32 → Mm → Option (Int32 × Mm)} (hk88 : ∀ (v1 : Int32) (v2 : Int32) (v3 : Int32) (mm : Mm), k88 v1 v2 v3 mm = some q → ∀ (H : Heap) (locs : List Loc) (ls : Array Slot), Hx WN ad ca WS D A s.heap mm H locs → lv_has ls 8 [(0, .ref (ad 58)), (1, .int v1), (2, .int v2), (3, .int v3)] → W p l e (rmk 108) s m args below meth c H locs 0 0 (MQ below (QcI WN ad ca WS D A pzT q) args s 0 0 A) (F0 m 88 ls [])) {k116 : Int32 → Int32 → Int32 → Int32 → Int32 → Mm → Option (Int32 × Mm)} (hk116 : ∀ (v1 : Int32) (v2 : Int32) (v3 : Int32) (v4 : Int32) (v5 : Int32) (mm : Mm), k116 v1 v2 v3 v4 v5 mm = some q → ∀ (H : Heap) (locs : List Loc) (ls : Array Slot), Hx WN ad ca WS D A s.heap mm H locs → lv_has ls 8 [(0, .ref (ad 58)), (1, .int v1), (2, .int v2), (3, .int v3), (4, .int v4), (5, .int v5)] → W p l e (rmk 108) s m args below meth c H locs 0 0 (MQ below (QcI WN ad ca WS D A pzT q) args s 0 0 A) (F0 m 116 ls [])) {v1 : Int32} {v2 : Int32} {v3 : Int32} {v4 : Int32} {v5 : Int32} {mm : Mm} (h : BX10_dealt_116 k53 k88 k116 v1 v2 v3 v4 v5 mm = some q) (hH : Hx WN ad ca WS D A s.heap mm H locs) (hl : lv_has ls 8 [(0, .ref (ad 58)), (1, .int v1), (2, .int v2), (3, .int v3), (4, .int v4), (5, .int v5)]) : W p l e (rmk 108) s m args below meth c H locs 0 0 (MQ below (QcI WN ad ca WS D A pzT q) args s 0 0 A) (F0 m 116 ls []) := by
  unfold BX10_dealt_116 at h
  have hx := C.1
  have hb := C.2.1
  refine lv_iload hx hb dX10_dealt_116 (lv_at hl 5 rfl) ?_
  refine lv_aload_n hx hb dX10_dealt_118 rfl (lv_at hl 0 rfl) ?_
  refine rgI C hH fi_RX10_100_58 dX10_dealt_119 ?_
  refine lv_icmp_ge (tgt := 203) hx hb dX10_dealt_122 (by decide) (fun hc122 => ?_) (fun hc122 => ?_)
  · replace h := tT hc122 h
    refine lv_aload_n hx hb dX10_dealt_203 rfl (lv_at hl 0 rfl) ?_
    refine rgS C hH fs_RX10_45_58 dX10_dealt_204 ?_
    refine lv_aload_n hx hb dX10_dealt_207 rfl (lv_at hl 0 rfl) ?_
    refine lv_iload_n hx hb dX10_dealt_208 rfl (lv_at hl 2 rfl) ?_
    refine lv_iload_n hx hb dX10_dealt_209 rfl (lv_at hl 3 rfl) ?_
    obtain ⟨q210, e210, h⟩ := tB h
    refine rcI C hH hl.1 (mX10_dealAt l e210) cf_RX10_267 ro_58 (RR_of (by decide) (by decide)) rfl (rest := [.ref (ad 70)]) rfl (Nat.le_of_ble_eq_true rfl) dX10_dealt_210 ?_
    intro hz210 H locs hH
    refine lv_iload hx hb dX10_dealt_213 (lv_at hl 4 rfl) ?_
    obtain ⟨hi215, h⟩ := tC h
    refine rwI C hH (k := (Int32.toNatClampNeg q210.1)) (by decide) (show WS 70 = .inr (0, 7168, 0) from rfl) hi215 rfl dX10_dealt_215 (fun H locs hH => ?_)
    refine lv_iinc (v := (v3 + 1)) (lv' := [(3, .int (v3 + 1)), (0, .ref (ad 58)), (1, .int v1), (2, .int v2), (4, .int v4), (5, .int v5)]) hx hb dX10_dealt_216 hl (k := 3) rfl rfl (by decide) rfl (fun ls hl => ?_)
    refine lv_goto (tgt := 88) hx hb dX10_dealt_219 (by decide) ?_
    exact hk88 _ _ _ _ h _ _ _ hH (lv_sub hl [1, 2, 3, 0] rfl)
  · replace h := tF hc122 h
    refine lv_aload_n hx hb dX10_dealt_125 rfl (lv_at hl 0 rfl) ?_
    refine lv_iload hx hb dX10_dealt_126 (lv_at hl 5 rfl) ?_
    obtain ⟨q128, e128, h⟩ := tB h
    refine rcI C hH hl.1 (mX10_isFree l e128) cf_RX10_261 ro_58 (RR_of (by decide) (by decide)) rfl (rest := []) rfl (Nat.le_of_ble_eq_true rfl) dX10_dealt_128 ?_
    intro hz128 H locs hH
    refine lv_if_eq (tgt := 197) hx hb dX10_dealt_131 (by decide) (fun hc131 => ?_) (fun hc131 => ?_)
    · replace h := tT hc131 h
      exact wX10_dealt_197 C hk53 hk88 hk116 h hH (lv_sub hl [0, 1, 2, 3, 4, 5] rfl)
    · replace h := tF hc131 h
      refine lv_iload_n hx hb dX10_dealt_134 rfl (lv_at hl 3 rfl) ?_
      refine lv_iload hx hb dX10_dealt_135 (lv_at hl 5 rfl) ?_
      obtain ⟨q137, e137, h⟩ := tB h
      refine rsI C hH hl.1 (mX10_isIn l e137) cs_RX10_258 (RR_of (by decide) (by decide)) rfl (rest := []) rfl (Nat.le_of_ble_eq_true rfl) dX10_dealt_137 ?_
      intro hz137 H locs hH
      refine lv_if_ne (tgt := 197) hx hb dX10_dealt_140 (by decide) (fun hc140 => ?_) (fun hc140 => ?_)
      · replace h := tF hc140 h
        exact wX10_dealt_197 C hk53 hk88 hk116 h hH (lv_sub hl [0, 1, 2, 3, 4, 5] rfl)
      · replace h := tT hc140 h
        refine lv_aload_n hx hb dX10_dealt_143 rfl (lv_at hl 0 rfl) ?_
        refine rgS C hH fs_RX10_42_58 dX10_dealt_144 ?_
        refine lv_iload hx hb dX10_dealt_147 (lv_at hl 5 rfl) ?_
        obtain ⟨hi149, h⟩ := tC h
        refine raI C hH (k := (Int32.toNatClampNeg v5)) (by decide) (show WS 69 = .inr (0, 10, 0) from rfl) hi149 rfl dX10_dealt_149 ?_
        refine lv_if_lt (tgt := 197) hx hb dX10_dealt_150 (by decide) (fun hc150 => ?_) (fun hc150 => ?_)
        · replace h := tT hc150 h
          exact wX10_dealt_197 C hk53 hk88 hk116 h hH (lv_sub hl [0, 1, 2, 3, 4, 5] rfl)
        · replace h := tF hc150 h
          refine lv_aload_n hx hb dX10_dealt_153 rfl (lv_at hl 0 rfl) ?_
          refine rgS C hH fs_RX10_42_58 dX10_dealt_154 ?_
          refine lv_iload hx hb dX10_dealt_157 (lv_at hl 5 rfl) ?_
          obtain ⟨hi159, h⟩ := tC h
          refine raI C hH (k := (Int32.toNatClampNeg v5)) (by decide) (show WS 69 = .inr (0, 10, 0) from rfl) hi159 rfl dX10_dealt_159 ?_
          refine lv_aload_n hx hb dX10_dealt_160 rfl (lv_at hl 0 rfl) ?_
          refine rgS C hH fs_RX10_45_58 dX10_dealt_161 ?_
          refine lv_aload_n hx hb dX10_dealt_164 rfl (lv_at hl 0 rfl) ?_
          refine lv_iload_n hx hb dX10_dealt_165 rfl (lv_at hl 2 rfl) ?_
          refine lv_iconst (v := 1) hx hb dX10_dealt_166 (by decide) ?_
          refine lv_iadd hx hb dX10_dealt_167 ?_
          refine lv_iload_n hx hb dX10_dealt_168 rfl (lv_at hl 3 rfl) ?_
          refine lv_iconst (v := 1) hx hb dX10_dealt_169 (by decide) ?_
          refine lv_iload hx hb dX10_dealt_170 (lv_at hl 5 rfl) ?_
          refine lv_ishl' hx hb dX10_dealt_172 ?_
          refine lv_ior hx hb dX10_dealt_173 ?_
          obtain ⟨q174, e174, h⟩ := tB h
          refine rcI C hH hl.1 (mX10_dealAt l e174) cf_RX10_267 ro_58 (RR_of (by decide) (by decide)) rfl (rest := [.ref (ad 70), .int (gI q137.2 69 (Int32.toNatClampNeg v5))]) rfl (Nat.le_of_ble_eq_true rfl) dX10_dealt_174 ?_
          intro hz174 H locs hH
          obtain ⟨hi177, h⟩ := tC h
          refine raI C hH (k := (Int32.toNatClampNeg q174.1)) (by decide) (show WS 70 = .inr (0, 7168, 0) from rfl) hi177 rfl dX10_dealt_177 ?_
          refine lv_iadd hx hb dX10_dealt_178 ?_
          refine lv_istore (lv' := [(6, .int ((gI q137.2 69 (Int32.toNatClampNeg v5)) + (gI q174.2 70 (Int32.toNatClampNeg q174.1)))), (0, .ref (ad 58)), (1, .int v1), (2, .int v2), (3, .int v3), (4, .int v4), (5, .int v5)]) hx hb dX10_dealt_179 hl (by decide) rfl (fun ls hl => ?_)
          refine lv_iload hx hb dX10_dealt_181 (lv_at hl 0 rfl) ?_
          refine lv_iload hx hb dX10_dealt_183 (lv_at hl 5 rfl) ?_
          refine lv_icmp_le (tgt := 193) hx hb dX10_dealt_185 (by decide) (fun hc185 => ?_) (fun hc185 => ?_)
          · replace h := tT hc185 h
            refine lv_iload hx hb dX10_dealt_193 (lv_at hl 5 rfl) ?_
            exact wX10_dealt_195 C hk53 hk88 hk116 h hH (lv_sub hl [1, 2, 3, 4, 6] rfl)
          · replace h := tF hc185 h
            refine lv_iload hx hb dX10_dealt_188 (lv_at hl 0 rfl) ?_
            refine lv_goto (tgt := 195) hx hb dX10_dealt_190 (by decide) ?_
            exact wX10_dealt_195 C hk53 hk88 hk116 h hH (lv_sub hl [1, 2, 3, 4, 6] rfl)
set_option maxHeartbeats 2000000 in
set_option maxRecDepth 20000 in
theorem wX10_dealt_116 (C : Cx D ca A p s m args meth c cX10_dealt RX10 8 (some .int)) {q : Int32 × Mm} {k53 : Int32 → Int32 → Mm → Option (Int32 × Mm)} (hk53 : ∀ (v1 : Int32) (v2 : Int32) (mm : Mm), k53 v1 v2 mm = some q → ∀ (H : Heap) (locs : List Loc) (ls : Array Slot), Hx WN ad ca WS D A s.heap mm H locs → lv_has ls 8 [(0, .ref (ad 58)), (1, .int v1), (2, .int v2)] → W p l e (rmk 108) s m args below meth c H locs 0 0 (MQ below (QcI WN ad ca WS D A pzT q) args s 0 0 A) (F0 m 53 ls [])) {k88 : Int32 → Int32 → Int32 → Mm → Option (Int32 × Mm)} (hk88 : ∀ (v1 : Int32) (v2 : Int32) (v3 : Int32) (mm : Mm), k88 v1 v2 v3 mm = some q → ∀ (H : Heap) (locs : List Loc) (ls : Array Slot), Hx WN ad ca WS D A s.heap mm H locs → lv_has ls 8 [(0, .ref (ad 58)), (1, .int v1), (2, .int v2), (3, .int v3)] → W p l e (rmk 108) s m args below meth c H locs 0 0 (MQ below (QcI WN ad ca WS D A pzT q) args s 0 0 A) (F0 m 88 ls [])) : ∀ (N : Nat) (v1 : Int32) (v2 : Int32) (v3 : Int32) (v4 : Int32) (v5 : Int32) (mm : Mm), DX10_dealt_116 k53 k88 N v1 v2 v3 v4 v5 mm = some q → ∀ (H : Heap) (locs : List Loc) (ls : Array Slot), Hx WN ad ca WS D A s.heap mm H locs → lv_has ls 8 [(0, .ref (ad 58)), (1, .int v1), (2, .int v2), (3, .int v3), (4, .int v4), (5, .int v5)] → W p l e (rmk 108) s m args below meth c H locs 0 0 (MQ below (QcI WN ad ca WS D A pzT q) args s 0 0 A) (F0 m 116 ls []) := by
  intro N
  induction N with
  | zero =>
    intro v1 v2 v3 v4 v5 mm h
    have h2 : (none : Option (Int32 × Mm)) = some q := h
    cases h2
  | succ N ih =>
    intro v1 v2 v3 v4 v5 mm h H locs ls hH hl
    exact wbX10_dealt_116 C hk53 hk88 ih h hH hl
set_option maxHeartbeats 2000000 in
set_option maxRecDepth 20000 in
theorem wbX10_dealt_88 (C : Cx D ca A p s m args meth c cX10_dealt RX10 8 (some .int)) {q : Int32 × Mm} {k53 : Int32 → Int32 → Mm → Option (Int32 × Mm)} (hk53 : ∀ (v1 : Int32) (v2 : Int32) (mm : Mm), k53 v1 v2 mm = some q → ∀ (H : Heap) (locs : List Loc) (ls : Array Slot), Hx WN ad ca WS D A s.heap mm H locs → lv_has ls 8 [(0, .ref (ad 58)), (1, .int v1), (2, .int v2)] → W p l e (rmk 108) s m args below meth c H locs 0 0 (MQ below (QcI WN ad ca WS D A pzT q) args s 0 0 A) (F0 m 53 ls [])) {k88 : Int32 → Int32 → Int32 → Mm → Option (Int32 × Mm)} (hk88 : ∀ (v1 : Int32) (v2 : Int32) (v3 : Int32) (mm : Mm), k88 v1 v2 v3 mm = some q → ∀ (H : Heap) (locs : List Loc) (ls : Array Slot), Hx WN ad ca WS D A s.heap mm H locs → lv_has ls 8 [(0, .ref (ad 58)), (1, .int v1), (2, .int v2), (3, .int v3)] → W p l e (rmk 108) s m args below meth c H locs 0 0 (MQ below (QcI WN ad ca WS D A pzT q) args s 0 0 A) (F0 m 88 ls [])) {v1 : Int32} {v2 : Int32} {v3 : Int32} {mm : Mm} (h : BX10_dealt_88 k53 k88 v1 v2 v3 mm = some q) (hH : Hx WN ad ca WS D A s.heap mm H locs) (hl : lv_has ls 8 [(0, .ref (ad 58)), (1, .int v1), (2, .int v2), (3, .int v3)]) : W p l e (rmk 108) s m args below meth c H locs 0 0 (MQ below (QcI WN ad ca WS D A pzT q) args s 0 0 A) (F0 m 88 ls []) := by
  unfold BX10_dealt_88 at h
  have hx := C.1
  have hb := C.2.1
  refine lv_iload_n hx hb dX10_dealt_88 rfl (lv_at hl 3 rfl) ?_
  refine lv_iconst (v := 1) hx hb dX10_dealt_89 (by decide) ?_
  refine lv_aload_n hx hb dX10_dealt_90 rfl (lv_at hl 0 rfl) ?_
  refine rgI C hH fi_RX10_100_58 dX10_dealt_91 ?_
  refine lv_ishl' hx hb dX10_dealt_94 ?_
  refine lv_icmp_ge (tgt := 222) hx hb dX10_dealt_95 (by decide) (fun hc95 => ?_) (fun hc95 => ?_)
  · replace h := tT hc95 h
    refine lv_iinc (v := (v2 + (-1))) (lv' := [(2, .int (v2 + (-1))), (0, .ref (ad 58)), (1, .int v1), (3, .int v3)]) hx hb dX10_dealt_222 hl (k := 2) rfl rfl (by decide) rfl (fun ls hl => ?_)
    refine lv_goto (tgt := 53) hx hb dX10_dealt_225 (by decide) ?_
    exact hk53 _ _ _ h _ _ _ hH (lv_sub hl [1, 2, 0] rfl)
  · replace h := tF hc95 h
    refine lv_aload_n hx hb dX10_dealt_98 rfl (lv_at hl 0 rfl) ?_
    refine rgS C hH fs_RX10_45_58 dX10_dealt_99 ?_
    refine lv_aload_n hx hb dX10_dealt_102 rfl (lv_at hl 0 rfl) ?_
    refine lv_iload_n hx hb dX10_dealt_103 rfl (lv_at hl 2 rfl) ?_
    refine lv_iconst (v := 1) hx hb dX10_dealt_104 (by decide) ?_
    refine lv_iadd hx hb dX10_dealt_105 ?_
    refine lv_iload_n hx hb dX10_dealt_106 rfl (lv_at hl 3 rfl) ?_
    obtain ⟨q107, e107, h⟩ := tB h
    refine rcI C hH hl.1 (mX10_dealAt l e107) cf_RX10_267 ro_58 (RR_of (by decide) (by decide)) rfl (rest := [.ref (ad 70)]) rfl (Nat.le_of_ble_eq_true rfl) dX10_dealt_107 ?_
    intro hz107 H locs hH
    obtain ⟨hi110, h⟩ := tC h
    refine raI C hH (k := (Int32.toNatClampNeg q107.1)) (by decide) (show WS 70 = .inr (0, 7168, 0) from rfl) hi110 rfl dX10_dealt_110 ?_
    refine lv_istore (lv' := [(4, .int (gI q107.2 70 (Int32.toNatClampNeg q107.1))), (0, .ref (ad 58)), (1, .int v1), (2, .int v2), (3, .int v3)]) hx hb dX10_dealt_111 hl (by decide) rfl (fun ls hl => ?_)
    refine lv_iconst (v := 0) hx hb dX10_dealt_113 (by decide) ?_
    refine lv_istore (lv' := [(5, .int 0), (4, .int (gI q107.2 70 (Int32.toNatClampNeg q107.1))), (0, .ref (ad 58)), (1, .int v1), (2, .int v2), (3, .int v3)]) hx hb dX10_dealt_114 hl (by decide) rfl (fun ls hl => ?_)
    exact wX10_dealt_116 C hk53 hk88 FU _ _ _ _ _ _ h _ _ _ hH (lv_sub hl [2, 3, 4, 5, 1, 0] rfl)
set_option maxHeartbeats 2000000 in
set_option maxRecDepth 20000 in
theorem wX10_dealt_88 (C : Cx D ca A p s m args meth c cX10_dealt RX10 8 (some .int)) {q : Int32 × Mm} {k53 : Int32 → Int32 → Mm → Option (Int32 × Mm)} (hk53 : ∀ (v1 : Int32) (v2 : Int32) (mm : Mm), k53 v1 v2 mm = some q → ∀ (H : Heap) (locs : List Loc) (ls : Array Slot), Hx WN ad ca WS D A s.heap mm H locs → lv_has ls 8 [(0, .ref (ad 58)), (1, .int v1), (2, .int v2)] → W p l e (rmk 108) s m args below meth c H locs 0 0 (MQ below (QcI WN ad ca WS D A pzT q) args s 0 0 A) (F0 m 53 ls [])) : ∀ (N : Nat) (v1 : Int32) (v2 : Int32) (v3 : Int32) (mm : Mm), DX10_dealt_88 k53 N v1 v2 v3 mm = some q → ∀ (H : Heap) (locs : List Loc) (ls : Array Slot), Hx WN ad ca WS D A s.heap mm H locs → lv_has ls 8 [(0, .ref (ad 58)), (1, .int v1), (2, .int v2), (3, .int v3)] → W p l e (rmk 108) s m args below meth c H locs 0 0 (MQ below (QcI WN ad ca WS D A pzT q) args s 0 0 A) (F0 m 88 ls []) := by
  intro N
  induction N with
  | zero =>
    intro v1 v2 v3 mm h
    have h2 : (none : Option (Int32 × Mm)) = some q := h
    cases h2
  | succ N ih =>
    intro v1 v2 v3 mm h H locs ls hH hl
    exact wbX10_dealt_88 C hk53 ih h hH hl
set_option maxHeartbeats 2000000 in
set_option maxRecDepth 20000 in
theorem wbX10_dealt_59 (C : Cx D ca A p s m args meth c cX10_dealt RX10 8 (some .int)) {q : Int32 × Mm} {k53 : Int32 → Int32 → Mm → Option (Int32 × Mm)} (hk53 : ∀ (v1 : Int32) (v2 : Int32) (mm : Mm), k53 v1 v2 mm = some q → ∀ (H : Heap) (locs : List Loc) (ls : Array Slot), Hx WN ad ca WS D A s.heap mm H locs → lv_has ls 8 [(0, .ref (ad 58)), (1, .int v1), (2, .int v2)] → W p l e (rmk 108) s m args below meth c H locs 0 0 (MQ below (QcI WN ad ca WS D A pzT q) args s 0 0 A) (F0 m 53 ls [])) {k59 : Int32 → Int32 → Int32 → Mm → Option (Int32 × Mm)} (hk59 : ∀ (v1 : Int32) (v2 : Int32) (v3 : Int32) (mm : Mm), k59 v1 v2 v3 mm = some q → ∀ (H : Heap) (locs : List Loc) (ls : Array Slot), Hx WN ad ca WS D A s.heap mm H locs → lv_has ls 8 [(0, .ref (ad 58)), (1, .int v1), (2, .int v2), (3, .int v3)] → W p l e (rmk 108) s m args below meth c H locs 0 0 (MQ below (QcI WN ad ca WS D A pzT q) args s 0 0 A) (F0 m 59 ls [])) {v1 : Int32} {v2 : Int32} {v3 : Int32} {mm : Mm} (h : BX10_dealt_59 k53 k59 v1 v2 v3 mm = some q) (hH : Hx WN ad ca WS D A s.heap mm H locs) (hl : lv_has ls 8 [(0, .ref (ad 58)), (1, .int v1), (2, .int v2), (3, .int v3)]) : W p l e (rmk 108) s m args below meth c H locs 0 0 (MQ below (QcI WN ad ca WS D A pzT q) args s 0 0 A) (F0 m 59 ls []) := by
  unfold BX10_dealt_59 at h
  have hx := C.1
  have hb := C.2.1
  refine lv_iload_n hx hb dX10_dealt_59 rfl (lv_at hl 3 rfl) ?_
  refine lv_aload_n hx hb dX10_dealt_60 rfl (lv_at hl 0 rfl) ?_
  refine rgI C hH fi_RX10_100_58 dX10_dealt_61 ?_
  refine lv_icmp_ge (tgt := 86) hx hb dX10_dealt_64 (by decide) (fun hc64 => ?_) (fun hc64 => ?_)
  · replace h := tT hc64 h
    refine lv_iconst (v := 0) hx hb dX10_dealt_86 (by decide) ?_
    refine lv_istore_n (lv' := [(3, .int 0), (0, .ref (ad 58)), (1, .int v1), (2, .int v2)]) hx hb dX10_dealt_87 rfl hl (by decide) rfl (fun ls hl => ?_)
    exact wX10_dealt_88 C hk53 FU _ _ _ _ h _ _ _ hH (lv_sub hl [1, 2, 3, 0] rfl)
  · replace h := tF hc64 h
    refine lv_aload_n hx hb dX10_dealt_67 rfl (lv_at hl 0 rfl) ?_
    refine rgS C hH fs_RX10_42_58 dX10_dealt_68 ?_
    refine lv_iload_n hx hb dX10_dealt_71 rfl (lv_at hl 3 rfl) ?_
    refine lv_aload_n hx hb dX10_dealt_72 rfl (lv_at hl 0 rfl) ?_
    refine lv_iconst (v := (-1)) hx hb dX10_dealt_73 (by decide) ?_
    refine lv_iload_n hx hb dX10_dealt_74 rfl (lv_at hl 2 rfl) ?_
    refine lv_iload_n hx hb dX10_dealt_75 rfl (lv_at hl 3 rfl) ?_
    obtain ⟨q76, e76, h⟩ := tB h
    refine rcI C hH hl.1 (mX10_gainOf l e76) cf_RX10_255 ro_58 (RR_of (by decide) (by decide)) rfl (rest := [.int v3, .ref (ad 69)]) rfl (Nat.le_of_ble_eq_true rfl) dX10_dealt_76 ?_
    intro hz76 H locs hH
    obtain ⟨hi79, h⟩ := tC h
    refine rwI C hH (k := (Int32.toNatClampNeg v3)) (by decide) (show WS 69 = .inr (0, 10, 0) from rfl) hi79 rfl dX10_dealt_79 (fun H locs hH => ?_)
    refine lv_iinc (v := (v3 + 1)) (lv' := [(3, .int (v3 + 1)), (0, .ref (ad 58)), (1, .int v1), (2, .int v2)]) hx hb dX10_dealt_80 hl (k := 3) rfl rfl (by decide) rfl (fun ls hl => ?_)
    refine lv_goto (tgt := 59) hx hb dX10_dealt_83 (by decide) ?_
    exact hk59 _ _ _ _ h _ _ _ hH (lv_sub hl [1, 2, 3, 0] rfl)
set_option maxHeartbeats 2000000 in
set_option maxRecDepth 20000 in
theorem wX10_dealt_59 (C : Cx D ca A p s m args meth c cX10_dealt RX10 8 (some .int)) {q : Int32 × Mm} {k53 : Int32 → Int32 → Mm → Option (Int32 × Mm)} (hk53 : ∀ (v1 : Int32) (v2 : Int32) (mm : Mm), k53 v1 v2 mm = some q → ∀ (H : Heap) (locs : List Loc) (ls : Array Slot), Hx WN ad ca WS D A s.heap mm H locs → lv_has ls 8 [(0, .ref (ad 58)), (1, .int v1), (2, .int v2)] → W p l e (rmk 108) s m args below meth c H locs 0 0 (MQ below (QcI WN ad ca WS D A pzT q) args s 0 0 A) (F0 m 53 ls [])) : ∀ (N : Nat) (v1 : Int32) (v2 : Int32) (v3 : Int32) (mm : Mm), DX10_dealt_59 k53 N v1 v2 v3 mm = some q → ∀ (H : Heap) (locs : List Loc) (ls : Array Slot), Hx WN ad ca WS D A s.heap mm H locs → lv_has ls 8 [(0, .ref (ad 58)), (1, .int v1), (2, .int v2), (3, .int v3)] → W p l e (rmk 108) s m args below meth c H locs 0 0 (MQ below (QcI WN ad ca WS D A pzT q) args s 0 0 A) (F0 m 59 ls []) := by
  intro N
  induction N with
  | zero =>
    intro v1 v2 v3 mm h
    have h2 : (none : Option (Int32 × Mm)) = some q := h
    cases h2
  | succ N ih =>
    intro v1 v2 v3 mm h H locs ls hH hl
    exact wbX10_dealt_59 C hk53 ih h hH hl
set_option maxHeartbeats 2000000 in
set_option maxRecDepth 20000 in
theorem wbX10_dealt_53 (C : Cx D ca A p s m args meth c cX10_dealt RX10 8 (some .int)) {q : Int32 × Mm} {k53 : Int32 → Int32 → Mm → Option (Int32 × Mm)} (hk53 : ∀ (v1 : Int32) (v2 : Int32) (mm : Mm), k53 v1 v2 mm = some q → ∀ (H : Heap) (locs : List Loc) (ls : Array Slot), Hx WN ad ca WS D A s.heap mm H locs → lv_has ls 8 [(0, .ref (ad 58)), (1, .int v1), (2, .int v2)] → W p l e (rmk 108) s m args below meth c H locs 0 0 (MQ below (QcI WN ad ca WS D A pzT q) args s 0 0 A) (F0 m 53 ls [])) {v1 : Int32} {v2 : Int32} {mm : Mm} (h : BX10_dealt_53 k53 v1 v2 mm = some q) (hH : Hx WN ad ca WS D A s.heap mm H locs) (hl : lv_has ls 8 [(0, .ref (ad 58)), (1, .int v1), (2, .int v2)]) : W p l e (rmk 108) s m args below meth c H locs 0 0 (MQ below (QcI WN ad ca WS D A pzT q) args s 0 0 A) (F0 m 53 ls []) := by
  unfold BX10_dealt_53 at h
  have hx := C.1
  have hb := C.2.1
  refine lv_iload_n hx hb dX10_dealt_53 rfl (lv_at hl 2 rfl) ?_
  refine lv_if_lt (tgt := 228) hx hb dX10_dealt_54 (by decide) (fun hc54 => ?_) (fun hc54 => ?_)
  · replace h := tT hc54 h
    refine lv_iload_n hx hb dX10_dealt_228 rfl (lv_at hl 1 rfl) ?_
    refine lv_iconst (v := (-1)) hx hb dX10_dealt_229 (by decide) ?_
    refine lv_icmp_ne (tgt := 245) hx hb dX10_dealt_230 (by decide) (fun hc230 => ?_) (fun hc230 => ?_)
    · replace h := tF hc230 h
      refine lv_iconst (v := 0) hx hb dX10_dealt_245 (by decide) ?_
      refine lv_istore_n (lv' := [(2, .int 0), (0, .ref (ad 58)), (1, .int v1)]) hx hb dX10_dealt_246 rfl hl (by decide) rfl (fun ls hl => ?_)
      refine lv_bipush (v := (-2)) hx hb dX10_dealt_247 (by decide) ?_
      refine lv_istore_n (lv' := [(3, .int (-2)), (2, .int 0), (0, .ref (ad 58)), (1, .int v1)]) hx hb dX10_dealt_249 rfl hl (by decide) rfl (fun ls hl => ?_)
      refine lv_iconst (v := 0) hx hb dX10_dealt_250 (by decide) ?_
      refine lv_istore (lv' := [(4, .int 0), (3, .int (-2)), (2, .int 0), (0, .ref (ad 58)), (1, .int v1)]) hx hb dX10_dealt_251 hl (by decide) rfl (fun ls hl => ?_)
      exact wX10_dealt_253 C FU _ _ _ _ _ h _ _ _ hH (lv_sub hl [3, 4, 2, 1, 0] rfl)
    · replace h := tT hc230 h
      refine lv_aload_n hx hb dX10_dealt_233 rfl (lv_at hl 0 rfl) ?_
      refine rgS C hH fs_RX10_45_58 dX10_dealt_234 ?_
      refine lv_aload_n hx hb dX10_dealt_237 rfl (lv_at hl 0 rfl) ?_
      refine lv_iconst (v := 0) hx hb dX10_dealt_238 (by decide) ?_
      refine lv_iconst (v := 0) hx hb dX10_dealt_239 (by decide) ?_
      obtain ⟨q240, e240, h⟩ := tB h
      refine rcI C hH hl.1 (mX10_dealAt l e240) cf_RX10_267 ro_58 (RR_of (by decide) (by decide)) rfl (rest := [.ref (ad 70)]) rfl (Nat.le_of_ble_eq_true rfl) dX10_dealt_240 ?_
      intro hz240 H locs hH
      obtain ⟨hi243, h⟩ := tC h
      refine raI C hH (k := (Int32.toNatClampNeg q240.1)) (by decide) (show WS 70 = .inr (0, 7168, 0) from rfl) hi243 rfl dX10_dealt_243 ?_
      have h := Option.some.inj h
      subst h
      exact retI C hH trivial dX10_dealt_244
  · replace h := tF hc54 h
    refine lv_iconst (v := 0) hx hb dX10_dealt_57 (by decide) ?_
    refine lv_istore_n (lv' := [(3, .int 0), (0, .ref (ad 58)), (1, .int v1), (2, .int v2)]) hx hb dX10_dealt_58 rfl hl (by decide) rfl (fun ls hl => ?_)
    exact wX10_dealt_59 C hk53 FU _ _ _ _ h _ _ _ hH (lv_sub hl [1, 2, 3, 0] rfl)
set_option maxHeartbeats 2000000 in
set_option maxRecDepth 20000 in
theorem wX10_dealt_53 (C : Cx D ca A p s m args meth c cX10_dealt RX10 8 (some .int)) {q : Int32 × Mm} : ∀ (N : Nat) (v1 : Int32) (v2 : Int32) (mm : Mm), DX10_dealt_53 N v1 v2 mm = some q → ∀ (H : Heap) (locs : List Loc) (ls : Array Slot), Hx WN ad ca WS D A s.heap mm H locs → lv_has ls 8 [(0, .ref (ad 58)), (1, .int v1), (2, .int v2)] → W p l e (rmk 108) s m args below meth c H locs 0 0 (MQ below (QcI WN ad ca WS D A pzT q) args s 0 0 A) (F0 m 53 ls []) := by
  intro N
  induction N with
  | zero =>
    intro v1 v2 mm h
    have h2 : (none : Option (Int32 × Mm)) = some q := h
    cases h2
  | succ N ih =>
    intro v1 v2 mm h H locs ls hH hl
    exact wbX10_dealt_53 C ih h hH hl
set_option maxHeartbeats 2000000 in
set_option maxRecDepth 20000 in
theorem wbX10_dealt_18 (C : Cx D ca A p s m args meth c cX10_dealt RX10 8 (some .int)) {q : Int32 × Mm} {k18 : Int32 → Int32 → Mm → Option (Int32 × Mm)} (hk18 : ∀ (v1 : Int32) (v2 : Int32) (mm : Mm), k18 v1 v2 mm = some q → ∀ (H : Heap) (locs : List Loc) (ls : Array Slot), Hx WN ad ca WS D A s.heap mm H locs → lv_has ls 8 [(0, .ref (ad 58)), (1, .int v1), (2, .int v2)] → W p l e (rmk 108) s m args below meth c H locs 0 0 (MQ below (QcI WN ad ca WS D A pzT q) args s 0 0 A) (F0 m 18 ls [])) {v1 : Int32} {v2 : Int32} {mm : Mm} (h : BX10_dealt_18 k18 v1 v2 mm = some q) (hH : Hx WN ad ca WS D A s.heap mm H locs) (hl : lv_has ls 8 [(0, .ref (ad 58)), (1, .int v1), (2, .int v2)]) : W p l e (rmk 108) s m args below meth c H locs 0 0 (MQ below (QcI WN ad ca WS D A pzT q) args s 0 0 A) (F0 m 18 ls []) := by
  unfold BX10_dealt_18 at h
  have hx := C.1
  have hb := C.2.1
  refine lv_iload_n hx hb dX10_dealt_18 rfl (lv_at hl 2 rfl) ?_
  refine lv_sipush (v := 1024) hx hb dX10_dealt_19 (by decide) ?_
  refine lv_icmp_ge (tgt := 46) hx hb dX10_dealt_22 (by decide) (fun hc22 => ?_) (fun hc22 => ?_)
  · replace h := tT hc22 h
    refine lv_aload_n hx hb dX10_dealt_46 rfl (lv_at hl 0 rfl) ?_
    refine rgI C hH fi_RX10_103_58 dX10_dealt_47 ?_
    refine lv_iconst (v := 1) hx hb dX10_dealt_50 (by decide) ?_
    refine lv_isub hx hb dX10_dealt_51 ?_
    refine lv_istore_n (lv' := [(2, .int ((gI mm 58 7) - 1)), (0, .ref (ad 58)), (1, .int v1)]) hx hb dX10_dealt_52 rfl hl (by decide) rfl (fun ls hl => ?_)
    exact wX10_dealt_53 C FU _ _ _ h _ _ _ hH (lv_sub hl [1, 2, 0] rfl)
  · replace h := tF hc22 h
    refine lv_aload_n hx hb dX10_dealt_25 rfl (lv_at hl 0 rfl) ?_
    refine rgS C hH fs_RX10_45_58 dX10_dealt_26 ?_
    refine lv_aload_n hx hb dX10_dealt_29 rfl (lv_at hl 0 rfl) ?_
    refine lv_aload_n hx hb dX10_dealt_30 rfl (lv_at hl 0 rfl) ?_
    refine rgI C hH fi_RX10_103_58 dX10_dealt_31 ?_
    refine lv_iload_n hx hb dX10_dealt_34 rfl (lv_at hl 2 rfl) ?_
    obtain ⟨q35, e35, h⟩ := tB h
    refine rcI C hH hl.1 (mX10_dealAt l e35) cf_RX10_267 ro_58 (RR_of (by decide) (by decide)) rfl (rest := [.ref (ad 70)]) rfl (Nat.le_of_ble_eq_true rfl) dX10_dealt_35 ?_
    intro hz35 H locs hH
    refine lv_iconst (v := 0) hx hb dX10_dealt_38 (by decide) ?_
    obtain ⟨hi39, h⟩ := tC h
    refine rwI C hH (k := (Int32.toNatClampNeg q35.1)) (by decide) (show WS 70 = .inr (0, 7168, 0) from rfl) hi39 rfl dX10_dealt_39 (fun H locs hH => ?_)
    refine lv_iinc (v := (v2 + 1)) (lv' := [(2, .int (v2 + 1)), (0, .ref (ad 58)), (1, .int v1)]) hx hb dX10_dealt_40 hl (k := 2) rfl rfl (by decide) rfl (fun ls hl => ?_)
    refine lv_goto (tgt := 18) hx hb dX10_dealt_43 (by decide) ?_
    exact hk18 _ _ _ h _ _ _ hH (lv_sub hl [1, 2, 0] rfl)
set_option maxHeartbeats 2000000 in
set_option maxRecDepth 20000 in
theorem wX10_dealt_18 (C : Cx D ca A p s m args meth c cX10_dealt RX10 8 (some .int)) {q : Int32 × Mm} : ∀ (N : Nat) (v1 : Int32) (v2 : Int32) (mm : Mm), DX10_dealt_18 N v1 v2 mm = some q → ∀ (H : Heap) (locs : List Loc) (ls : Array Slot), Hx WN ad ca WS D A s.heap mm H locs → lv_has ls 8 [(0, .ref (ad 58)), (1, .int v1), (2, .int v2)] → W p l e (rmk 108) s m args below meth c H locs 0 0 (MQ below (QcI WN ad ca WS D A pzT q) args s 0 0 A) (F0 m 18 ls []) := by
  intro N
  induction N with
  | zero =>
    intro v1 v2 mm h
    have h2 : (none : Option (Int32 × Mm)) = some q := h
    cases h2
  | succ N ih =>
    intro v1 v2 mm h H locs ls hH hl
    exact wbX10_dealt_18 C ih h hH hl
set_option maxHeartbeats 2000000 in
set_option maxRecDepth 20000 in
theorem wX10_dealt_16 (C : Cx D ca A p s m args meth c cX10_dealt RX10 8 (some .int)) {q : Int32 × Mm} {v1 : Int32} {mm : Mm} (h : DX10_dealt_16 v1 mm = some q) (hH : Hx WN ad ca WS D A s.heap mm H locs) (hl : lv_has ls 8 [(0, .ref (ad 58)), (1, .int v1)]) : W p l e (rmk 108) s m args below meth c H locs 0 0 (MQ below (QcI WN ad ca WS D A pzT q) args s 0 0 A) (F0 m 16 ls []) := by
  unfold DX10_dealt_16 at h
  have hx := C.1
  have hb := C.2.1
  refine lv_iconst (v := 0) hx hb dX10_dealt_16 (by decide) ?_
  refine lv_istore_n (lv' := [(2, .int 0), (0, .ref (ad 58)), (1, .int v1)]) hx hb dX10_dealt_17 rfl hl (by decide) rfl (fun ls hl => ?_)
  exact wX10_dealt_18 C FU _ _ _ h _ _ _ hH (lv_sub hl [1, 2, 0] rfl)
set_option maxHeartbeats 2000000 in
set_option maxRecDepth 20000 in
theorem mX10_dealt (l : Launch) {D : va_G} {ca : Nat → ClassId} {A : Nat → Prop} {ad : Nat → Nat} {v1 : Int32} {mm : Mm} {q : Int32 × Mm} (h : dX10_dealt v1 mm = some q) : Met l yX10_dealt (wsOf yX10_dealt cX10_dealt 8 (some .int)) (rmk 108) (PcX WN ad ca WS D A [.ref (ad 58), .int v1] mm) (QcI WN ad ca WS D A pzT q) 0 0 A := by
  unfold dX10_dealt at h
  refine ent (by decide) (Nat.le_of_ble_eq_true rfl) (fun p e s m args below meth c hargs C hH ls hl => ?_)
  have hx := C.1
  have hb := C.2.1
  have hl : lv_has ls 8 [(0, .ref (ad 58)), (1, .int v1)] := hl
  refine lv_iload_n hx hb dX10_dealt_0 rfl (lv_at hl 1 rfl) ?_
  refine lv_iconst (v := (-1)) hx hb dX10_dealt_1 (by decide) ?_
  refine lv_icmp_eq (tgt := 16) hx hb dX10_dealt_2 (by decide) (fun hc2 => ?_) (fun hc2 => ?_)
  · replace h := tT hc2 h
    exact wX10_dealt_16 C h hH (lv_sub hl [0, 1] rfl)
  · replace h := tF hc2 h
    refine lv_aload_n hx hb dX10_dealt_5 rfl (lv_at hl 0 rfl) ?_
    refine lv_iload_n hx hb dX10_dealt_6 rfl (lv_at hl 1 rfl) ?_
    refine lv_i2l' hx hb dX10_dealt_7 ?_
    obtain ⟨q8, e8, h⟩ := tB h
    refine rcI C hH hl.1 (mX10_isBuyer l e8) cf_RX10_135 ro_58 (RR_of (by decide) (by decide)) rfl (rest := []) rfl (Nat.le_of_ble_eq_true rfl) dX10_dealt_8 ?_
    intro hz8 H locs hH
    refine lv_if_ne (tgt := 16) hx hb dX10_dealt_11 (by decide) (fun hc11 => ?_) (fun hc11 => ?_)
    · replace h := tF hc11 h
      exact wX10_dealt_16 C h hH (lv_sub hl [0, 1] rfl)
    · replace h := tT hc11 h
      refine lv_iconst (v := (-1)) hx hb dX10_dealt_14 (by decide) ?_
      have h := Option.some.inj h
      subst h
      exact retI C hH trivial dX10_dealt_15
set_option maxHeartbeats 2000000 in
set_option maxRecDepth 20000 in
theorem wX7_groans_37 (C : Cx D ca A p s m args meth c cX7_groans RX7 5 (some .boolean)) {q : Int32 × Mm} {mm : Mm} (h : DX7_groans_37 mm = some q) (hH : Hx WN ad ca WS D A s.heap mm H locs) (hl : lv_has ls 5 []) : W p l e (rmk 4) s m args below meth c H locs 0 0 (MQ below (QcI WN ad ca WS D A pzZ q) args s 0 0 A) (F0 m 37 ls []) := by
  unfold DX7_groans_37 at h
  have hx := C.1
  have hb := C.2.1
  refine lv_iconst (v := 0) hx hb dX7_groans_37 (by decide) ?_
  have h := Option.some.inj h
  subst h
  exact retZ C hH (Or.inl rfl) dX7_groans_38
set_option maxHeartbeats 2000000 in
set_option maxRecDepth 20000 in
theorem mX7_groans (l : Launch) {D : va_G} {ca : Nat → ClassId} {A : Nat → Prop} {ad : Nat → Nat} {v1 : Int32} {v2 : Int32} {mm : Mm} {q : Int32 × Mm} (h : dX7_groans v1 v2 mm = some q) : Met l yX7_groans (wsOf yX7_groans cX7_groans 5 (some .boolean)) (rmk 4) (PcX WN ad ca WS D A [.ref (ad 1), .int v1, .int v2] mm) (QcI WN ad ca WS D A pzZ q) 0 0 A := by
  unfold dX7_groans at h
  refine ent (by decide) (Nat.le_of_ble_eq_true rfl) (fun p e s m args below meth c hargs C hH ls hl => ?_)
  have hx := C.1
  have hb := C.2.1
  have hl : lv_has ls 5 [(0, .ref (ad 1)), (1, .int v1), (2, .int v2)] := hl
  refine lv_aload_n hx hb dX7_groans_0 rfl (lv_at hl 0 rfl) ?_
  refine lv_bipush (v := 9) hx hb dX7_groans_1 (by decide) ?_
  refine lv_iload_n hx hb dX7_groans_3 rfl (lv_at hl 1 rfl) ?_
  obtain ⟨q4, e4, h⟩ := tB h
  refine rcI C hH hl.1 (mX7_told l e4) cf_RX7_38 ro_1 (RR_of (by decide) (by decide)) rfl (rest := []) rfl (Nat.le_of_ble_eq_true rfl) dX7_groans_4 ?_
  intro hz4 H locs hH
  refine lv_istore_n (lv' := [(3, .int q4.1), (0, .ref (ad 1)), (1, .int v1), (2, .int v2)]) hx hb dX7_groans_7 rfl hl (by decide) rfl (fun ls hl => ?_)
  refine lv_aload_n hx hb dX7_groans_8 rfl (lv_at hl 1 rfl) ?_
  refine lv_iconst (v := 5) hx hb dX7_groans_9 (by decide) ?_
  refine lv_iload_n hx hb dX7_groans_10 rfl (lv_at hl 2 rfl) ?_
  obtain ⟨q11, e11, h⟩ := tB h
  refine rcI C hH hl.1 (mX7_told l e11) cf_RX7_38 ro_1 (RR_of (by decide) (by decide)) rfl (rest := []) rfl (Nat.le_of_ble_eq_true rfl) dX7_groans_11 ?_
  intro hz11 H locs hH
  refine lv_istore (lv' := [(4, .int q11.1), (3, .int q4.1), (0, .ref (ad 1)), (1, .int v1), (2, .int v2)]) hx hb dX7_groans_14 hl (by decide) rfl (fun ls hl => ?_)
  refine lv_iload_n hx hb dX7_groans_16 rfl (lv_at hl 1 rfl) ?_
  refine lv_if_lt (tgt := 37) hx hb dX7_groans_17 (by decide) (fun hc17 => ?_) (fun hc17 => ?_)
  · replace h := tT hc17 h
    exact wX7_groans_37 C h hH (lv_sub hl [] rfl)
  · replace h := tF hc17 h
    refine lv_aload_n hx hb dX7_groans_20 rfl (lv_at hl 2 rfl) ?_
    refine lv_iload_n hx hb dX7_groans_21 rfl (lv_at hl 1 rfl) ?_
    refine lv_iload_n hx hb dX7_groans_22 rfl (lv_at hl 4 rfl) ?_
    refine lv_iload hx hb dX7_groans_23 (lv_at hl 0 rfl) ?_
    obtain ⟨q25, e25, h⟩ := tB h
    refine rcI C hH hl.1 (mX7_worthTo l e25) cf_RX7_66 ro_1 (RR_of (by decide) (by decide)) rfl (rest := []) rfl (Nat.le_of_ble_eq_true rfl) dX7_groans_25 ?_
    intro hz25 H locs hH
    refine lv_iload hx hb dX7_groans_28 (lv_at hl 0 rfl) ?_
    refine lv_icmp_ge (tgt := 37) hx hb dX7_groans_30 (by decide) (fun hc30 => ?_) (fun hc30 => ?_)
    · replace h := tT hc30 h
      exact wX7_groans_37 C h hH (lv_sub hl [] rfl)
    · replace h := tF hc30 h
      refine lv_iconst (v := 1) hx hb dX7_groans_33 (by decide) ?_
      refine lv_goto (tgt := 38) hx hb dX7_groans_34 (by decide) ?_
      have h := Option.some.inj h
      subst h
      exact retZ C hH (Or.inr rfl) dX7_groans_38
set_option maxHeartbeats 2000000 in
set_option maxRecDepth 20000 in
theorem wX9_groansTold_124 (C : Cx D ca A p s m args meth c cX9_groansTold RX9 9 (some .int)) {q : Int32 × Mm} {v2 : Int32} {v3 : Int32} {v4 : Int32} {v5 : Int32} {mm : Mm} (h : DX9_groansTold_124 v2 v3 v4 v5 mm = some q) (hH : Hx WN ad ca WS D A s.heap mm H locs) (hl : lv_has ls 9 [(2, .int v2), (3, .int v3), (4, .int v4), (5, .int v5)]) : W p l e (rmk 5) s m args below meth c H locs 0 0 (MQ below (QcI WN ad ca WS D A pzT q) args s 0 0 A) (F0 m 124 ls []) := by
  unfold DX9_groansTold_124 at h
  have hx := C.1
  have hb := C.2.1
  refine lv_iload_n hx hb dX9_groansTold_124 rfl (lv_at hl 0 rfl) ?_
  refine lv_if_ne (tgt := 132) hx hb dX9_groansTold_125 (by decide) (fun hc125 => ?_) (fun hc125 => ?_)
  · replace h := tF hc125 h
    refine lv_iload_n hx hb dX9_groansTold_132 rfl (lv_at hl 0 rfl) ?_
    refine lv_iconst (v := 1) hx hb dX9_groansTold_133 (by decide) ?_
    refine lv_icmp_ne (tgt := 142) hx hb dX9_groansTold_134 (by decide) (fun hc134 => ?_) (fun hc134 => ?_)
    · replace h := tF hc134 h
      refine lv_iload hx hb dX9_groansTold_142 (lv_at hl 3 rfl) ?_
      have h := Option.some.inj h
      subst h
      exact retI C hH trivial dX9_groansTold_144
    · replace h := tT hc134 h
      refine lv_iload hx hb dX9_groansTold_137 (lv_at hl 2 rfl) ?_
      refine lv_goto (tgt := 144) hx hb dX9_groansTold_139 (by decide) ?_
      have h := Option.some.inj h
      subst h
      exact retI C hH trivial dX9_groansTold_144
  · replace h := tT hc125 h
    refine lv_iload_n hx hb dX9_groansTold_128 rfl (lv_at hl 1 rfl) ?_
    refine lv_goto (tgt := 144) hx hb dX9_groansTold_129 (by decide) ?_
    have h := Option.some.inj h
    subst h
    exact retI C hH trivial dX9_groansTold_144
set_option maxHeartbeats 2000000 in
set_option maxRecDepth 20000 in
theorem wX9_groansTold_118 (C : Cx D ca A p s m args meth c cX9_groansTold RX9 9 (some .int)) {q : Int32 × Mm} {k12 : Nat → Int32 → Int32 → Int32 → Int32 → Int32 → Mm → Option (Int32 × Mm)} (hk12 : ∀ (v1 : Nat) (v2 : Int32) (v3 : Int32) (v4 : Int32) (v5 : Int32) (v6 : Int32) (mm : Mm), k12 v1 v2 v3 v4 v5 v6 mm = some q → isSh v1 → ∀ (H : Heap) (locs : List Loc) (ls : Array Slot), Hx WN ad ca WS D A s.heap mm H locs → lv_has ls 9 [(0, .ref (ad 0)), (1, .ref (ad v1)), (2, .int v2), (3, .int v3), (4, .int v4), (5, .int v5), (6, .int v6)] → W p l e (rmk 5) s m args below meth c H locs 0 0 (MQ below (QcI WN ad ca WS D A pzT q) args s 0 0 A) (F0 m 12 ls [])) {v1 : Nat} {v2 : Int32} {v3 : Int32} {v4 : Int32} {v5 : Int32} {v6 : Int32} {mm : Mm} (ho1 : isSh v1) (h : DX9_groansTold_118 k12 v1 v2 v3 v4 v5 v6 mm = some q) (hH : Hx WN ad ca WS D A s.heap mm H locs) (hl : lv_has ls 9 [(0, .ref (ad 0)), (1, .ref (ad v1)), (2, .int v2), (3, .int v3), (4, .int v4), (5, .int v5), (6, .int v6)]) : W p l e (rmk 5) s m args below meth c H locs 0 0 (MQ below (QcI WN ad ca WS D A pzT q) args s 0 0 A) (F0 m 118 ls []) := by
  unfold DX9_groansTold_118 at h
  have hx := C.1
  have hb := C.2.1
  refine lv_iinc (v := (v6 + 1)) (lv' := [(6, .int (v6 + 1)), (0, .ref (ad 0)), (1, .ref (ad v1)), (2, .int v2), (3, .int v3), (4, .int v4), (5, .int v5)]) hx hb dX9_groansTold_118 hl (k := 6) rfl rfl (by decide) rfl (fun ls hl => ?_)
  refine lv_goto (tgt := 12) hx hb dX9_groansTold_121 (by decide) ?_
  exact hk12 _ _ _ _ _ _ _ h ho1 _ _ _ hH (lv_sub hl [1, 2, 3, 4, 5, 6, 0] rfl)
set_option maxHeartbeats 2000000 in
set_option maxRecDepth 20000 in
theorem wX9_groansTold_101 (C : Cx D ca A p s m args meth c cX9_groansTold RX9 9 (some .int)) {q : Int32 × Mm} {k12 : Nat → Int32 → Int32 → Int32 → Int32 → Int32 → Mm → Option (Int32 × Mm)} (hk12 : ∀ (v1 : Nat) (v2 : Int32) (v3 : Int32) (v4 : Int32) (v5 : Int32) (v6 : Int32) (mm : Mm), k12 v1 v2 v3 v4 v5 v6 mm = some q → isSh v1 → ∀ (H : Heap) (locs : List Loc) (ls : Array Slot), Hx WN ad ca WS D A s.heap mm H locs → lv_has ls 9 [(0, .ref (ad 0)), (1, .ref (ad v1)), (2, .int v2), (3, .int v3), (4, .int v4), (5, .int v5), (6, .int v6)] → W p l e (rmk 5) s m args below meth c H locs 0 0 (MQ below (QcI WN ad ca WS D A pzT q) args s 0 0 A) (F0 m 12 ls [])) {v1 : Nat} {v2 : Int32} {v3 : Int32} {v4 : Int32} {v5 : Int32} {v6 : Int32} {v7 : Int32} {v8 : Int32} {mm : Mm} (ho1 : isSh v1) (h : DX9_groansTold_101 k12 v1 v2 v3 v4 v5 v6 v7 v8 mm = some q) (hH : Hx WN ad ca WS D A s.heap mm H locs) (hl : lv_has ls 9 [(0, .ref (ad 0)), (1, .ref (ad v1)), (2, .int v2), (3, .int v3), (4, .int v4), (5, .int v5), (6, .int v6), (7, .int v7), (8, .int v8)]) : W p l e (rmk 5) s m args below meth c H locs 0 0 (MQ below (QcI WN ad ca WS D A pzT q) args s 0 0 A) (F0 m 101 ls []) := by
  unfold DX9_groansTold_101 at h
  have hx := C.1
  have hb := C.2.1
  refine lv_aload_n hx hb dX9_groansTold_101 rfl (lv_at hl 0 rfl) ?_
  refine rgS C hH fs_RX9_10_0 dX9_groansTold_102 ?_
  refine lv_iload hx hb dX9_groansTold_105 (lv_at hl 7 rfl) ?_
  refine lv_iload hx hb dX9_groansTold_107 (lv_at hl 8 rfl) ?_
  obtain ⟨q109, e109, h⟩ := tB h
  refine rcI C hH hl.1 (mX7_groans l e109) cf_RX9_213 ro_1 (RR_of (by decide) (by decide)) rfl (rest := []) rfl (Nat.le_of_ble_eq_true rfl) dX9_groansTold_109 ?_
  intro hz109 H locs hH
  refine lv_if_eq (tgt := 118) hx hb dX9_groansTold_112 (by decide) (fun hc112 => ?_) (fun hc112 => ?_)
  · replace h := tT hc112 h
    exact wX9_groansTold_118 C hk12 ho1 h hH (lv_sub hl [0, 1, 2, 3, 4, 5, 6] rfl)
  · replace h := tF hc112 h
    refine lv_iinc (v := (v4 + 1)) (lv' := [(4, .int (v4 + 1)), (0, .ref (ad 0)), (1, .ref (ad v1)), (2, .int v2), (3, .int v3), (5, .int v5), (6, .int v6), (7, .int v7), (8, .int v8)]) hx hb dX9_groansTold_115 hl (k := 4) rfl rfl (by decide) rfl (fun ls hl => ?_)
    exact wX9_groansTold_118 C hk12 ho1 h hH (lv_sub hl [1, 2, 3, 4, 0, 5, 6] rfl)
set_option maxHeartbeats 2000000 in
set_option maxRecDepth 20000 in
theorem wX9_groansTold_96 (C : Cx D ca A p s m args meth c cX9_groansTold RX9 9 (some .int)) {q : Int32 × Mm} {k12 : Nat → Int32 → Int32 → Int32 → Int32 → Int32 → Mm → Option (Int32 × Mm)} (hk12 : ∀ (v1 : Nat) (v2 : Int32) (v3 : Int32) (v4 : Int32) (v5 : Int32) (v6 : Int32) (mm : Mm), k12 v1 v2 v3 v4 v5 v6 mm = some q → isSh v1 → ∀ (H : Heap) (locs : List Loc) (ls : Array Slot), Hx WN ad ca WS D A s.heap mm H locs → lv_has ls 9 [(0, .ref (ad 0)), (1, .ref (ad v1)), (2, .int v2), (3, .int v3), (4, .int v4), (5, .int v5), (6, .int v6)] → W p l e (rmk 5) s m args below meth c H locs 0 0 (MQ below (QcI WN ad ca WS D A pzT q) args s 0 0 A) (F0 m 12 ls [])) {v1 : Nat} {v2 : Int32} {v3 : Int32} {v4 : Int32} {v6 : Int32} {v7 : Int32} {v8 : Int32} {s0 : Int32} {mm : Mm} (ho1 : isSh v1) (h : DX9_groansTold_96 k12 v1 v2 v3 v4 v6 v7 v8 s0 mm = some q) (hH : Hx WN ad ca WS D A s.heap mm H locs) (hl : lv_has ls 9 [(0, .ref (ad 0)), (1, .ref (ad v1)), (2, .int v2), (3, .int v3), (4, .int v4), (6, .int v6), (7, .int v7), (8, .int v8)]) : W p l e (rmk 5) s m args below meth c H locs 0 0 (MQ below (QcI WN ad ca WS D A pzT q) args s 0 0 A) (F0 m 96 ls [.int s0]) := by
  unfold DX9_groansTold_96 at h
  have hx := C.1
  have hb := C.2.1
  refine lv_istore (lv' := [(5, .int s0), (0, .ref (ad 0)), (1, .ref (ad v1)), (2, .int v2), (3, .int v3), (4, .int v4), (6, .int v6), (7, .int v7), (8, .int v8)]) hx hb dX9_groansTold_96 hl (by decide) rfl (fun ls hl => ?_)
  refine lv_iinc (v := (v3 + 1)) (lv' := [(3, .int (v3 + 1)), (5, .int s0), (0, .ref (ad 0)), (1, .ref (ad v1)), (2, .int v2), (4, .int v4), (6, .int v6), (7, .int v7), (8, .int v8)]) hx hb dX9_groansTold_98 hl (k := 4) rfl rfl (by decide) rfl (fun ls hl => ?_)
  exact wX9_groansTold_101 C hk12 ho1 h hH (lv_sub hl [2, 3, 4, 0, 5, 1, 6, 7, 8] rfl)
set_option maxHeartbeats 2000000 in
set_option maxRecDepth 20000 in
theorem wbX9_groansTold_12 (C : Cx D ca A p s m args meth c cX9_groansTold RX9 9 (some .int)) {q : Int32 × Mm} {k12 : Nat → Int32 → Int32 → Int32 → Int32 → Int32 → Mm → Option (Int32 × Mm)} (hk12 : ∀ (v1 : Nat) (v2 : Int32) (v3 : Int32) (v4 : Int32) (v5 : Int32) (v6 : Int32) (mm : Mm), k12 v1 v2 v3 v4 v5 v6 mm = some q → isSh v1 → ∀ (H : Heap) (locs : List Loc) (ls : Array Slot), Hx WN ad ca WS D A s.heap mm H locs → lv_has ls 9 [(0, .ref (ad 0)), (1, .ref (ad v1)), (2, .int v2), (3, .int v3), (4, .int v4), (5, .int v5), (6, .int v6)] → W p l e (rmk 5) s m args below meth c H locs 0 0 (MQ below (QcI WN ad ca WS D A pzT q) args s 0 0 A) (F0 m 12 ls [])) {v1 : Nat} {v2 : Int32} {v3 : Int32} {v4 : Int32} {v5 : Int32} {v6 : Int32} {mm : Mm} (ho1 : isSh v1) (h : BX9_groansTold_12 k12 v1 v2 v3 v4 v5 v6 mm = some q) (hH : Hx WN ad ca WS D A s.heap mm H locs) (hl : lv_has ls 9 [(0, .ref (ad 0)), (1, .ref (ad v1)), (2, .int v2), (3, .int v3), (4, .int v4), (5, .int v5), (6, .int v6)]) : W p l e (rmk 5) s m args below meth c H locs 0 0 (MQ below (QcI WN ad ca WS D A pzT q) args s 0 0 A) (F0 m 12 ls []) := by
  unfold BX9_groansTold_12 at h
  have hx := C.1
  have hb := C.2.1
  refine lv_iload hx hb dX9_groansTold_12 (lv_at hl 6 rfl) ?_
  refine lv_bipush (v := 10) hx hb dX9_groansTold_14 (by decide) ?_
  refine lv_icmp_ge (tgt := 124) hx hb dX9_groansTold_16 (by decide) (fun hc16 => ?_) (fun hc16 => ?_)
  · replace h := tT hc16 h
    exact wX9_groansTold_124 C h hH (lv_sub hl [2, 3, 4, 5] rfl)
  · replace h := tF hc16 h
    refine lv_aload_n hx hb dX9_groansTold_19 rfl (lv_at hl 1 rfl) ?_
    refine lv_iconst (v := 2) hx hb dX9_groansTold_20 (by decide) ?_
    refine lv_iload hx hb dX9_groansTold_21 (lv_at hl 6 rfl) ?_
    refine lv_imul hx hb dX9_groansTold_23 ?_
    obtain ⟨q24, e24, h⟩ := tB h
    refine rcI C hH hl.1 (mX8_byteAt l e24) cf_RX9_87 (ro_sh ho1) (RR_of (by decide) (by decide)) rfl (rest := []) rfl (Nat.le_of_ble_eq_true rfl) dX9_groansTold_24 ?_
    intro hz24 H locs hH
    refine lv_istore (lv' := [(7, .int q24.1), (0, .ref (ad 0)), (1, .ref (ad v1)), (2, .int v2), (3, .int v3), (4, .int v4), (5, .int v5), (6, .int v6)]) hx hb dX9_groansTold_27 hl (by decide) rfl (fun ls hl => ?_)
    refine lv_aload_n hx hb dX9_groansTold_29 rfl (lv_at hl 2 rfl) ?_
    refine lv_iconst (v := 2) hx hb dX9_groansTold_30 (by decide) ?_
    refine lv_iload hx hb dX9_groansTold_31 (lv_at hl 7 rfl) ?_
    refine lv_imul hx hb dX9_groansTold_33 ?_
    refine lv_iconst (v := 1) hx hb dX9_groansTold_34 (by decide) ?_
    refine lv_iadd hx hb dX9_groansTold_35 ?_
    obtain ⟨q36, e36, h⟩ := tB h
    refine rcI C hH hl.1 (mX8_byteAt l e36) cf_RX9_87 (ro_sh ho1) (RR_of (by decide) (by decide)) rfl (rest := []) rfl (Nat.le_of_ble_eq_true rfl) dX9_groansTold_36 ?_
    intro hz36 H locs hH
    refine lv_istore (lv' := [(8, .int q36.1), (7, .int q24.1), (0, .ref (ad 0)), (1, .ref (ad v1)), (2, .int v2), (3, .int v3), (4, .int v4), (5, .int v5), (6, .int v6)]) hx hb dX9_groansTold_39 hl (by decide) rfl (fun ls hl => ?_)
    refine lv_aload_n hx hb dX9_groansTold_41 rfl (lv_at hl 2 rfl) ?_
    refine rgS C hH fs_RX9_10_0 dX9_groansTold_42 ?_
    refine lv_iconst (v := 4) hx hb dX9_groansTold_45 (by decide) ?_
    refine lv_iload hx hb dX9_groansTold_46 (lv_at hl 1 rfl) ?_
    obtain ⟨q48, e48, h⟩ := tB h
    refine rcI C hH hl.1 (mX7_holds l e48) cf_RX9_67 ro_1 (RR_of (by decide) (by decide)) rfl (rest := []) rfl (Nat.le_of_ble_eq_true rfl) dX9_groansTold_48 ?_
    intro hz48 H locs hH
    refine lv_if_eq (tgt := 124) hx hb dX9_groansTold_51 (by decide) (fun hc51 => ?_) (fun hc51 => ?_)
    · replace h := tT hc51 h
      exact wX9_groansTold_124 C h hH (lv_sub hl [4, 5, 6, 7] rfl)
    · replace h := tF hc51 h
      refine lv_aload_n hx hb dX9_groansTold_54 rfl (lv_at hl 2 rfl) ?_
      refine rgS C hH fs_RX9_10_0 dX9_groansTold_55 ?_
      refine lv_iconst (v := 0) hx hb dX9_groansTold_58 (by decide) ?_
      refine lv_iload hx hb dX9_groansTold_59 (lv_at hl 0 rfl) ?_
      obtain ⟨q61, e61, h⟩ := tB h
      refine rcI C hH hl.1 (mX7_holds l e61) cf_RX9_67 ro_1 (RR_of (by decide) (by decide)) rfl (rest := []) rfl (Nat.le_of_ble_eq_true rfl) dX9_groansTold_61 ?_
      intro hz61 H locs hH
      refine lv_if_ne (tgt := 70) hx hb dX9_groansTold_64 (by decide) (fun hc64 => ?_) (fun hc64 => ?_)
      · replace h := tF hc64 h
        refine lv_iload hx hb dX9_groansTold_70 (lv_at hl 0 rfl) ?_
        refine lv_aload_n hx hb dX9_groansTold_72 rfl (lv_at hl 2 rfl) ?_
        refine rgS C hH fs_RX9_10_0 dX9_groansTold_73 ?_
        refine lv_iconst (v := 4) hx hb dX9_groansTold_76 (by decide) ?_
        refine lv_iload hx hb dX9_groansTold_77 (lv_at hl 1 rfl) ?_
        obtain ⟨q79, e79, h⟩ := tB h
        refine rcI C hH hl.1 (mX7_told l e79) cf_RX9_98 ro_1 (RR_of (by decide) (by decide)) rfl (rest := [.int q36.1]) rfl (Nat.le_of_ble_eq_true rfl) dX9_groansTold_79 ?_
        intro hz79 H locs hH
        refine lv_icmp_eq (tgt := 101) hx hb dX9_groansTold_82 (by decide) (fun hc82 => ?_) (fun hc82 => ?_)
        · replace h := tT hc82 h
          exact wX9_groansTold_101 C hk12 ho1 h hH (lv_sub hl [2, 3, 4, 5, 6, 7, 8, 1, 0] rfl)
        · replace h := tF hc82 h
          refine lv_iload_n hx hb dX9_groansTold_85 rfl (lv_at hl 5 rfl) ?_
          refine lv_if_ne (tgt := 94) hx hb dX9_groansTold_86 (by decide) (fun hc86 => ?_) (fun hc86 => ?_)
          · replace h := tF hc86 h
            refine lv_iload hx hb dX9_groansTold_94 (lv_at hl 7 rfl) ?_
            exact wX9_groansTold_96 C hk12 ho1 h hH (lv_sub hl [2, 3, 4, 5, 6, 8, 1, 0] rfl)
          · replace h := tT hc86 h
            refine lv_iload hx hb dX9_groansTold_89 (lv_at hl 1 rfl) ?_
            refine lv_goto (tgt := 96) hx hb dX9_groansTold_91 (by decide) ?_
            exact wX9_groansTold_96 C hk12 ho1 h hH (lv_sub hl [2, 3, 4, 5, 6, 8, 1, 0] rfl)
      · replace h := tT hc64 h
        refine lv_goto (tgt := 124) hx hb dX9_groansTold_67 (by decide) ?_
        exact wX9_groansTold_124 C h hH (lv_sub hl [4, 5, 6, 7] rfl)
set_option maxHeartbeats 2000000 in
set_option maxRecDepth 20000 in
theorem wX9_groansTold_12 (C : Cx D ca A p s m args meth c cX9_groansTold RX9 9 (some .int)) {q : Int32 × Mm} : ∀ (N : Nat) (v1 : Nat) (v2 : Int32) (v3 : Int32) (v4 : Int32) (v5 : Int32) (v6 : Int32) (mm : Mm), DX9_groansTold_12 N v1 v2 v3 v4 v5 v6 mm = some q → isSh v1 → ∀ (H : Heap) (locs : List Loc) (ls : Array Slot), Hx WN ad ca WS D A s.heap mm H locs → lv_has ls 9 [(0, .ref (ad 0)), (1, .ref (ad v1)), (2, .int v2), (3, .int v3), (4, .int v4), (5, .int v5), (6, .int v6)] → W p l e (rmk 5) s m args below meth c H locs 0 0 (MQ below (QcI WN ad ca WS D A pzT q) args s 0 0 A) (F0 m 12 ls []) := by
  intro N
  induction N with
  | zero =>
    intro v1 v2 v3 v4 v5 v6 mm h
    have h2 : (none : Option (Int32 × Mm)) = some q := h
    cases h2
  | succ N ih =>
    intro v1 v2 v3 v4 v5 v6 mm h ho1 H locs ls hH hl
    exact wbX9_groansTold_12 C ih ho1 h hH hl
set_option maxHeartbeats 2000000 in
set_option maxRecDepth 20000 in
theorem mX9_groansTold (l : Launch) {D : va_G} {ca : Nat → ClassId} {A : Nat → Prop} {ad : Nat → Nat} {v1 : Nat} {v2 : Int32} {mm : Mm} {q : Int32 × Mm} (h : dX9_groansTold v1 v2 mm = some q) : Met l yX9_groansTold (wsOf yX9_groansTold cX9_groansTold 9 (some .int)) (rmk 5) (PcX WN ad ca WS D A [.ref (ad 0), .ref (ad v1), .int v2] mm) (QcI WN ad ca WS D A pzT q) 0 0 A := by
  unfold dX9_groansTold at h
  refine ent (by decide) (Nat.le_of_ble_eq_true rfl) (fun p e s m args below meth c hargs C hH ls hl => ?_)
  have hx := C.1
  have hb := C.2.1
  have hl : lv_has ls 9 [(0, .ref (ad 0)), (1, .ref (ad v1)), (2, .int v2)] := hl
  obtain ⟨ho1, h⟩ := tC h
  refine lv_iconst (v := 0) hx hb dX9_groansTold_0 (by decide) ?_
  refine lv_istore_n (lv' := [(3, .int 0), (0, .ref (ad 0)), (1, .ref (ad v1)), (2, .int v2)]) hx hb dX9_groansTold_1 rfl hl (by decide) rfl (fun ls hl => ?_)
  refine lv_iconst (v := 0) hx hb dX9_groansTold_2 (by decide) ?_
  refine lv_istore (lv' := [(4, .int 0), (3, .int 0), (0, .ref (ad 0)), (1, .ref (ad v1)), (2, .int v2)]) hx hb dX9_groansTold_3 hl (by decide) rfl (fun ls hl => ?_)
  refine lv_bipush (v := (-2)) hx hb dX9_groansTold_5 (by decide) ?_
  refine lv_istore (lv' := [(5, .int (-2)), (4, .int 0), (3, .int 0), (0, .ref (ad 0)), (1, .ref (ad v1)), (2, .int v2)]) hx hb dX9_groansTold_7 hl (by decide) rfl (fun ls hl => ?_)
  refine lv_iconst (v := 0) hx hb dX9_groansTold_9 (by decide) ?_
  refine lv_istore (lv' := [(6, .int 0), (5, .int (-2)), (4, .int 0), (3, .int 0), (0, .ref (ad 0)), (1, .ref (ad v1)), (2, .int v2)]) hx hb dX9_groansTold_10 hl (by decide) rfl (fun ls hl => ?_)
  exact wX9_groansTold_12 C FU _ _ _ _ _ _ _ h ho1 _ _ _ hH (lv_sub hl [4, 5, 6, 3, 2, 1, 0] rfl)
set_option maxHeartbeats 2000000 in
set_option maxRecDepth 20000 in
theorem wX9_groan_16 (C : Cx D ca A p s m args meth c cX9_groan RX9 4 (some .int)) {q : Int32 × Mm} {mm : Mm} (h : DX9_groan_16 mm = some q) (hH : Hx WN ad ca WS D A s.heap mm H locs) (hl : lv_has ls 4 []) : W p l e (rmk 6) s m args below meth c H locs 0 0 (MQ below (QcI WN ad ca WS D A pzT q) args s 0 0 A) (F0 m 16 ls []) := by
  unfold DX9_groan_16 at h
  have hx := C.1
  have hb := C.2.1
  refine lv_iconst (v := (-1)) hx hb dX9_groan_16 (by decide) ?_
  have h := Option.some.inj h
  subst h
  exact retI C hH trivial dX9_groan_17
set_option maxHeartbeats 2000000 in
set_option maxRecDepth 20000 in
theorem mX9_groan (l : Launch) {D : va_G} {ca : Nat → ClassId} {A : Nat → Prop} {ad : Nat → Nat} {v1 : Int32} {v2 : Int32} {mm : Mm} {q : Int32 × Mm} (h : dX9_groan v1 v2 mm = some q) : Met l yX9_groan (wsOf yX9_groan cX9_groan 4 (some .int)) (rmk 6) (PcX WN ad ca WS D A [.ref (ad 0), .int v1, .int v2] mm) (QcI WN ad ca WS D A pzT q) 0 0 A := by
  unfold dX9_groan at h
  refine ent (by decide) (Nat.le_of_ble_eq_true rfl) (fun p e s m args below meth c hargs C hH ls hl => ?_)
  have hx := C.1
  have hb := C.2.1
  have hl : lv_has ls 4 [(0, .ref (ad 0)), (1, .int v1), (2, .int v2)] := hl
  refine lv_iload_n hx hb dX9_groan_0 rfl (lv_at hl 1 rfl) ?_
  obtain ⟨q1, e1, h⟩ := tB h
  refine rsI C hH hl.1 (mX9_isShelf l e1) cs_RX9_75 (RR_of (by decide) (by decide)) rfl (rest := []) rfl (Nat.le_of_ble_eq_true rfl) dX9_groan_1 ?_
  intro hz1 H locs hH
  refine lv_if_eq (tgt := 16) hx hb dX9_groan_4 (by decide) (fun hc4 => ?_) (fun hc4 => ?_)
  · replace h := tT hc4 h
    exact wX9_groan_16 C h hH (lv_sub hl [] rfl)
  · replace h := tF hc4 h
    refine lv_iload_n hx hb dX9_groan_7 rfl (lv_at hl 2 rfl) ?_
    refine lv_if_lt (tgt := 16) hx hb dX9_groan_8 (by decide) (fun hc8 => ?_) (fun hc8 => ?_)
    · replace h := tT hc8 h
      exact wX9_groan_16 C h hH (lv_sub hl [] rfl)
    · replace h := tF hc8 h
      refine lv_iload_n hx hb dX9_groan_11 rfl (lv_at hl 2 rfl) ?_
      refine lv_iconst (v := 2) hx hb dX9_groan_12 (by decide) ?_
      refine lv_icmp_le (tgt := 18) hx hb dX9_groan_13 (by decide) (fun hc13 => ?_) (fun hc13 => ?_)
      · replace h := tT hc13 h
        refine lv_aload_n hx hb dX9_groan_18 rfl (lv_at hl 0 rfl) ?_
        refine rgS C hH fs_RX9_62_0 dX9_groan_19 ?_
        refine lv_iload_n hx hb dX9_groan_22 rfl (lv_at hl 1 rfl) ?_
        obtain ⟨hi23, h⟩ := tC h
        refine raS C hH (o := 37) (k := (Int32.toNatClampNeg v1)) (by decide) (show WS 37 = .inr (4, 6, 38) from rfl) hi23 rfl dX9_groan_23 ?_
        obtain ⟨q24, e24, h⟩ := tB h
        refine rcI C hH hl.1 (mX8_bytesRefusal l e24) cf_RX9_79 (ro_sh (sh_of hi23)) (RR_of (by decide) (by decide)) rfl (rest := []) rfl (Nat.le_of_ble_eq_true rfl) dX9_groan_24 ?_
        intro hz24 H locs hH
        refine lv_istore_n (lv' := [(3, .int q24.1), (0, .ref (ad 0)), (1, .int v1), (2, .int v2)]) hx hb dX9_groan_27 rfl hl (by decide) rfl (fun ls hl => ?_)
        refine lv_iload_n hx hb dX9_groan_28 rfl (lv_at hl 0 rfl) ?_
        refine lv_if_eq (tgt := 36) hx hb dX9_groan_29 (by decide) (fun hc29 => ?_) (fun hc29 => ?_)
        · replace h := tT hc29 h
          refine lv_aload_n hx hb dX9_groan_36 rfl (lv_at hl 1 rfl) ?_
          refine lv_aload_n hx hb dX9_groan_37 rfl (lv_at hl 1 rfl) ?_
          refine rgS C hH fs_RX9_62_0 dX9_groan_38 ?_
          refine lv_iload_n hx hb dX9_groan_41 rfl (lv_at hl 2 rfl) ?_
          obtain ⟨hi42, h⟩ := tC h
          refine raS C hH (o := 37) (k := (Int32.toNatClampNeg v1)) (by decide) (show WS 37 = .inr (4, 6, 38) from rfl) hi42 rfl dX9_groan_42 ?_
          refine lv_iload_n hx hb dX9_groan_43 rfl (lv_at hl 3 rfl) ?_
          obtain ⟨q44, e44, h⟩ := tB h
          refine rcI C hH hl.1 (mX9_groansTold l e44) cf_RX9_209 ro_0 (RR_of (by decide) (by decide)) rfl (rest := []) rfl (Nat.le_of_ble_eq_true rfl) dX9_groan_44 ?_
          intro hz44 H locs hH
          have h := Option.some.inj h
          subst h
          exact retI C hH trivial dX9_groan_47
        · replace h := tF hc29 h
          refine lv_iload_n hx hb dX9_groan_32 rfl (lv_at hl 0 rfl) ?_
          refine lv_goto (tgt := 47) hx hb dX9_groan_33 (by decide) ?_
          have h := Option.some.inj h
          subst h
          exact retI C hH trivial dX9_groan_47
      · replace h := tF hc13 h
        exact wX9_groan_16 C h hH (lv_sub hl [] rfl)
set_option maxHeartbeats 2000000 in
set_option maxRecDepth 20000 in
theorem wX10_groan_21 (C : Cx D ca A p s m args meth c cX10_groan RX10 11 (some .int)) {q : Int32 × Mm} {mm : Mm} (h : DX10_groan_21 mm = some q) (hH : Hx WN ad ca WS D A s.heap mm H locs) (hl : lv_has ls 11 []) : W p l e (rmk 106) s m args below meth c H locs 0 0 (MQ below (QcI WN ad ca WS D A pzT q) args s 0 0 A) (F0 m 21 ls []) := by
  unfold DX10_groan_21 at h
  have hx := C.1
  have hb := C.2.1
  refine lv_iconst (v := (-1)) hx hb dX10_groan_21 (by decide) ?_
  have h := Option.some.inj h
  subst h
  exact retI C hH trivial dX10_groan_22
set_option maxHeartbeats 2000000 in
set_option maxRecDepth 20000 in
theorem wX10_groan_246 (C : Cx D ca A p s m args meth c cX10_groan RX10 11 (some .int)) {q : Int32 × Mm} {v2 : Int32} {v3 : Int32} {v4 : Int32} {v5 : Int32} {mm : Mm} (h : DX10_groan_246 v2 v3 v4 v5 mm = some q) (hH : Hx WN ad ca WS D A s.heap mm H locs) (hl : lv_has ls 11 [(2, .int v2), (3, .int v3), (4, .int v4), (5, .int v5)]) : W p l e (rmk 106) s m args below meth c H locs 0 0 (MQ below (QcI WN ad ca WS D A pzT q) args s 0 0 A) (F0 m 246 ls []) := by
  unfold DX10_groan_246 at h
  have hx := C.1
  have hb := C.2.1
  refine lv_iload_n hx hb dX10_groan_246 rfl (lv_at hl 0 rfl) ?_
  refine lv_if_ne (tgt := 254) hx hb dX10_groan_247 (by decide) (fun hc247 => ?_) (fun hc247 => ?_)
  · replace h := tF hc247 h
    refine lv_iload_n hx hb dX10_groan_254 rfl (lv_at hl 0 rfl) ?_
    refine lv_iconst (v := 1) hx hb dX10_groan_255 (by decide) ?_
    refine lv_icmp_ne (tgt := 264) hx hb dX10_groan_256 (by decide) (fun hc256 => ?_) (fun hc256 => ?_)
    · replace h := tF hc256 h
      refine lv_iload hx hb dX10_groan_264 (lv_at hl 3 rfl) ?_
      have h := Option.some.inj h
      subst h
      exact retI C hH trivial dX10_groan_266
    · replace h := tT hc256 h
      refine lv_iload hx hb dX10_groan_259 (lv_at hl 2 rfl) ?_
      refine lv_goto (tgt := 266) hx hb dX10_groan_261 (by decide) ?_
      have h := Option.some.inj h
      subst h
      exact retI C hH trivial dX10_groan_266
  · replace h := tT hc247 h
    refine lv_iload_n hx hb dX10_groan_250 rfl (lv_at hl 1 rfl) ?_
    refine lv_goto (tgt := 266) hx hb dX10_groan_251 (by decide) ?_
    have h := Option.some.inj h
    subst h
    exact retI C hH trivial dX10_groan_266
set_option maxHeartbeats 2000000 in
set_option maxRecDepth 20000 in
theorem wX10_groan_240 (C : Cx D ca A p s m args meth c cX10_groan RX10 11 (some .int)) {q : Int32 × Mm} {k52 : Int32 → Int32 → Int32 → Int32 → Int32 → Int32 → Int32 → Mm → Option (Int32 × Mm)} (hk52 : ∀ (v1 : Int32) (v2 : Int32) (v3 : Int32) (v4 : Int32) (v5 : Int32) (v6 : Int32) (v7 : Int32) (mm : Mm), k52 v1 v2 v3 v4 v5 v6 v7 mm = some q → ∀ (H : Heap) (locs : List Loc) (ls : Array Slot), Hx WN ad ca WS D A s.heap mm H locs → lv_has ls 11 [(0, .ref (ad 58)), (1, .int v1), (2, .int v2), (3, .int v3), (4, .int v4), (5, .int v5), (6, .int v6), (7, .int v7)] → W p l e (rmk 106) s m args below meth c H locs 0 0 (MQ below (QcI WN ad ca WS D A pzT q) args s 0 0 A) (F0 m 52 ls [])) {v1 : Int32} {v2 : Int32} {v3 : Int32} {v4 : Int32} {v5 : Int32} {v6 : Int32} {v7 : Int32} {mm : Mm} (h : DX10_groan_240 k52 v1 v2 v3 v4 v5 v6 v7 mm = some q) (hH : Hx WN ad ca WS D A s.heap mm H locs) (hl : lv_has ls 11 [(0, .ref (ad 58)), (1, .int v1), (2, .int v2), (3, .int v3), (4, .int v4), (5, .int v5), (6, .int v6), (7, .int v7)]) : W p l e (rmk 106) s m args below meth c H locs 0 0 (MQ below (QcI WN ad ca WS D A pzT q) args s 0 0 A) (F0 m 240 ls []) := by
  unfold DX10_groan_240 at h
  have hx := C.1
  have hb := C.2.1
  refine lv_iinc (v := (v7 + 1)) (lv' := [(7, .int (v7 + 1)), (0, .ref (ad 58)), (1, .int v1), (2, .int v2), (3, .int v3), (4, .int v4), (5, .int v5), (6, .int v6)]) hx hb dX10_groan_240 hl (k := 7) rfl rfl (by decide) rfl (fun ls hl => ?_)
  refine lv_goto (tgt := 52) hx hb dX10_groan_243 (by decide) ?_
  exact hk52 _ _ _ _ _ _ _ _ h _ _ _ hH (lv_sub hl [1, 2, 3, 4, 5, 6, 7, 0] rfl)
set_option maxHeartbeats 2000000 in
set_option maxRecDepth 20000 in
theorem wX10_groan_237 (C : Cx D ca A p s m args meth c cX10_groan RX10 11 (some .int)) {q : Int32 × Mm} {k52 : Int32 → Int32 → Int32 → Int32 → Int32 → Int32 → Int32 → Mm → Option (Int32 × Mm)} (hk52 : ∀ (v1 : Int32) (v2 : Int32) (v3 : Int32) (v4 : Int32) (v5 : Int32) (v6 : Int32) (v7 : Int32) (mm : Mm), k52 v1 v2 v3 v4 v5 v6 v7 mm = some q → ∀ (H : Heap) (locs : List Loc) (ls : Array Slot), Hx WN ad ca WS D A s.heap mm H locs → lv_has ls 11 [(0, .ref (ad 58)), (1, .int v1), (2, .int v2), (3, .int v3), (4, .int v4), (5, .int v5), (6, .int v6), (7, .int v7)] → W p l e (rmk 106) s m args below meth c H locs 0 0 (MQ below (QcI WN ad ca WS D A pzT q) args s 0 0 A) (F0 m 52 ls [])) {v1 : Int32} {v2 : Int32} {v3 : Int32} {v5 : Int32} {v6 : Int32} {v7 : Int32} {s0 : Int32} {s1 : Int32} {mm : Mm} (h : DX10_groan_237 k52 v1 v2 v3 v5 v6 v7 s0 s1 mm = some q) (hH : Hx WN ad ca WS D A s.heap mm H locs) (hl : lv_has ls 11 [(0, .ref (ad 58)), (1, .int v1), (2, .int v2), (3, .int v3), (5, .int v5), (6, .int v6), (7, .int v7)]) : W p l e (rmk 106) s m args below meth c H locs 0 0 (MQ below (QcI WN ad ca WS D A pzT q) args s 0 0 A) (F0 m 237 ls [.int s0, .int s1]) := by
  unfold DX10_groan_237 at h
  have hx := C.1
  have hb := C.2.1
  refine lv_iadd hx hb dX10_groan_237 ?_
  refine lv_istore (lv' := [(4, .int (s1 + s0)), (0, .ref (ad 58)), (1, .int v1), (2, .int v2), (3, .int v3), (5, .int v5), (6, .int v6), (7, .int v7)]) hx hb dX10_groan_238 hl (by decide) rfl (fun ls hl => ?_)
  exact wX10_groan_240 C hk52 h hH (lv_sub hl [1, 2, 3, 4, 0, 5, 6, 7] rfl)
set_option maxHeartbeats 2000000 in
set_option maxRecDepth 20000 in
theorem wX10_groan_236 (C : Cx D ca A p s m args meth c cX10_groan RX10 11 (some .int)) {q : Int32 × Mm} {k52 : Int32 → Int32 → Int32 → Int32 → Int32 → Int32 → Int32 → Mm → Option (Int32 × Mm)} (hk52 : ∀ (v1 : Int32) (v2 : Int32) (v3 : Int32) (v4 : Int32) (v5 : Int32) (v6 : Int32) (v7 : Int32) (mm : Mm), k52 v1 v2 v3 v4 v5 v6 v7 mm = some q → ∀ (H : Heap) (locs : List Loc) (ls : Array Slot), Hx WN ad ca WS D A s.heap mm H locs → lv_has ls 11 [(0, .ref (ad 58)), (1, .int v1), (2, .int v2), (3, .int v3), (4, .int v4), (5, .int v5), (6, .int v6), (7, .int v7)] → W p l e (rmk 106) s m args below meth c H locs 0 0 (MQ below (QcI WN ad ca WS D A pzT q) args s 0 0 A) (F0 m 52 ls [])) {v1 : Int32} {v2 : Int32} {v3 : Int32} {v5 : Int32} {v6 : Int32} {v7 : Int32} {s0 : Int32} {mm : Mm} (h : DX10_groan_236 k52 v1 v2 v3 v5 v6 v7 s0 mm = some q) (hH : Hx WN ad ca WS D A s.heap mm H locs) (hl : lv_has ls 11 [(0, .ref (ad 58)), (1, .int v1), (2, .int v2), (3, .int v3), (5, .int v5), (6, .int v6), (7, .int v7)]) : W p l e (rmk 106) s m args below meth c H locs 0 0 (MQ below (QcI WN ad ca WS D A pzT q) args s 0 0 A) (F0 m 236 ls [.int s0]) := by
  unfold DX10_groan_236 at h
  have hx := C.1
  have hb := C.2.1
  refine lv_iconst (v := 0) hx hb dX10_groan_236 (by decide) ?_
  exact wX10_groan_237 C hk52 h hH (lv_sub hl [0, 1, 2, 3, 4, 5, 6] rfl)
set_option maxHeartbeats 2000000 in
set_option maxRecDepth 20000 in
theorem wX10_groan_184 (C : Cx D ca A p s m args meth c cX10_groan RX10 11 (some .int)) {q : Int32 × Mm} {k52 : Int32 → Int32 → Int32 → Int32 → Int32 → Int32 → Int32 → Mm → Option (Int32 × Mm)} (hk52 : ∀ (v1 : Int32) (v2 : Int32) (v3 : Int32) (v4 : Int32) (v5 : Int32) (v6 : Int32) (v7 : Int32) (mm : Mm), k52 v1 v2 v3 v4 v5 v6 v7 mm = some q → ∀ (H : Heap) (locs : List Loc) (ls : Array Slot), Hx WN ad ca WS D A s.heap mm H locs → lv_has ls 11 [(0, .ref (ad 58)), (1, .int v1), (2, .int v2), (3, .int v3), (4, .int v4), (5, .int v5), (6, .int v6), (7, .int v7)] → W p l e (rmk 106) s m args below meth c H locs 0 0 (MQ below (QcI WN ad ca WS D A pzT q) args s 0 0 A) (F0 m 52 ls [])) {v1 : Int32} {v2 : Int32} {v3 : Int32} {v4 : Int32} {v5 : Int32} {v6 : Int32} {v7 : Int32} {v9 : Int32} {v10 : Int32} {mm : Mm} (h : DX10_groan_184 k52 v1 v2 v3 v4 v5 v6 v7 v9 v10 mm = some q) (hH : Hx WN ad ca WS D A s.heap mm H locs) (hl : lv_has ls 11 [(0, .ref (ad 58)), (1, .int v1), (2, .int v2), (3, .int v3), (4, .int v4), (5, .int v5), (6, .int v6), (7, .int v7), (9, .int v9), (10, .int v10)]) : W p l e (rmk 106) s m args below meth c H locs 0 0 (MQ below (QcI WN ad ca WS D A pzT q) args s 0 0 A) (F0 m 184 ls []) := by
  unfold DX10_groan_184 at h
  have hx := C.1
  have hb := C.2.1
  refine lv_iload hx hb dX10_groan_184 (lv_at hl 4 rfl) ?_
  refine lv_aload_n hx hb dX10_groan_186 rfl (lv_at hl 0 rfl) ?_
  refine rgS C hH fs_RX10_22_58 dX10_groan_187 ?_
  refine lv_iload hx hb dX10_groan_190 (lv_at hl 8 rfl) ?_
  obtain ⟨hi192, h⟩ := tC h
  refine raI C hH (k := (Int32.toNatClampNeg v9)) (by decide) (show WS 63 = .inr (0, 10, 0) from rfl) hi192 rfl dX10_groan_192 ?_
  refine lv_if_lt (tgt := 236) hx hb dX10_groan_193 (by decide) (fun hc193 => ?_) (fun hc193 => ?_)
  · replace h := tT hc193 h
    exact wX10_groan_236 C hk52 h hH (lv_sub hl [0, 1, 2, 3, 5, 6, 7] rfl)
  · replace h := tF hc193 h
    refine lv_aload_n hx hb dX10_groan_196 rfl (lv_at hl 0 rfl) ?_
    refine lv_aload_n hx hb dX10_groan_197 rfl (lv_at hl 0 rfl) ?_
    refine rgS C hH fs_RX10_22_58 dX10_groan_198 ?_
    refine lv_iload hx hb dX10_groan_201 (lv_at hl 8 rfl) ?_
    obtain ⟨hi203, h⟩ := tC h
    refine raI C hH (k := (Int32.toNatClampNeg v9)) (by decide) (show WS 63 = .inr (0, 10, 0) from rfl) hi203 rfl dX10_groan_203 ?_
    refine lv_iload hx hb dX10_groan_204 (lv_at hl 9 rfl) ?_
    refine lv_aload_n hx hb dX10_groan_206 rfl (lv_at hl 0 rfl) ?_
    refine rgS C hH fs_RX10_9_58 dX10_groan_207 ?_
    refine lv_bipush (v := 34) hx hb dX10_groan_210 (by decide) ?_
    refine lv_iload hx hb dX10_groan_212 (lv_at hl 8 rfl) ?_
    refine lv_iadd hx hb dX10_groan_214 ?_
    obtain ⟨hi215, h⟩ := tC h
    refine raI C hH (k := (Int32.toNatClampNeg (34 + v9))) (by decide) (show WS 59 = .inr (0, 62, 0) from rfl) hi215 rfl dX10_groan_215 ?_
    obtain ⟨q216, e216, h⟩ := tB h
    refine rcI C hH hl.1 (mX10_worthFor l e216) cf_RX10_207 ro_58 (RR_of (by decide) (by decide)) rfl (rest := [.int v4]) rfl (Nat.le_of_ble_eq_true rfl) dX10_groan_216 ?_
    intro hz216 H locs hH
    refine lv_aload_n hx hb dX10_groan_219 rfl (lv_at hl 0 rfl) ?_
    refine rgS C hH fs_RX10_9_58 dX10_groan_220 ?_
    refine lv_bipush (v := 34) hx hb dX10_groan_223 (by decide) ?_
    refine lv_iload hx hb dX10_groan_225 (lv_at hl 8 rfl) ?_
    refine lv_iadd hx hb dX10_groan_227 ?_
    obtain ⟨hi228, h⟩ := tC h
    refine raI C hH (k := (Int32.toNatClampNeg (34 + v9))) (by decide) (show WS 59 = .inr (0, 62, 0) from rfl) hi228 rfl dX10_groan_228 ?_
    refine lv_icmp_ge (tgt := 236) hx hb dX10_groan_229 (by decide) (fun hc229 => ?_) (fun hc229 => ?_)
    · replace h := tT hc229 h
      exact wX10_groan_236 C hk52 h hH (lv_sub hl [0, 1, 2, 3, 5, 6, 7] rfl)
    · replace h := tF hc229 h
      refine lv_iconst (v := 1) hx hb dX10_groan_232 (by decide) ?_
      refine lv_goto (tgt := 237) hx hb dX10_groan_233 (by decide) ?_
      exact wX10_groan_237 C hk52 h hH (lv_sub hl [0, 1, 2, 3, 5, 6, 7] rfl)
set_option maxHeartbeats 2000000 in
set_option maxRecDepth 20000 in
theorem wX10_groan_179 (C : Cx D ca A p s m args meth c cX10_groan RX10 11 (some .int)) {q : Int32 × Mm} {k52 : Int32 → Int32 → Int32 → Int32 → Int32 → Int32 → Int32 → Mm → Option (Int32 × Mm)} (hk52 : ∀ (v1 : Int32) (v2 : Int32) (v3 : Int32) (v4 : Int32) (v5 : Int32) (v6 : Int32) (v7 : Int32) (mm : Mm), k52 v1 v2 v3 v4 v5 v6 v7 mm = some q → ∀ (H : Heap) (locs : List Loc) (ls : Array Slot), Hx WN ad ca WS D A s.heap mm H locs → lv_has ls 11 [(0, .ref (ad 58)), (1, .int v1), (2, .int v2), (3, .int v3), (4, .int v4), (5, .int v5), (6, .int v6), (7, .int v7)] → W p l e (rmk 106) s m args below meth c H locs 0 0 (MQ below (QcI WN ad ca WS D A pzT q) args s 0 0 A) (F0 m 52 ls [])) {v1 : Int32} {v2 : Int32} {v3 : Int32} {v4 : Int32} {v6 : Int32} {v7 : Int32} {v9 : Int32} {v10 : Int32} {s0 : Int32} {mm : Mm} (h : DX10_groan_179 k52 v1 v2 v3 v4 v6 v7 v9 v10 s0 mm = some q) (hH : Hx WN ad ca WS D A s.heap mm H locs) (hl : lv_has ls 11 [(0, .ref (ad 58)), (1, .int v1), (2, .int v2), (3, .int v3), (4, .int v4), (6, .int v6), (7, .int v7), (9, .int v9), (10, .int v10)]) : W p l e (rmk 106) s m args below meth c H locs 0 0 (MQ below (QcI WN ad ca WS D A pzT q) args s 0 0 A) (F0 m 179 ls [.int s0]) := by
  unfold DX10_groan_179 at h
  have hx := C.1
  have hb := C.2.1
  refine lv_istore (lv' := [(5, .int s0), (0, .ref (ad 58)), (1, .int v1), (2, .int v2), (3, .int v3), (4, .int v4), (6, .int v6), (7, .int v7), (9, .int v9), (10, .int v10)]) hx hb dX10_groan_179 hl (by decide) rfl (fun ls hl => ?_)
  refine lv_iinc (v := (v3 + 1)) (lv' := [(3, .int (v3 + 1)), (5, .int s0), (0, .ref (ad 58)), (1, .int v1), (2, .int v2), (4, .int v4), (6, .int v6), (7, .int v7), (9, .int v9), (10, .int v10)]) hx hb dX10_groan_181 hl (k := 4) rfl rfl (by decide) rfl (fun ls hl => ?_)
  exact wX10_groan_184 C hk52 h hH (lv_sub hl [2, 3, 4, 0, 5, 1, 6, 7, 8, 9] rfl)
set_option maxHeartbeats 2000000 in
set_option maxRecDepth 20000 in
theorem wX10_groan_124 (C : Cx D ca A p s m args meth c cX10_groan RX10 11 (some .int)) {q : Int32 × Mm} {k52 : Int32 → Int32 → Int32 → Int32 → Int32 → Int32 → Int32 → Mm → Option (Int32 × Mm)} (hk52 : ∀ (v1 : Int32) (v2 : Int32) (v3 : Int32) (v4 : Int32) (v5 : Int32) (v6 : Int32) (v7 : Int32) (mm : Mm), k52 v1 v2 v3 v4 v5 v6 v7 mm = some q → ∀ (H : Heap) (locs : List Loc) (ls : Array Slot), Hx WN ad ca WS D A s.heap mm H locs → lv_has ls 11 [(0, .ref (ad 58)), (1, .int v1), (2, .int v2), (3, .int v3), (4, .int v4), (5, .int v5), (6, .int v6), (7, .int v7)] → W p l e (rmk 106) s m args below meth c H locs 0 0 (MQ below (QcI WN ad ca WS D A pzT q) args s 0 0 A) (F0 m 52 ls [])) {v1 : Int32} {v2 : Int32} {v3 : Int32} {v4 : Int32} {v5 : Int32} {v7 : Int32} {v8 : Int32} {s0 : Int32} {mm : Mm} (h : DX10_groan_124 k52 v1 v2 v3 v4 v5 v7 v8 s0 mm = some q) (hH : Hx WN ad ca WS D A s.heap mm H locs) (hl : lv_has ls 11 [(0, .ref (ad 58)), (1, .int v1), (2, .int v2), (3, .int v3), (4, .int v4), (5, .int v5), (7, .int v7), (8, .int v8)]) : W p l e (rmk 106) s m args below meth c H locs 0 0 (MQ below (QcI WN ad ca WS D A pzT q) args s 0 0 A) (F0 m 124 ls [.int s0]) := by
  unfold DX10_groan_124 at h
  have hx := C.1
  have hb := C.2.1
  refine lv_istore (lv' := [(6, .int s0), (0, .ref (ad 58)), (1, .int v1), (2, .int v2), (3, .int v3), (4, .int v4), (5, .int v5), (7, .int v7), (8, .int v8)]) hx hb dX10_groan_124 hl (by decide) rfl (fun ls hl => ?_)
  refine lv_iload hx hb dX10_groan_126 (lv_at hl 0 rfl) ?_
  refine lv_if_eq (tgt := 240) hx hb dX10_groan_128 (by decide) (fun hc128 => ?_) (fun hc128 => ?_)
  · replace h := tT hc128 h
    exact wX10_groan_240 C hk52 h hH (lv_sub hl [1, 2, 3, 4, 5, 6, 0, 7] rfl)
  · replace h := tF hc128 h
    refine lv_aload_n hx hb dX10_groan_131 rfl (lv_at hl 1 rfl) ?_
    refine rgS C hH fs_RX10_78_58 dX10_groan_132 ?_
    refine lv_iload hx hb dX10_groan_135 (lv_at hl 8 rfl) ?_
    obtain ⟨hi137, h⟩ := tC h
    refine raL C hH (k := (Int32.toNatClampNeg v8)) (by decide) (show WS 81 = .inr (3, 360, 0) from rfl) hi137 rfl dX10_groan_137 ?_
    refine lv_l2i' hx hb dX10_groan_138 ?_
    refine lv_istore (lv' := [(9, .int (Int64.toInt32 (gL mm 81 (Int32.toNatClampNeg v8)))), (6, .int s0), (0, .ref (ad 58)), (1, .int v1), (2, .int v2), (3, .int v3), (4, .int v4), (5, .int v5), (7, .int v7), (8, .int v8)]) hx hb dX10_groan_139 hl (by decide) rfl (fun ls hl => ?_)
    refine lv_aload_n hx hb dX10_groan_141 rfl (lv_at hl 2 rfl) ?_
    refine rgS C hH fs_RX10_78_58 dX10_groan_142 ?_
    refine lv_iload hx hb dX10_groan_145 (lv_at hl 9 rfl) ?_
    refine lv_iconst (v := 1) hx hb dX10_groan_147 (by decide) ?_
    refine lv_iadd hx hb dX10_groan_148 ?_
    obtain ⟨hi149, h⟩ := tC h
    refine raL C hH (k := (Int32.toNatClampNeg (v8 + 1))) (by decide) (show WS 81 = .inr (3, 360, 0) from rfl) hi149 rfl dX10_groan_149 ?_
    refine lv_l2i' hx hb dX10_groan_150 ?_
    refine lv_istore (lv' := [(10, .int (Int64.toInt32 (gL mm 81 (Int32.toNatClampNeg (v8 + 1))))), (9, .int (Int64.toInt32 (gL mm 81 (Int32.toNatClampNeg v8)))), (6, .int s0), (0, .ref (ad 58)), (1, .int v1), (2, .int v2), (3, .int v3), (4, .int v4), (5, .int v5), (7, .int v7), (8, .int v8)]) hx hb dX10_groan_151 hl (by decide) rfl (fun ls hl => ?_)
    refine lv_iload hx hb dX10_groan_153 (lv_at hl 0 rfl) ?_
    refine lv_aload_n hx hb dX10_groan_155 rfl (lv_at hl 3 rfl) ?_
    refine rgS C hH fs_RX10_9_58 dX10_groan_156 ?_
    refine lv_bipush (v := 24) hx hb dX10_groan_159 (by decide) ?_
    refine lv_iload hx hb dX10_groan_161 (lv_at hl 1 rfl) ?_
    refine lv_iadd hx hb dX10_groan_163 ?_
    obtain ⟨hi164, h⟩ := tC h
    refine raI C hH (k := (Int32.toNatClampNeg (24 + (Int64.toInt32 (gL mm 81 (Int32.toNatClampNeg v8)))))) (by decide) (show WS 59 = .inr (0, 62, 0) from rfl) hi164 rfl dX10_groan_164 ?_
    refine lv_icmp_eq (tgt := 184) hx hb dX10_groan_165 (by decide) (fun hc165 => ?_) (fun hc165 => ?_)
    · replace h := tT hc165 h
      exact wX10_groan_184 C hk52 h hH (lv_sub hl [3, 4, 5, 6, 7, 8, 2, 9, 1, 0] rfl)
    · replace h := tF hc165 h
      refine lv_iload_n hx hb dX10_groan_168 rfl (lv_at hl 6 rfl) ?_
      refine lv_if_ne (tgt := 177) hx hb dX10_groan_169 (by decide) (fun hc169 => ?_) (fun hc169 => ?_)
      · replace h := tF hc169 h
        refine lv_iload hx hb dX10_groan_177 (lv_at hl 8 rfl) ?_
        exact wX10_groan_179 C hk52 h hH (lv_sub hl [3, 4, 5, 6, 7, 2, 9, 1, 0] rfl)
      · replace h := tT hc169 h
        refine lv_iload hx hb dX10_groan_172 (lv_at hl 1 rfl) ?_
        refine lv_goto (tgt := 179) hx hb dX10_groan_174 (by decide) ?_
        exact wX10_groan_179 C hk52 h hH (lv_sub hl [3, 4, 5, 6, 7, 2, 9, 1, 0] rfl)
set_option maxHeartbeats 2000000 in
set_option maxRecDepth 20000 in
theorem wX10_groan_123 (C : Cx D ca A p s m args meth c cX10_groan RX10 11 (some .int)) {q : Int32 × Mm} {k52 : Int32 → Int32 → Int32 → Int32 → Int32 → Int32 → Int32 → Mm → Option (Int32 × Mm)} (hk52 : ∀ (v1 : Int32) (v2 : Int32) (v3 : Int32) (v4 : Int32) (v5 : Int32) (v6 : Int32) (v7 : Int32) (mm : Mm), k52 v1 v2 v3 v4 v5 v6 v7 mm = some q → ∀ (H : Heap) (locs : List Loc) (ls : Array Slot), Hx WN ad ca WS D A s.heap mm H locs → lv_has ls 11 [(0, .ref (ad 58)), (1, .int v1), (2, .int v2), (3, .int v3), (4, .int v4), (5, .int v5), (6, .int v6), (7, .int v7)] → W p l e (rmk 106) s m args below meth c H locs 0 0 (MQ below (QcI WN ad ca WS D A pzT q) args s 0 0 A) (F0 m 52 ls [])) {v1 : Int32} {v2 : Int32} {v3 : Int32} {v4 : Int32} {v5 : Int32} {v7 : Int32} {v8 : Int32} {mm : Mm} (h : DX10_groan_123 k52 v1 v2 v3 v4 v5 v7 v8 mm = some q) (hH : Hx WN ad ca WS D A s.heap mm H locs) (hl : lv_has ls 11 [(0, .ref (ad 58)), (1, .int v1), (2, .int v2), (3, .int v3), (4, .int v4), (5, .int v5), (7, .int v7), (8, .int v8)]) : W p l e (rmk 106) s m args below meth c H locs 0 0 (MQ below (QcI WN ad ca WS D A pzT q) args s 0 0 A) (F0 m 123 ls []) := by
  unfold DX10_groan_123 at h
  have hx := C.1
  have hb := C.2.1
  refine lv_iconst (v := 0) hx hb dX10_groan_123 (by decide) ?_
  exact wX10_groan_124 C hk52 h hH (lv_sub hl [0, 1, 2, 3, 4, 5, 6, 7] rfl)
set_option maxHeartbeats 2000000 in
set_option maxRecDepth 20000 in
theorem wbX10_groan_52 (C : Cx D ca A p s m args meth c cX10_groan RX10 11 (some .int)) {q : Int32 × Mm} {k52 : Int32 → Int32 → Int32 → Int32 → Int32 → Int32 → Int32 → Mm → Option (Int32 × Mm)} (hk52 : ∀ (v1 : Int32) (v2 : Int32) (v3 : Int32) (v4 : Int32) (v5 : Int32) (v6 : Int32) (v7 : Int32) (mm : Mm), k52 v1 v2 v3 v4 v5 v6 v7 mm = some q → ∀ (H : Heap) (locs : List Loc) (ls : Array Slot), Hx WN ad ca WS D A s.heap mm H locs → lv_has ls 11 [(0, .ref (ad 58)), (1, .int v1), (2, .int v2), (3, .int v3), (4, .int v4), (5, .int v5), (6, .int v6), (7, .int v7)] → W p l e (rmk 106) s m args below meth c H locs 0 0 (MQ below (QcI WN ad ca WS D A pzT q) args s 0 0 A) (F0 m 52 ls [])) {v1 : Int32} {v2 : Int32} {v3 : Int32} {v4 : Int32} {v5 : Int32} {v6 : Int32} {v7 : Int32} {mm : Mm} (h : BX10_groan_52 k52 v1 v2 v3 v4 v5 v6 v7 mm = some q) (hH : Hx WN ad ca WS D A s.heap mm H locs) (hl : lv_has ls 11 [(0, .ref (ad 58)), (1, .int v1), (2, .int v2), (3, .int v3), (4, .int v4), (5, .int v5), (6, .int v6), (7, .int v7)]) : W p l e (rmk 106) s m args below meth c H locs 0 0 (MQ below (QcI WN ad ca WS D A pzT q) args s 0 0 A) (F0 m 52 ls []) := by
  unfold BX10_groan_52 at h
  have hx := C.1
  have hb := C.2.1
  refine lv_iload hx hb dX10_groan_52 (lv_at hl 7 rfl) ?_
  refine lv_bipush (v := 10) hx hb dX10_groan_54 (by decide) ?_
  refine lv_icmp_ge (tgt := 246) hx hb dX10_groan_56 (by decide) (fun hc56 => ?_) (fun hc56 => ?_)
  · replace h := tT hc56 h
    exact wX10_groan_246 C h hH (lv_sub hl [2, 3, 4, 5] rfl)
  · replace h := tF hc56 h
    refine lv_iload hx hb dX10_groan_59 (lv_at hl 6 rfl) ?_
    refine lv_if_eq (tgt := 246) hx hb dX10_groan_61 (by decide) (fun hc61 => ?_) (fun hc61 => ?_)
    · replace h := tT hc61 h
      exact wX10_groan_246 C h hH (lv_sub hl [2, 3, 4, 5] rfl)
    · replace h := tF hc61 h
      refine lv_bipush (v := 60) hx hb dX10_groan_64 (by decide) ?_
      refine lv_iload_n hx hb dX10_groan_66 rfl (lv_at hl 1 rfl) ?_
      refine lv_imul hx hb dX10_groan_67 ?_
      refine lv_iconst (v := 2) hx hb dX10_groan_68 (by decide) ?_
      refine lv_iload hx hb dX10_groan_69 (lv_at hl 7 rfl) ?_
      refine lv_imul hx hb dX10_groan_71 ?_
      refine lv_iadd hx hb dX10_groan_72 ?_
      refine lv_istore (lv' := [(8, .int ((60 * v1) + (2 * v7))), (0, .ref (ad 58)), (1, .int v1), (2, .int v2), (3, .int v3), (4, .int v4), (5, .int v5), (6, .int v6), (7, .int v7)]) hx hb dX10_groan_73 hl (by decide) rfl (fun ls hl => ?_)
      refine lv_iconst (v := 2) hx hb dX10_groan_75 (by decide) ?_
      refine lv_iload hx hb dX10_groan_76 (lv_at hl 8 rfl) ?_
      refine lv_imul hx hb dX10_groan_78 ?_
      refine lv_iconst (v := 1) hx hb dX10_groan_79 (by decide) ?_
      refine lv_iadd hx hb dX10_groan_80 ?_
      refine lv_aload_n hx hb dX10_groan_81 rfl (lv_at hl 1 rfl) ?_
      refine rgS C hH fs_RX10_75_58 dX10_groan_82 ?_
      refine lv_iload_n hx hb dX10_groan_85 rfl (lv_at hl 2 rfl) ?_
      obtain ⟨hi86, h⟩ := tC h
      refine raI C hH (k := (Int32.toNatClampNeg v1)) (by decide) (show WS 80 = .inr (0, 6, 0) from rfl) hi86 rfl dX10_groan_86 ?_
      refine lv_icmp_ge (tgt := 123) hx hb dX10_groan_87 (by decide) (fun hc87 => ?_) (fun hc87 => ?_)
      · replace h := tT hc87 h
        exact wX10_groan_123 C hk52 h hH (lv_sub hl [1, 2, 3, 4, 5, 6, 8, 0] rfl)
      · replace h := tF hc87 h
        refine lv_aload_n hx hb dX10_groan_90 rfl (lv_at hl 1 rfl) ?_
        refine lv_aload_n hx hb dX10_groan_91 rfl (lv_at hl 1 rfl) ?_
        refine rgS C hH fs_RX10_78_58 dX10_groan_92 ?_
        refine lv_iload hx hb dX10_groan_95 (lv_at hl 0 rfl) ?_
        obtain ⟨hi97, h⟩ := tC h
        refine raL C hH (k := (Int32.toNatClampNeg ((60 * v1) + (2 * v7)))) (by decide) (show WS 81 = .inr (3, 360, 0) from rfl) hi97 rfl dX10_groan_97 ?_
        obtain ⟨q98, e98, h⟩ := tB h
        refine rcI C hH hl.1 (mX10_isSack l e98) cf_RX10_130 ro_58 (RR_of (by decide) (by decide)) rfl (rest := []) rfl (Nat.le_of_ble_eq_true rfl) dX10_groan_98 ?_
        intro hz98 H locs hH
        refine lv_if_eq (tgt := 123) hx hb dX10_groan_101 (by decide) (fun hc101 => ?_) (fun hc101 => ?_)
        · replace h := tT hc101 h
          exact wX10_groan_123 C hk52 h hH (lv_sub hl [1, 2, 3, 4, 5, 6, 8, 0] rfl)
        · replace h := tF hc101 h
          refine lv_aload_n hx hb dX10_groan_104 rfl (lv_at hl 1 rfl) ?_
          refine rgS C hH fs_RX10_78_58 dX10_groan_105 ?_
          refine lv_iload hx hb dX10_groan_108 (lv_at hl 0 rfl) ?_
          refine lv_iconst (v := 1) hx hb dX10_groan_110 (by decide) ?_
          refine lv_iadd hx hb dX10_groan_111 ?_
          obtain ⟨hi112, h⟩ := tC h
          refine raL C hH (k := (Int32.toNatClampNeg (((60 * v1) + (2 * v7)) + 1))) (by decide) (show WS 81 = .inr (3, 360, 0) from rfl) hi112 rfl dX10_groan_112 ?_
          obtain ⟨q113, e113, h⟩ := tB h
          refine rsI C hH hl.1 (mX10_isGood l e113) cs_RX10_106 (RR_of (by decide) (by decide)) rfl (rest := []) rfl (Nat.le_of_ble_eq_true rfl) dX10_groan_113 ?_
          intro hz113 H locs hH
          refine lv_if_eq (tgt := 123) hx hb dX10_groan_116 (by decide) (fun hc116 => ?_) (fun hc116 => ?_)
          · replace h := tT hc116 h
            exact wX10_groan_123 C hk52 h hH (lv_sub hl [1, 2, 3, 4, 5, 6, 8, 0] rfl)
          · replace h := tF hc116 h
            refine lv_iconst (v := 1) hx hb dX10_groan_119 (by decide) ?_
            refine lv_goto (tgt := 124) hx hb dX10_groan_120 (by decide) ?_
            exact wX10_groan_124 C hk52 h hH (lv_sub hl [1, 2, 3, 4, 5, 6, 8, 0] rfl)
set_option maxHeartbeats 2000000 in
set_option maxRecDepth 20000 in
theorem wX10_groan_52 (C : Cx D ca A p s m args meth c cX10_groan RX10 11 (some .int)) {q : Int32 × Mm} : ∀ (N : Nat) (v1 : Int32) (v2 : Int32) (v3 : Int32) (v4 : Int32) (v5 : Int32) (v6 : Int32) (v7 : Int32) (mm : Mm), DX10_groan_52 N v1 v2 v3 v4 v5 v6 v7 mm = some q → ∀ (H : Heap) (locs : List Loc) (ls : Array Slot), Hx WN ad ca WS D A s.heap mm H locs → lv_has ls 11 [(0, .ref (ad 58)), (1, .int v1), (2, .int v2), (3, .int v3), (4, .int v4), (5, .int v5), (6, .int v6), (7, .int v7)] → W p l e (rmk 106) s m args below meth c H locs 0 0 (MQ below (QcI WN ad ca WS D A pzT q) args s 0 0 A) (F0 m 52 ls []) := by
  intro N
  induction N with
  | zero =>
    intro v1 v2 v3 v4 v5 v6 v7 mm h
    have h2 : (none : Option (Int32 × Mm)) = some q := h
    cases h2
  | succ N ih =>
    intro v1 v2 v3 v4 v5 v6 v7 mm h H locs ls hH hl
    exact wbX10_groan_52 C ih h hH hl
set_option maxHeartbeats 2000000 in
set_option maxRecDepth 20000 in
theorem mX10_groan (l : Launch) {D : va_G} {ca : Nat → ClassId} {A : Nat → Prop} {ad : Nat → Nat} {v1 : Int32} {v2 : Int32} {mm : Mm} {q : Int32 × Mm} (h : dX10_groan v1 v2 mm = some q) : Met l yX10_groan (wsOf yX10_groan cX10_groan 11 (some .int)) (rmk 106) (PcX WN ad ca WS D A [.ref (ad 58), .int v1, .int v2] mm) (QcI WN ad ca WS D A pzT q) 0 0 A := by
  unfold dX10_groan at h
  refine ent (by decide) (Nat.le_of_ble_eq_true rfl) (fun p e s m args below meth c hargs C hH ls hl => ?_)
  have hx := C.1
  have hb := C.2.1
  have hl : lv_has ls 11 [(0, .ref (ad 58)), (1, .int v1), (2, .int v2)] := hl
  refine lv_aload_n hx hb dX10_groan_0 rfl (lv_at hl 0 rfl) ?_
  refine lv_iload_n hx hb dX10_groan_1 rfl (lv_at hl 1 rfl) ?_
  obtain ⟨q2, e2, h⟩ := tB h
  refine rcI C hH hl.1 (mX10_bytesIs l e2) cf_RX10_217 ro_58 (RR_of (by decide) (by decide)) rfl (rest := []) rfl (Nat.le_of_ble_eq_true rfl) dX10_groan_2 ?_
  intro hz2 H locs hH
  refine lv_iconst (v := (-1)) hx hb dX10_groan_5 (by decide) ?_
  refine lv_icmp_eq (tgt := 21) hx hb dX10_groan_6 (by decide) (fun hc6 => ?_) (fun hc6 => ?_)
  · replace h := tT hc6 h
    exact wX10_groan_21 C h hH (lv_sub hl [] rfl)
  · replace h := tF hc6 h
    refine lv_iload_n hx hb dX10_groan_9 rfl (lv_at hl 2 rfl) ?_
    refine lv_i2l' hx hb dX10_groan_10 ?_
    refine lv_lconst (v := 0) hx hb dX10_groan_11 (by decide) ?_
    refine rldc2 C (v := 2) k_RX10_211 dX10_groan_12 ?_
    obtain ⟨q15, e15, h⟩ := tB h
    refine rsI C hH hl.1 (mX10_within l e15) cs_RX10_96 (RR_of (by decide) (by decide)) rfl (rest := []) rfl (Nat.le_of_ble_eq_true rfl) dX10_groan_15 ?_
    intro hz15 H locs hH
    refine lv_if_ne (tgt := 23) hx hb dX10_groan_18 (by decide) (fun hc18 => ?_) (fun hc18 => ?_)
    · replace h := tF hc18 h
      refine lv_aload_n hx hb dX10_groan_23 rfl (lv_at hl 0 rfl) ?_
      refine lv_iload_n hx hb dX10_groan_24 rfl (lv_at hl 1 rfl) ?_
      obtain ⟨q25, e25, h⟩ := tB h
      refine rcI C hH hl.1 (mX10_bytesIs l e25) cf_RX10_217 ro_58 (RR_of (by decide) (by decide)) rfl (rest := []) rfl (Nat.le_of_ble_eq_true rfl) dX10_groan_25 ?_
      intro hz25 H locs hH
      refine lv_if_ge (tgt := 37) hx hb dX10_groan_28 (by decide) (fun hc28 => ?_) (fun hc28 => ?_)
      · replace h := tT hc28 h
        refine lv_iconst (v := 0) hx hb dX10_groan_37 (by decide) ?_
        refine lv_istore_n (lv' := [(3, .int 0), (0, .ref (ad 58)), (1, .int v1), (2, .int v2)]) hx hb dX10_groan_38 rfl hl (by decide) rfl (fun ls hl => ?_)
        refine lv_iconst (v := 0) hx hb dX10_groan_39 (by decide) ?_
        refine lv_istore (lv' := [(4, .int 0), (3, .int 0), (0, .ref (ad 58)), (1, .int v1), (2, .int v2)]) hx hb dX10_groan_40 hl (by decide) rfl (fun ls hl => ?_)
        refine lv_bipush (v := (-2)) hx hb dX10_groan_42 (by decide) ?_
        refine lv_istore (lv' := [(5, .int (-2)), (4, .int 0), (3, .int 0), (0, .ref (ad 58)), (1, .int v1), (2, .int v2)]) hx hb dX10_groan_44 hl (by decide) rfl (fun ls hl => ?_)
        refine lv_iconst (v := 1) hx hb dX10_groan_46 (by decide) ?_
        refine lv_istore (lv' := [(6, .int 1), (5, .int (-2)), (4, .int 0), (3, .int 0), (0, .ref (ad 58)), (1, .int v1), (2, .int v2)]) hx hb dX10_groan_47 hl (by decide) rfl (fun ls hl => ?_)
        refine lv_iconst (v := 0) hx hb dX10_groan_49 (by decide) ?_
        refine lv_istore (lv' := [(7, .int 0), (6, .int 1), (5, .int (-2)), (4, .int 0), (3, .int 0), (0, .ref (ad 58)), (1, .int v1), (2, .int v2)]) hx hb dX10_groan_50 hl (by decide) rfl (fun ls hl => ?_)
        exact wX10_groan_52 C FU _ _ _ _ _ _ _ _ h _ _ _ hH (lv_sub hl [5, 6, 7, 4, 3, 2, 1, 0] rfl)
      · replace h := tF hc28 h
        refine lv_aload_n hx hb dX10_groan_31 rfl (lv_at hl 0 rfl) ?_
        refine lv_iload_n hx hb dX10_groan_32 rfl (lv_at hl 1 rfl) ?_
        obtain ⟨q33, e33, h⟩ := tB h
        refine rcI C hH hl.1 (mX10_bytesIs l e33) cf_RX10_217 ro_58 (RR_of (by decide) (by decide)) rfl (rest := []) rfl (Nat.le_of_ble_eq_true rfl) dX10_groan_33 ?_
        intro hz33 H locs hH
        have h := Option.some.inj h
        subst h
        exact retI C hH trivial dX10_groan_36
    · replace h := tT hc18 h
      exact wX10_groan_21 C h hH (lv_sub hl [] rfl)
set_option maxHeartbeats 2000000 in
set_option maxRecDepth 20000 in
theorem wX7_openWith_36 (C : Cx D ca A p s m args meth c cX7_openWith RX7 4 (some .int)) {q : Int32 × Mm} {k4 : Int32 → Int32 → Int32 → Mm → Option (Int32 × Mm)} (hk4 : ∀ (v1 : Int32) (v2 : Int32) (v3 : Int32) (mm : Mm), k4 v1 v2 v3 mm = some q → ∀ (H : Heap) (locs : List Loc) (ls : Array Slot), Hx WN ad ca WS D A s.heap mm H locs → lv_has ls 4 [(0, .ref (ad 1)), (1, .int v1), (2, .int v2), (3, .int v3)] → W p l e (rmk 4) s m args below meth c H locs 0 0 (MQ below (QcI WN ad ca WS D A pzT q) args s 0 0 A) (F0 m 4 ls [])) {v1 : Int32} {v3 : Int32} {s0 : Int32} {s1 : Int32} {mm : Mm} (h : DX7_openWith_36 k4 v1 v3 s0 s1 mm = some q) (hH : Hx WN ad ca WS D A s.heap mm H locs) (hl : lv_has ls 4 [(0, .ref (ad 1)), (1, .int v1), (3, .int v3)]) : W p l e (rmk 4) s m args below meth c H locs 0 0 (MQ below (QcI WN ad ca WS D A pzT q) args s 0 0 A) (F0 m 36 ls [.int s0, .int s1]) := by
  unfold DX7_openWith_36 at h
  have hx := C.1
  have hb := C.2.1
  refine lv_iadd hx hb dX7_openWith_36 ?_
  refine lv_istore_n (lv' := [(2, .int (s1 + s0)), (0, .ref (ad 1)), (1, .int v1), (3, .int v3)]) hx hb dX7_openWith_37 rfl hl (by decide) rfl (fun ls hl => ?_)
  refine lv_iinc (v := (v3 + 1)) (lv' := [(3, .int (v3 + 1)), (2, .int (s1 + s0)), (0, .ref (ad 1)), (1, .int v1)]) hx hb dX7_openWith_38 hl (k := 3) rfl rfl (by decide) rfl (fun ls hl => ?_)
  refine lv_goto (tgt := 4) hx hb dX7_openWith_41 (by decide) ?_
  exact hk4 _ _ _ _ h _ _ _ hH (lv_sub hl [2, 3, 1, 0] rfl)
set_option maxHeartbeats 2000000 in
set_option maxRecDepth 20000 in
theorem wX7_openWith_35 (C : Cx D ca A p s m args meth c cX7_openWith RX7 4 (some .int)) {q : Int32 × Mm} {k4 : Int32 → Int32 → Int32 → Mm → Option (Int32 × Mm)} (hk4 : ∀ (v1 : Int32) (v2 : Int32) (v3 : Int32) (mm : Mm), k4 v1 v2 v3 mm = some q → ∀ (H : Heap) (locs : List Loc) (ls : Array Slot), Hx WN ad ca WS D A s.heap mm H locs → lv_has ls 4 [(0, .ref (ad 1)), (1, .int v1), (2, .int v2), (3, .int v3)] → W p l e (rmk 4) s m args below meth c H locs 0 0 (MQ below (QcI WN ad ca WS D A pzT q) args s 0 0 A) (F0 m 4 ls [])) {v1 : Int32} {v3 : Int32} {s0 : Int32} {mm : Mm} (h : DX7_openWith_35 k4 v1 v3 s0 mm = some q) (hH : Hx WN ad ca WS D A s.heap mm H locs) (hl : lv_has ls 4 [(0, .ref (ad 1)), (1, .int v1), (3, .int v3)]) : W p l e (rmk 4) s m args below meth c H locs 0 0 (MQ below (QcI WN ad ca WS D A pzT q) args s 0 0 A) (F0 m 35 ls [.int s0]) := by
  unfold DX7_openWith_35 at h
  have hx := C.1
  have hb := C.2.1
  refine lv_iconst (v := 0) hx hb dX7_openWith_35 (by decide) ?_
  exact wX7_openWith_36 C hk4 h hH (lv_sub hl [0, 1, 2] rfl)
set_option maxHeartbeats 2000000 in
set_option maxRecDepth 20000 in
theorem wbX7_openWith_4 (C : Cx D ca A p s m args meth c cX7_openWith RX7 4 (some .int)) {q : Int32 × Mm} {k4 : Int32 → Int32 → Int32 → Mm → Option (Int32 × Mm)} (hk4 : ∀ (v1 : Int32) (v2 : Int32) (v3 : Int32) (mm : Mm), k4 v1 v2 v3 mm = some q → ∀ (H : Heap) (locs : List Loc) (ls : Array Slot), Hx WN ad ca WS D A s.heap mm H locs → lv_has ls 4 [(0, .ref (ad 1)), (1, .int v1), (2, .int v2), (3, .int v3)] → W p l e (rmk 4) s m args below meth c H locs 0 0 (MQ below (QcI WN ad ca WS D A pzT q) args s 0 0 A) (F0 m 4 ls [])) {v1 : Int32} {v2 : Int32} {v3 : Int32} {mm : Mm} (h : BX7_openWith_4 k4 v1 v2 v3 mm = some q) (hH : Hx WN ad ca WS D A s.heap mm H locs) (hl : lv_has ls 4 [(0, .ref (ad 1)), (1, .int v1), (2, .int v2), (3, .int v3)]) : W p l e (rmk 4) s m args below meth c H locs 0 0 (MQ below (QcI WN ad ca WS D A pzT q) args s 0 0 A) (F0 m 4 ls []) := by
  unfold BX7_openWith_4 at h
  have hx := C.1
  have hb := C.2.1
  refine lv_iload_n hx hb dX7_openWith_4 rfl (lv_at hl 3 rfl) ?_
  refine lv_aload_n hx hb dX7_openWith_5 rfl (lv_at hl 0 rfl) ?_
  refine rgI C hH fi_RX7_31_1 dX7_openWith_6 ?_
  refine lv_icmp_ge (tgt := 44) hx hb dX7_openWith_9 (by decide) (fun hc9 => ?_) (fun hc9 => ?_)
  · replace h := tT hc9 h
    refine lv_iload_n hx hb dX7_openWith_44 rfl (lv_at hl 2 rfl) ?_
    have h := Option.some.inj h
    subst h
    exact retI C hH trivial dX7_openWith_45
  · replace h := tF hc9 h
    refine lv_iload_n hx hb dX7_openWith_12 rfl (lv_at hl 2 rfl) ?_
    refine lv_aload_n hx hb dX7_openWith_13 rfl (lv_at hl 0 rfl) ?_
    refine lv_iload_n hx hb dX7_openWith_14 rfl (lv_at hl 3 rfl) ?_
    obtain ⟨q15, e15, h⟩ := tB h
    refine rcI C hH hl.1 (mX7_isOpen l e15) cf_RX7_42 ro_1 (RR_of (by decide) (by decide)) rfl (rest := [.int v2]) rfl (Nat.le_of_ble_eq_true rfl) dX7_openWith_15 ?_
    intro hz15 H locs hH
    refine lv_if_eq (tgt := 35) hx hb dX7_openWith_18 (by decide) (fun hc18 => ?_) (fun hc18 => ?_)
    · replace h := tT hc18 h
      exact wX7_openWith_35 C hk4 h hH (lv_sub hl [0, 1, 3] rfl)
    · replace h := tF hc18 h
      refine lv_aload_n hx hb dX7_openWith_21 rfl (lv_at hl 0 rfl) ?_
      refine lv_iconst (v := 4) hx hb dX7_openWith_22 (by decide) ?_
      refine lv_iload_n hx hb dX7_openWith_23 rfl (lv_at hl 3 rfl) ?_
      obtain ⟨q24, e24, h⟩ := tB h
      refine rcI C hH hl.1 (mX7_told l e24) cf_RX7_38 ro_1 (RR_of (by decide) (by decide)) rfl (rest := [.int v2]) rfl (Nat.le_of_ble_eq_true rfl) dX7_openWith_24 ?_
      intro hz24 H locs hH
      refine lv_iload_n hx hb dX7_openWith_27 rfl (lv_at hl 1 rfl) ?_
      refine lv_icmp_ne (tgt := 35) hx hb dX7_openWith_28 (by decide) (fun hc28 => ?_) (fun hc28 => ?_)
      · replace h := tF hc28 h
        exact wX7_openWith_35 C hk4 h hH (lv_sub hl [0, 1, 3] rfl)
      · replace h := tT hc28 h
        refine lv_iconst (v := 1) hx hb dX7_openWith_31 (by decide) ?_
        refine lv_goto (tgt := 36) hx hb dX7_openWith_32 (by decide) ?_
        exact wX7_openWith_36 C hk4 h hH (lv_sub hl [0, 1, 3] rfl)
set_option maxHeartbeats 2000000 in
set_option maxRecDepth 20000 in
theorem wX7_openWith_4 (C : Cx D ca A p s m args meth c cX7_openWith RX7 4 (some .int)) {q : Int32 × Mm} : ∀ (N : Nat) (v1 : Int32) (v2 : Int32) (v3 : Int32) (mm : Mm), DX7_openWith_4 N v1 v2 v3 mm = some q → ∀ (H : Heap) (locs : List Loc) (ls : Array Slot), Hx WN ad ca WS D A s.heap mm H locs → lv_has ls 4 [(0, .ref (ad 1)), (1, .int v1), (2, .int v2), (3, .int v3)] → W p l e (rmk 4) s m args below meth c H locs 0 0 (MQ below (QcI WN ad ca WS D A pzT q) args s 0 0 A) (F0 m 4 ls []) := by
  intro N
  induction N with
  | zero =>
    intro v1 v2 v3 mm h
    have h2 : (none : Option (Int32 × Mm)) = some q := h
    cases h2
  | succ N ih =>
    intro v1 v2 v3 mm h H locs ls hH hl
    exact wbX7_openWith_4 C ih h hH hl
set_option maxHeartbeats 2000000 in
set_option maxRecDepth 20000 in
theorem mX7_openWith (l : Launch) {D : va_G} {ca : Nat → ClassId} {A : Nat → Prop} {ad : Nat → Nat} {v1 : Int32} {mm : Mm} {q : Int32 × Mm} (h : dX7_openWith v1 mm = some q) : Met l yX7_openWith (wsOf yX7_openWith cX7_openWith 4 (some .int)) (rmk 4) (PcX WN ad ca WS D A [.ref (ad 1), .int v1] mm) (QcI WN ad ca WS D A pzT q) 0 0 A := by
  unfold dX7_openWith at h
  refine ent (by decide) (Nat.le_of_ble_eq_true rfl) (fun p e s m args below meth c hargs C hH ls hl => ?_)
  have hx := C.1
  have hb := C.2.1
  have hl : lv_has ls 4 [(0, .ref (ad 1)), (1, .int v1)] := hl
  refine lv_iconst (v := 0) hx hb dX7_openWith_0 (by decide) ?_
  refine lv_istore_n (lv' := [(2, .int 0), (0, .ref (ad 1)), (1, .int v1)]) hx hb dX7_openWith_1 rfl hl (by decide) rfl (fun ls hl => ?_)
  refine lv_iconst (v := 0) hx hb dX7_openWith_2 (by decide) ?_
  refine lv_istore_n (lv' := [(3, .int 0), (2, .int 0), (0, .ref (ad 1)), (1, .int v1)]) hx hb dX7_openWith_3 rfl hl (by decide) rfl (fun ls hl => ?_)
  exact wX7_openWith_4 C FU _ _ _ _ h _ _ _ hH (lv_sub hl [2, 3, 1, 0] rfl)
end WALK
