/-! ===== the walks: each method by its denotation (laid by wip/whole/gen.py) ===== -/
section WALK
variable {p : Program} {l : Launch} {e : Env} {s : State} {m : MethodId} {args : Array Value} {below : List Frame} {meth : Method} {c : Code} {H : Heap} {locs : List Loc} {Q : State → Prop} {cells slots : Nat} {ls : Array Slot} {D : va_G} {ca : Nat → ClassId} {A : Nat → Prop} {ad : Nat → Nat}
set_option maxHeartbeats 2000000 in
set_option maxRecDepth 20000 in
theorem wbX0_followed_36 (C : Cx D ca A p s m args meth c cX0_followed RX0 9 (some .long)) {q : Int64 × Mm} {k24 : Int32 → Int32 → Int64 → Int32 → Mm → Option (Int64 × Mm)} (hk24 : ∀ (v1 : Int32) (v2 : Int32) (v3 : Int64) (v5 : Int32) (mm : Mm), k24 v1 v2 v3 v5 mm = some q → ∀ (H : Heap) (locs : List Loc) (ls : Array Slot), Hx WN ad ca WS D A s.heap mm H locs → lv_has ls 9 [(0, .ref (ad 17)), (1, .int v1), (2, .int v2), (3, .long v3), (5, .int v5)] → W p l e (rmk 4) s m args below meth c H locs 0 0 (MQ below (QcL WN ad ca WS D A q) args s 0 0 A) (F0 m 24 ls [])) {k36 : Int32 → Int32 → Int64 → Int32 → Int64 → Int32 → Mm → Option (Int64 × Mm)} (hk36 : ∀ (v1 : Int32) (v2 : Int32) (v3 : Int64) (v5 : Int32) (v6 : Int64) (v8 : Int32) (mm : Mm), k36 v1 v2 v3 v5 v6 v8 mm = some q → ∀ (H : Heap) (locs : List Loc) (ls : Array Slot), Hx WN ad ca WS D A s.heap mm H locs → lv_has ls 9 [(0, .ref (ad 17)), (1, .int v1), (2, .int v2), (3, .long v3), (5, .int v5), (6, .long v6), (8, .int v8)] → W p l e (rmk 4) s m args below meth c H locs 0 0 (MQ below (QcL WN ad ca WS D A q) args s 0 0 A) (F0 m 36 ls [])) {v1 : Int32} {v2 : Int32} {v3 : Int64} {v5 : Int32} {v6 : Int64} {v8 : Int32} {mm : Mm} (h : BX0_followed_36 k24 k36 v1 v2 v3 v5 v6 v8 mm = some q) (hH : Hx WN ad ca WS D A s.heap mm H locs) (hl : lv_has ls 9 [(0, .ref (ad 17)), (1, .int v1), (2, .int v2), (3, .long v3), (5, .int v5), (6, .long v6), (8, .int v8)]) : W p l e (rmk 4) s m args below meth c H locs 0 0 (MQ below (QcL WN ad ca WS D A q) args s 0 0 A) (F0 m 36 ls []) := by
  unfold BX0_followed_36 at h
  have hx := C.1
  have hb := C.2.1
  refine lv_iload hx hb dX0_followed_36 (lv_at hl 6 rfl) ?_
  refine lv_bipush (v := 6) hx hb dX0_followed_38 (by decide) ?_
  refine lv_icmp_ge (tgt := 75) hx hb dX0_followed_40 (by decide) (fun hc40 => ?_) (fun hc40 => ?_)
  · replace h := tT hc40 h
    refine lv_lload_n hx hb dX0_followed_75 rfl (lv_at hl 3 rfl) ?_
    refine lv_lload hx hb dX0_followed_76 (lv_at hl 5 rfl) ?_
    refine lv_ladd hx hb dX0_followed_78 ?_
    refine lv_lstore_n (lv' := [(3, .long (v3 + v6)), (0, .ref (ad 17)), (1, .int v1), (2, .int v2), (5, .int v5), (6, .long v6), (8, .int v8)]) hx hb dX0_followed_79 rfl hl (by decide) rfl (fun ls hl => ?_)
    refine lv_iinc (v := (v5 + 1)) (lv' := [(5, .int (v5 + 1)), (3, .long (v3 + v6)), (0, .ref (ad 17)), (1, .int v1), (2, .int v2), (6, .long v6), (8, .int v8)]) hx hb dX0_followed_80 hl (k := 4) rfl rfl (by decide) rfl (fun ls hl => ?_)
    refine lv_goto (tgt := 24) hx hb dX0_followed_83 (by decide) ?_
    exact hk24 _ _ _ _ _ h _ _ _ hH (lv_sub hl [2, 3, 4, 1, 0] rfl)
  · replace h := tF hc40 h
    refine lv_lload hx hb dX0_followed_43 (lv_at hl 5 rfl) ?_
    refine lv_aload_n hx hb dX0_followed_45 rfl (lv_at hl 0 rfl) ?_
    refine rgS C hH fs_RX0_9_17 dX0_followed_46 ?_
    refine lv_iload hx hb dX0_followed_49 (lv_at hl 6 rfl) ?_
    obtain ⟨hi51, h⟩ := tC h
    refine raL C hH (k := (Int32.toNatClampNeg v8)) (by decide) (show WS 18 = .inr (3, 6, 0) from rfl) hi51 rfl dX0_followed_51 ?_
    refine lv_aload_n hx hb dX0_followed_52 rfl (lv_at hl 0 rfl) ?_
    refine lv_iload_n hx hb dX0_followed_53 rfl (lv_at hl 1 rfl) ?_
    refine lv_iload hx hb dX0_followed_54 (lv_at hl 6 rfl) ?_
    refine lv_iload_n hx hb dX0_followed_56 rfl (lv_at hl 2 rfl) ?_
    refine lv_iload hx hb dX0_followed_57 (lv_at hl 4 rfl) ?_
    obtain ⟨q59, e59, h⟩ := tB h
    refine rcI C hH hl.1 (mX0_seeming l e59) cf_RX0_53 ro_17 (RR_of (by decide) (by decide)) rfl (rest := [.long (gL mm 18 (Int32.toNatClampNeg v8)), .long v6]) rfl (Nat.le_of_ble_eq_true rfl) dX0_followed_59 ?_
    intro hz59 H locs hH
    refine lv_i2l' hx hb dX0_followed_62 ?_
    refine lv_lmul hx hb dX0_followed_63 ?_
    refine rmaxl C hl.1 mf_RX0_78 (RR_of (by decide) (by decide)) (Nat.le_of_ble_eq_true rfl) dX0_followed_64 ?_
    refine lv_lstore (lv' := [(6, .long (lMax v6 ((gL mm 18 (Int32.toNatClampNeg v8)) * (Int32.toInt64 q59.1)))), (0, .ref (ad 17)), (1, .int v1), (2, .int v2), (3, .long v3), (5, .int v5), (8, .int v8)]) hx hb dX0_followed_67 hl (by decide) rfl (fun ls hl => ?_)
    refine lv_iinc (v := (v8 + 1)) (lv' := [(8, .int (v8 + 1)), (6, .long (lMax v6 ((gL mm 18 (Int32.toNatClampNeg v8)) * (Int32.toInt64 q59.1)))), (0, .ref (ad 17)), (1, .int v1), (2, .int v2), (3, .long v3), (5, .int v5)]) hx hb dX0_followed_69 hl (k := 6) rfl rfl (by decide) rfl (fun ls hl => ?_)
    refine lv_goto (tgt := 36) hx hb dX0_followed_72 (by decide) ?_
    exact hk36 _ _ _ _ _ _ _ h _ _ _ hH (lv_sub hl [2, 3, 4, 5, 6, 1, 0] rfl)
set_option maxHeartbeats 2000000 in
set_option maxRecDepth 20000 in
theorem wX0_followed_36 (C : Cx D ca A p s m args meth c cX0_followed RX0 9 (some .long)) {q : Int64 × Mm} {k24 : Int32 → Int32 → Int64 → Int32 → Mm → Option (Int64 × Mm)} (hk24 : ∀ (v1 : Int32) (v2 : Int32) (v3 : Int64) (v5 : Int32) (mm : Mm), k24 v1 v2 v3 v5 mm = some q → ∀ (H : Heap) (locs : List Loc) (ls : Array Slot), Hx WN ad ca WS D A s.heap mm H locs → lv_has ls 9 [(0, .ref (ad 17)), (1, .int v1), (2, .int v2), (3, .long v3), (5, .int v5)] → W p l e (rmk 4) s m args below meth c H locs 0 0 (MQ below (QcL WN ad ca WS D A q) args s 0 0 A) (F0 m 24 ls [])) : ∀ (N : Nat) (v1 : Int32) (v2 : Int32) (v3 : Int64) (v5 : Int32) (v6 : Int64) (v8 : Int32) (mm : Mm), DX0_followed_36 k24 N v1 v2 v3 v5 v6 v8 mm = some q → ∀ (H : Heap) (locs : List Loc) (ls : Array Slot), Hx WN ad ca WS D A s.heap mm H locs → lv_has ls 9 [(0, .ref (ad 17)), (1, .int v1), (2, .int v2), (3, .long v3), (5, .int v5), (6, .long v6), (8, .int v8)] → W p l e (rmk 4) s m args below meth c H locs 0 0 (MQ below (QcL WN ad ca WS D A q) args s 0 0 A) (F0 m 36 ls []) := by
  intro N
  induction N with
  | zero =>
    intro v1 v2 v3 v5 v6 v8 mm h
    have h2 : (none : Option (Int64 × Mm)) = some q := h
    cases h2
  | succ N ih =>
    intro v1 v2 v3 v5 v6 v8 mm h H locs ls hH hl
    exact wbX0_followed_36 C hk24 ih h hH hl
set_option maxHeartbeats 2000000 in
set_option maxRecDepth 20000 in
theorem wbX0_followed_24 (C : Cx D ca A p s m args meth c cX0_followed RX0 9 (some .long)) {q : Int64 × Mm} {k24 : Int32 → Int32 → Int64 → Int32 → Mm → Option (Int64 × Mm)} (hk24 : ∀ (v1 : Int32) (v2 : Int32) (v3 : Int64) (v5 : Int32) (mm : Mm), k24 v1 v2 v3 v5 mm = some q → ∀ (H : Heap) (locs : List Loc) (ls : Array Slot), Hx WN ad ca WS D A s.heap mm H locs → lv_has ls 9 [(0, .ref (ad 17)), (1, .int v1), (2, .int v2), (3, .long v3), (5, .int v5)] → W p l e (rmk 4) s m args below meth c H locs 0 0 (MQ below (QcL WN ad ca WS D A q) args s 0 0 A) (F0 m 24 ls [])) {v1 : Int32} {v2 : Int32} {v3 : Int64} {v5 : Int32} {mm : Mm} (h : BX0_followed_24 k24 v1 v2 v3 v5 mm = some q) (hH : Hx WN ad ca WS D A s.heap mm H locs) (hl : lv_has ls 9 [(0, .ref (ad 17)), (1, .int v1), (2, .int v2), (3, .long v3), (5, .int v5)]) : W p l e (rmk 4) s m args below meth c H locs 0 0 (MQ below (QcL WN ad ca WS D A q) args s 0 0 A) (F0 m 24 ls []) := by
  unfold BX0_followed_24 at h
  have hx := C.1
  have hb := C.2.1
  refine lv_iload hx hb dX0_followed_24 (lv_at hl 4 rfl) ?_
  refine lv_iconst (v := 4) hx hb dX0_followed_26 (by decide) ?_
  refine lv_icmp_ge (tgt := 86) hx hb dX0_followed_27 (by decide) (fun hc27 => ?_) (fun hc27 => ?_)
  · replace h := tT hc27 h
    refine lv_lload_n hx hb dX0_followed_86 rfl (lv_at hl 3 rfl) ?_
    have h := Option.some.inj h
    subst h
    exact retL C hH dX0_followed_87
  · replace h := tF hc27 h
    refine lv_lconst (v := 0) hx hb dX0_followed_30 (by decide) ?_
    refine lv_lstore (lv' := [(6, .long 0), (0, .ref (ad 17)), (1, .int v1), (2, .int v2), (3, .long v3), (5, .int v5)]) hx hb dX0_followed_31 hl (by decide) rfl (fun ls hl => ?_)
    refine lv_iconst (v := 0) hx hb dX0_followed_33 (by decide) ?_
    refine lv_istore (lv' := [(8, .int 0), (6, .long 0), (0, .ref (ad 17)), (1, .int v1), (2, .int v2), (3, .long v3), (5, .int v5)]) hx hb dX0_followed_34 hl (by decide) rfl (fun ls hl => ?_)
    exact wX0_followed_36 C hk24 FU _ _ _ _ _ _ _ h _ _ _ hH (lv_sub hl [2, 3, 4, 5, 6, 1, 0] rfl)
set_option maxHeartbeats 2000000 in
set_option maxRecDepth 20000 in
theorem wX0_followed_24 (C : Cx D ca A p s m args meth c cX0_followed RX0 9 (some .long)) {q : Int64 × Mm} : ∀ (N : Nat) (v1 : Int32) (v2 : Int32) (v3 : Int64) (v5 : Int32) (mm : Mm), DX0_followed_24 N v1 v2 v3 v5 mm = some q → ∀ (H : Heap) (locs : List Loc) (ls : Array Slot), Hx WN ad ca WS D A s.heap mm H locs → lv_has ls 9 [(0, .ref (ad 17)), (1, .int v1), (2, .int v2), (3, .long v3), (5, .int v5)] → W p l e (rmk 4) s m args below meth c H locs 0 0 (MQ below (QcL WN ad ca WS D A q) args s 0 0 A) (F0 m 24 ls []) := by
  intro N
  induction N with
  | zero =>
    intro v1 v2 v3 v5 mm h
    have h2 : (none : Option (Int64 × Mm)) = some q := h
    cases h2
  | succ N ih =>
    intro v1 v2 v3 v5 mm h H locs ls hH hl
    exact wbX0_followed_24 C ih h hH hl
set_option maxHeartbeats 2000000 in
set_option maxRecDepth 20000 in
theorem mX0_followed (l : Launch) {D : va_G} {ca : Nat → ClassId} {A : Nat → Prop} {ad : Nat → Nat} {v1 : Int32} {v2 : Int32} {mm : Mm} {q : Int64 × Mm} (h : dX0_followed v1 v2 mm = some q) : Met l yX0_followed (wsOf yX0_followed cX0_followed 9 (some .long)) (rmk 4) (PcX WN ad ca WS D A [.ref (ad 17), .int v1, .int v2] mm) (QcL WN ad ca WS D A q) 0 0 A := by
  unfold dX0_followed at h
  refine ent (by decide) (Nat.le_of_ble_eq_true rfl) (fun p e s m args below meth c hargs C hH ls hl => ?_)
  have hx := C.1
  have hb := C.2.1
  have hl : lv_has ls 9 [(0, .ref (ad 17)), (1, .int v1), (2, .int v2)] := hl
  refine lv_iload_n hx hb dX0_followed_0 rfl (lv_at hl 2 rfl) ?_
  refine lv_iconst (v := 3) hx hb dX0_followed_1 (by decide) ?_
  refine lv_icmp_ne (tgt := 19) hx hb dX0_followed_2 (by decide) (fun hc2 => ?_) (fun hc2 => ?_)
  · replace h := tF hc2 h
    refine lv_lconst (v := 0) hx hb dX0_followed_19 (by decide) ?_
    refine lv_lstore_n (lv' := [(3, .long 0), (0, .ref (ad 17)), (1, .int v1), (2, .int v2)]) hx hb dX0_followed_20 rfl hl (by decide) rfl (fun ls hl => ?_)
    refine lv_iconst (v := 0) hx hb dX0_followed_21 (by decide) ?_
    refine lv_istore (lv' := [(5, .int 0), (3, .long 0), (0, .ref (ad 17)), (1, .int v1), (2, .int v2)]) hx hb dX0_followed_22 hl (by decide) rfl (fun ls hl => ?_)
    exact wX0_followed_24 C FU _ _ _ _ _ h _ _ _ hH (lv_sub hl [2, 3, 4, 1, 0] rfl)
  · replace h := tT hc2 h
    refine rldc2 C (v := 36) k_RX0_72 dX0_followed_5 ?_
    refine lv_aload_n hx hb dX0_followed_8 rfl (lv_at hl 0 rfl) ?_
    refine rgS C hH fs_RX0_9_17 dX0_followed_9 ?_
    refine lv_aload_n hx hb dX0_followed_12 rfl (lv_at hl 0 rfl) ?_
    obtain ⟨q13, e13, h⟩ := tB h
    refine rcI C hH hl.1 (mX0_mostLikely l e13) cf_RX0_74 ro_17 (RR_of (by decide) (by decide)) rfl (rest := [.ref (ad 18), .long 36]) rfl (Nat.le_of_ble_eq_true rfl) dX0_followed_13 ?_
    intro hz13 H locs hH
    obtain ⟨hi16, h⟩ := tC h
    refine raL C hH (k := (Int32.toNatClampNeg q13.1)) (by decide) (show WS 18 = .inr (3, 6, 0) from rfl) hi16 rfl dX0_followed_16 ?_
    refine lv_lmul hx hb dX0_followed_17 ?_
    have h := Option.some.inj h
    subst h
    exact retL C hH dX0_followed_18
set_option maxHeartbeats 2000000 in
set_option maxRecDepth 20000 in
theorem wX0_bestLook_30 (C : Cx D ca A p s m args meth c cX0_bestLook RX0 4 (some .int)) {q : Int32 × Mm} {k4 : Int32 → Int32 → Int32 → Mm → Option (Int32 × Mm)} (hk4 : ∀ (v1 : Int32) (v2 : Int32) (v3 : Int32) (mm : Mm), k4 v1 v2 v3 mm = some q → ∀ (H : Heap) (locs : List Loc) (ls : Array Slot), Hx WN ad ca WS D A s.heap mm H locs → lv_has ls 4 [(0, .ref (ad 17)), (1, .int v1), (2, .int v2), (3, .int v3)] → W p l e (rmk 5) s m args below meth c H locs 0 0 (MQ below (QcI WN ad ca WS D A pzT q) args s 0 0 A) (F0 m 4 ls [])) {v1 : Int32} {v3 : Int32} {s0 : Int32} {mm : Mm} (h : DX0_bestLook_30 k4 v1 v3 s0 mm = some q) (hH : Hx WN ad ca WS D A s.heap mm H locs) (hl : lv_has ls 4 [(0, .ref (ad 17)), (1, .int v1), (3, .int v3)]) : W p l e (rmk 5) s m args below meth c H locs 0 0 (MQ below (QcI WN ad ca WS D A pzT q) args s 0 0 A) (F0 m 30 ls [.int s0]) := by
  unfold DX0_bestLook_30 at h
  have hx := C.1
  have hb := C.2.1
  refine lv_istore_n (lv' := [(2, .int s0), (0, .ref (ad 17)), (1, .int v1), (3, .int v3)]) hx hb dX0_bestLook_30 rfl hl (by decide) rfl (fun ls hl => ?_)
  refine lv_iinc (v := (v3 + 1)) (lv' := [(3, .int (v3 + 1)), (2, .int s0), (0, .ref (ad 17)), (1, .int v1)]) hx hb dX0_bestLook_31 hl (k := 3) rfl rfl (by decide) rfl (fun ls hl => ?_)
  refine lv_goto (tgt := 4) hx hb dX0_bestLook_34 (by decide) ?_
  exact hk4 _ _ _ _ h _ _ _ hH (lv_sub hl [2, 3, 1, 0] rfl)
set_option maxHeartbeats 2000000 in
set_option maxRecDepth 20000 in
theorem wbX0_bestLook_4 (C : Cx D ca A p s m args meth c cX0_bestLook RX0 4 (some .int)) {q : Int32 × Mm} {k4 : Int32 → Int32 → Int32 → Mm → Option (Int32 × Mm)} (hk4 : ∀ (v1 : Int32) (v2 : Int32) (v3 : Int32) (mm : Mm), k4 v1 v2 v3 mm = some q → ∀ (H : Heap) (locs : List Loc) (ls : Array Slot), Hx WN ad ca WS D A s.heap mm H locs → lv_has ls 4 [(0, .ref (ad 17)), (1, .int v1), (2, .int v2), (3, .int v3)] → W p l e (rmk 5) s m args below meth c H locs 0 0 (MQ below (QcI WN ad ca WS D A pzT q) args s 0 0 A) (F0 m 4 ls [])) {v1 : Int32} {v2 : Int32} {v3 : Int32} {mm : Mm} (h : BX0_bestLook_4 k4 v1 v2 v3 mm = some q) (hH : Hx WN ad ca WS D A s.heap mm H locs) (hl : lv_has ls 4 [(0, .ref (ad 17)), (1, .int v1), (2, .int v2), (3, .int v3)]) : W p l e (rmk 5) s m args below meth c H locs 0 0 (MQ below (QcI WN ad ca WS D A pzT q) args s 0 0 A) (F0 m 4 ls []) := by
  unfold BX0_bestLook_4 at h
  have hx := C.1
  have hb := C.2.1
  refine lv_iload_n hx hb dX0_bestLook_4 rfl (lv_at hl 3 rfl) ?_
  refine lv_iconst (v := 3) hx hb dX0_bestLook_5 (by decide) ?_
  refine lv_icmp_ge (tgt := 37) hx hb dX0_bestLook_6 (by decide) (fun hc6 => ?_) (fun hc6 => ?_)
  · replace h := tT hc6 h
    refine lv_iload_n hx hb dX0_bestLook_37 rfl (lv_at hl 2 rfl) ?_
    have h := Option.some.inj h
    subst h
    exact retI C hH trivial dX0_bestLook_38
  · replace h := tF hc6 h
    refine lv_aload_n hx hb dX0_bestLook_9 rfl (lv_at hl 0 rfl) ?_
    refine lv_iload_n hx hb dX0_bestLook_10 rfl (lv_at hl 1 rfl) ?_
    refine lv_iload_n hx hb dX0_bestLook_11 rfl (lv_at hl 3 rfl) ?_
    obtain ⟨q12, e12, h⟩ := tB h
    refine rcL C hH hl.1 (mX0_followed l e12) cf_RX0_69 ro_17 (RR_of (by decide) (by decide)) rfl (rest := []) rfl (Nat.le_of_ble_eq_true rfl) dX0_bestLook_12 ?_
    intro H locs hH
    refine lv_aload_n hx hb dX0_bestLook_15 rfl (lv_at hl 0 rfl) ?_
    refine lv_iload_n hx hb dX0_bestLook_16 rfl (lv_at hl 1 rfl) ?_
    refine lv_iload_n hx hb dX0_bestLook_17 rfl (lv_at hl 2 rfl) ?_
    obtain ⟨q18, e18, h⟩ := tB h
    refine rcL C hH hl.1 (mX0_followed l e18) cf_RX0_69 ro_17 (RR_of (by decide) (by decide)) rfl (rest := [.long q12.1]) rfl (Nat.le_of_ble_eq_true rfl) dX0_bestLook_18 ?_
    intro H locs hH
    refine lc_le (tgt := 29) hx hb dX0_bestLook_21 dX0_bestLook_22 (by decide) (fun hc22 => ?_) (fun hc22 => ?_)
    · replace h := tT hc22 h
      refine lv_iload_n hx hb dX0_bestLook_29 rfl (lv_at hl 2 rfl) ?_
      exact wX0_bestLook_30 C hk4 h hH (lv_sub hl [0, 1, 3] rfl)
    · replace h := tF hc22 h
      refine lv_iload_n hx hb dX0_bestLook_25 rfl (lv_at hl 3 rfl) ?_
      refine lv_goto (tgt := 30) hx hb dX0_bestLook_26 (by decide) ?_
      exact wX0_bestLook_30 C hk4 h hH (lv_sub hl [0, 1, 3] rfl)
set_option maxHeartbeats 2000000 in
set_option maxRecDepth 20000 in
theorem wX0_bestLook_4 (C : Cx D ca A p s m args meth c cX0_bestLook RX0 4 (some .int)) {q : Int32 × Mm} : ∀ (N : Nat) (v1 : Int32) (v2 : Int32) (v3 : Int32) (mm : Mm), DX0_bestLook_4 N v1 v2 v3 mm = some q → ∀ (H : Heap) (locs : List Loc) (ls : Array Slot), Hx WN ad ca WS D A s.heap mm H locs → lv_has ls 4 [(0, .ref (ad 17)), (1, .int v1), (2, .int v2), (3, .int v3)] → W p l e (rmk 5) s m args below meth c H locs 0 0 (MQ below (QcI WN ad ca WS D A pzT q) args s 0 0 A) (F0 m 4 ls []) := by
  intro N
  induction N with
  | zero =>
    intro v1 v2 v3 mm h
    have h2 : (none : Option (Int32 × Mm)) = some q := h
    cases h2
  | succ N ih =>
    intro v1 v2 v3 mm h H locs ls hH hl
    exact wbX0_bestLook_4 C ih h hH hl
set_option maxHeartbeats 2000000 in
set_option maxRecDepth 20000 in
theorem mX0_bestLook (l : Launch) {D : va_G} {ca : Nat → ClassId} {A : Nat → Prop} {ad : Nat → Nat} {v1 : Int32} {mm : Mm} {q : Int32 × Mm} (h : dX0_bestLook v1 mm = some q) : Met l yX0_bestLook (wsOf yX0_bestLook cX0_bestLook 4 (some .int)) (rmk 5) (PcX WN ad ca WS D A [.ref (ad 17), .int v1] mm) (QcI WN ad ca WS D A pzT q) 0 0 A := by
  unfold dX0_bestLook at h
  refine ent (by decide) (Nat.le_of_ble_eq_true rfl) (fun p e s m args below meth c hargs C hH ls hl => ?_)
  have hx := C.1
  have hb := C.2.1
  have hl : lv_has ls 4 [(0, .ref (ad 17)), (1, .int v1)] := hl
  refine lv_iconst (v := 3) hx hb dX0_bestLook_0 (by decide) ?_
  refine lv_istore_n (lv' := [(2, .int 3), (0, .ref (ad 17)), (1, .int v1)]) hx hb dX0_bestLook_1 rfl hl (by decide) rfl (fun ls hl => ?_)
  refine lv_iconst (v := 0) hx hb dX0_bestLook_2 (by decide) ?_
  refine lv_istore_n (lv' := [(3, .int 0), (2, .int 3), (0, .ref (ad 17)), (1, .int v1)]) hx hb dX0_bestLook_3 rfl hl (by decide) rfl (fun ls hl => ?_)
  exact wX0_bestLook_4 C FU _ _ _ _ h _ _ _ hH (lv_sub hl [2, 3, 1, 0] rfl)
set_option maxHeartbeats 2000000 in
set_option maxRecDepth 20000 in
theorem mX9_next (l : Launch) {D : va_G} {ca : Nat → ClassId} {A : Nat → Prop} {ad : Nat → Nat} {v1 : Int32} {v2 : Int32} {mm : Mm} {q : Int32 × Mm} (h : dX9_next v1 v2 mm = some q) : Met l yX9_next (wsOf yX9_next cX9_next 4 (some .int)) (rmk 6) (PcX WN ad ca WS D A [.ref (ad 0), .int v1, .int v2] mm) (QcI WN ad ca WS D A pzT q) 0 0 A := by
  unfold dX9_next at h
  refine ent (by decide) (Nat.le_of_ble_eq_true rfl) (fun p e s m args below meth c hargs C hH ls hl => ?_)
  have hx := C.1
  have hb := C.2.1
  have hl : lv_has ls 4 [(0, .ref (ad 0)), (1, .int v1), (2, .int v2)] := hl
  refine lv_aload_n hx hb dX9_next_0 rfl (lv_at hl 0 rfl) ?_
  refine lv_iload_n hx hb dX9_next_1 rfl (lv_at hl 1 rfl) ?_
  refine lv_iload_n hx hb dX9_next_2 rfl (lv_at hl 2 rfl) ?_
  obtain ⟨q3, e3, h⟩ := tB h
  refine rcI C hH hl.1 (mX9_looksRefusal l e3) cf_RX9_133 ro_0 (RR_of (by decide) (by decide)) rfl (rest := []) rfl (Nat.le_of_ble_eq_true rfl) dX9_next_3 ?_
  intro hz3 H locs hH
  refine lv_istore_n (lv' := [(3, .int q3.1), (0, .ref (ad 0)), (1, .int v1), (2, .int v2)]) hx hb dX9_next_6 rfl hl (by decide) rfl (fun ls hl => ?_)
  refine lv_iload_n hx hb dX9_next_7 rfl (lv_at hl 0 rfl) ?_
  refine lv_if_eq (tgt := 13) hx hb dX9_next_8 (by decide) (fun hc8 => ?_) (fun hc8 => ?_)
  · replace h := tT hc8 h
    refine lv_aload_n hx hb dX9_next_13 rfl (lv_at hl 1 rfl) ?_
    refine rgS C hH fs_RX9_10_0 dX9_next_14 ?_
    refine lv_iload_n hx hb dX9_next_17 rfl (lv_at hl 3 rfl) ?_
    refine lv_bipush (v := 10) hx hb dX9_next_18 (by decide) ?_
    refine lv_irem' hx hb dX9_next_20 (by decide) ?_
    obtain ⟨q21, e21, h⟩ := tB h
    refine rcI C hH hl.1 (mX7_isOpen l e21) cf_RX9_163 ro_1 (RR_of (by decide) (by decide)) rfl (rest := []) rfl (Nat.le_of_ble_eq_true rfl) dX9_next_21 ?_
    intro hz21 H locs hH
    refine lv_if_eq (tgt := 30) hx hb dX9_next_24 (by decide) (fun hc24 => ?_) (fun hc24 => ?_)
    · replace h := tT hc24 h
      refine lv_aload_n hx hb dX9_next_30 rfl (lv_at hl 1 rfl) ?_
      refine rgS C hH fs_RX9_28_0 dX9_next_31 ?_
      refine lv_aload_n hx hb dX9_next_34 rfl (lv_at hl 1 rfl) ?_
      refine rgS C hH fs_RX9_62_0 dX9_next_35 ?_
      refine lv_iload_n hx hb dX9_next_38 rfl (lv_at hl 2 rfl) ?_
      obtain ⟨hi39, h⟩ := tC h
      refine raS C hH (o := 37) (k := (Int32.toNatClampNeg v1)) (by decide) (show WS 37 = .inr (4, 6, 38) from rfl) hi39 rfl dX9_next_39 ?_
      refine lv_iload_n hx hb dX9_next_40 rfl (lv_at hl 3 rfl) ?_
      refine lv_bipush (v := 10) hx hb dX9_next_41 (by decide) ?_
      refine lv_idiv hx hb dX9_next_43 (by decide) ?_
      refine lv_iload_n hx hb dX9_next_44 rfl (lv_at hl 3 rfl) ?_
      refine lv_bipush (v := 10) hx hb dX9_next_45 (by decide) ?_
      refine lv_irem' hx hb dX9_next_47 (by decide) ?_
      obtain ⟨q48, e48, h⟩ := tB h
      refine rcV C hH hl.1 (mX0_weigh l e48) cf_RX9_140 ro_17 (RR_of (by decide) (by decide)) rfl (rest := []) rfl (Nat.le_of_ble_eq_true rfl) dX9_next_48 ?_
      intro H locs hH
      refine lv_aload_n hx hb dX9_next_51 rfl (lv_at hl 1 rfl) ?_
      refine rgS C hH fs_RX9_28_0 dX9_next_52 ?_
      refine lv_iload_n hx hb dX9_next_55 rfl (lv_at hl 3 rfl) ?_
      refine lv_bipush (v := 10) hx hb dX9_next_56 (by decide) ?_
      refine lv_idiv hx hb dX9_next_58 (by decide) ?_
      obtain ⟨q59, e59, h⟩ := tB h
      refine rcI C hH hl.1 (mX0_bestLook l e59) cf_RX9_166 ro_17 (RR_of (by decide) (by decide)) rfl (rest := []) rfl (Nat.le_of_ble_eq_true rfl) dX9_next_59 ?_
      intro hz59 H locs hH
      have h := Option.some.inj h
      subst h
      exact retI C hH trivial dX9_next_62
    · replace h := tF hc24 h
      refine lv_bipush (v := (-5)) hx hb dX9_next_27 (by decide) ?_
      have h := Option.some.inj h
      subst h
      exact retI C hH trivial dX9_next_29
  · replace h := tF hc8 h
    refine lv_iload_n hx hb dX9_next_11 rfl (lv_at hl 0 rfl) ?_
    have h := Option.some.inj h
    subst h
    exact retI C hH trivial dX9_next_12
set_option maxHeartbeats 2000000 in
set_option maxRecDepth 20000 in
theorem wX10_rightBy_60 (C : Cx D ca A p s m args meth c cX10_rightBy RX10 11 (some .long)) {q : Int64 × Mm} {k5 : Int32 → Int32 → Int64 → Int32 → Mm → Option (Int64 × Mm)} (hk5 : ∀ (v1 : Int32) (v2 : Int32) (v3 : Int64) (v5 : Int32) (mm : Mm), k5 v1 v2 v3 v5 mm = some q → ∀ (H : Heap) (locs : List Loc) (ls : Array Slot), Hx WN ad ca WS D A s.heap mm H locs → lv_has ls 11 [(0, .ref (ad 58)), (1, .int v1), (2, .int v2), (3, .long v3), (5, .int v5)] → W p l e (rmk 2) s m args below meth c H locs 0 0 (MQ below (QcL WN ad ca WS D A q) args s 0 0 A) (F0 m 5 ls [])) {k17 : Int32 → Int32 → Int64 → Int32 → Int64 → Int32 → Mm → Option (Int64 × Mm)} (hk17 : ∀ (v1 : Int32) (v2 : Int32) (v3 : Int64) (v5 : Int32) (v6 : Int64) (v8 : Int32) (mm : Mm), k17 v1 v2 v3 v5 v6 v8 mm = some q → ∀ (H : Heap) (locs : List Loc) (ls : Array Slot), Hx WN ad ca WS D A s.heap mm H locs → lv_has ls 11 [(0, .ref (ad 58)), (1, .int v1), (2, .int v2), (3, .long v3), (5, .int v5), (6, .long v6), (8, .int v8)] → W p l e (rmk 2) s m args below meth c H locs 0 0 (MQ below (QcL WN ad ca WS D A q) args s 0 0 A) (F0 m 17 ls [])) {v1 : Int32} {v2 : Int32} {v3 : Int64} {v5 : Int32} {v8 : Int32} {s0 : Int64} {mm : Mm} (h : DX10_rightBy_60 k5 k17 v1 v2 v3 v5 v8 s0 mm = some q) (hH : Hx WN ad ca WS D A s.heap mm H locs) (hl : lv_has ls 11 [(0, .ref (ad 58)), (1, .int v1), (2, .int v2), (3, .long v3), (5, .int v5), (8, .int v8)]) : W p l e (rmk 2) s m args below meth c H locs 0 0 (MQ below (QcL WN ad ca WS D A q) args s 0 0 A) (F0 m 60 ls [.long s0]) := by
  unfold DX10_rightBy_60 at h
  have hx := C.1
  have hb := C.2.1
  refine lv_lstore (lv' := [(6, .long s0), (0, .ref (ad 58)), (1, .int v1), (2, .int v2), (3, .long v3), (5, .int v5), (8, .int v8)]) hx hb dX10_rightBy_60 hl (by decide) rfl (fun ls hl => ?_)
  refine lv_iinc (v := (v8 + 1)) (lv' := [(8, .int (v8 + 1)), (6, .long s0), (0, .ref (ad 58)), (1, .int v1), (2, .int v2), (3, .long v3), (5, .int v5)]) hx hb dX10_rightBy_62 hl (k := 6) rfl rfl (by decide) rfl (fun ls hl => ?_)
  refine lv_goto (tgt := 17) hx hb dX10_rightBy_65 (by decide) ?_
  exact hk17 _ _ _ _ _ _ _ h _ _ _ hH (lv_sub hl [2, 3, 4, 5, 6, 1, 0] rfl)
set_option maxHeartbeats 2000000 in
set_option maxRecDepth 20000 in
theorem wbX10_rightBy_17 (C : Cx D ca A p s m args meth c cX10_rightBy RX10 11 (some .long)) {q : Int64 × Mm} {k5 : Int32 → Int32 → Int64 → Int32 → Mm → Option (Int64 × Mm)} (hk5 : ∀ (v1 : Int32) (v2 : Int32) (v3 : Int64) (v5 : Int32) (mm : Mm), k5 v1 v2 v3 v5 mm = some q → ∀ (H : Heap) (locs : List Loc) (ls : Array Slot), Hx WN ad ca WS D A s.heap mm H locs → lv_has ls 11 [(0, .ref (ad 58)), (1, .int v1), (2, .int v2), (3, .long v3), (5, .int v5)] → W p l e (rmk 2) s m args below meth c H locs 0 0 (MQ below (QcL WN ad ca WS D A q) args s 0 0 A) (F0 m 5 ls [])) {k17 : Int32 → Int32 → Int64 → Int32 → Int64 → Int32 → Mm → Option (Int64 × Mm)} (hk17 : ∀ (v1 : Int32) (v2 : Int32) (v3 : Int64) (v5 : Int32) (v6 : Int64) (v8 : Int32) (mm : Mm), k17 v1 v2 v3 v5 v6 v8 mm = some q → ∀ (H : Heap) (locs : List Loc) (ls : Array Slot), Hx WN ad ca WS D A s.heap mm H locs → lv_has ls 11 [(0, .ref (ad 58)), (1, .int v1), (2, .int v2), (3, .long v3), (5, .int v5), (6, .long v6), (8, .int v8)] → W p l e (rmk 2) s m args below meth c H locs 0 0 (MQ below (QcL WN ad ca WS D A q) args s 0 0 A) (F0 m 17 ls [])) {v1 : Int32} {v2 : Int32} {v3 : Int64} {v5 : Int32} {v6 : Int64} {v8 : Int32} {mm : Mm} (h : BX10_rightBy_17 k5 k17 v1 v2 v3 v5 v6 v8 mm = some q) (hH : Hx WN ad ca WS D A s.heap mm H locs) (hl : lv_has ls 11 [(0, .ref (ad 58)), (1, .int v1), (2, .int v2), (3, .long v3), (5, .int v5), (6, .long v6), (8, .int v8)]) : W p l e (rmk 2) s m args below meth c H locs 0 0 (MQ below (QcL WN ad ca WS D A q) args s 0 0 A) (F0 m 17 ls []) := by
  unfold BX10_rightBy_17 at h
  have hx := C.1
  have hb := C.2.1
  refine lv_iload hx hb dX10_rightBy_17 (lv_at hl 6 rfl) ?_
  refine lv_bipush (v := 6) hx hb dX10_rightBy_19 (by decide) ?_
  refine lv_icmp_ge (tgt := 68) hx hb dX10_rightBy_21 (by decide) (fun hc21 => ?_) (fun hc21 => ?_)
  · replace h := tT hc21 h
    refine lv_lload_n hx hb dX10_rightBy_68 rfl (lv_at hl 3 rfl) ?_
    refine lv_lload hx hb dX10_rightBy_69 (lv_at hl 5 rfl) ?_
    refine lv_ladd hx hb dX10_rightBy_71 ?_
    refine lv_lstore_n (lv' := [(3, .long (v3 + v6)), (0, .ref (ad 58)), (1, .int v1), (2, .int v2), (5, .int v5), (6, .long v6), (8, .int v8)]) hx hb dX10_rightBy_72 rfl hl (by decide) rfl (fun ls hl => ?_)
    refine lv_iinc (v := (v5 + 1)) (lv' := [(5, .int (v5 + 1)), (3, .long (v3 + v6)), (0, .ref (ad 58)), (1, .int v1), (2, .int v2), (6, .long v6), (8, .int v8)]) hx hb dX10_rightBy_73 hl (k := 4) rfl rfl (by decide) rfl (fun ls hl => ?_)
    refine lv_goto (tgt := 5) hx hb dX10_rightBy_76 (by decide) ?_
    exact hk5 _ _ _ _ _ h _ _ _ hH (lv_sub hl [2, 3, 4, 1, 0] rfl)
  · replace h := tF hc21 h
    refine lv_aload_n hx hb dX10_rightBy_24 rfl (lv_at hl 0 rfl) ?_
    refine rgS C hH fs_RX10_38_58 dX10_rightBy_25 ?_
    refine lv_iload hx hb dX10_rightBy_28 (lv_at hl 6 rfl) ?_
    obtain ⟨hi30, h⟩ := tC h
    refine raL C hH (k := (Int32.toNatClampNeg v8)) (by decide) (show WS 68 = .inr (3, 6, 0) from rfl) hi30 rfl dX10_rightBy_30 ?_
    refine lv_aload_n hx hb dX10_rightBy_31 rfl (lv_at hl 0 rfl) ?_
    refine lv_iload_n hx hb dX10_rightBy_32 rfl (lv_at hl 1 rfl) ?_
    refine lv_iload hx hb dX10_rightBy_33 (lv_at hl 6 rfl) ?_
    refine lv_iload_n hx hb dX10_rightBy_35 rfl (lv_at hl 2 rfl) ?_
    refine lv_iload hx hb dX10_rightBy_36 (lv_at hl 4 rfl) ?_
    refine lv_i2l' hx hb dX10_rightBy_38 ?_
    obtain ⟨q39, e39, h⟩ := tB h
    refine rcL C hH hl.1 (mX10_chance l e39) cf_RX10_213 ro_58 (RR_of (by decide) (by decide)) rfl (rest := [.long (gL mm 68 (Int32.toNatClampNeg v8))]) rfl (Nat.le_of_ble_eq_true rfl) dX10_rightBy_39 ?_
    intro H locs hH
    refine lv_lmul hx hb dX10_rightBy_42 ?_
    refine lv_lstore (lv' := [(9, .long ((gL mm 68 (Int32.toNatClampNeg v8)) * q39.1)), (0, .ref (ad 58)), (1, .int v1), (2, .int v2), (3, .long v3), (5, .int v5), (6, .long v6), (8, .int v8)]) hx hb dX10_rightBy_43 hl (by decide) rfl (fun ls hl => ?_)
    refine lv_lload hx hb dX10_rightBy_45 (lv_at hl 0 rfl) ?_
    refine lv_lload hx hb dX10_rightBy_47 (lv_at hl 6 rfl) ?_
    refine lc_le (tgt := 58) hx hb dX10_rightBy_49 dX10_rightBy_50 (by decide) (fun hc50 => ?_) (fun hc50 => ?_)
    · replace h := tT hc50 h
      refine lv_lload hx hb dX10_rightBy_58 (lv_at hl 6 rfl) ?_
      exact wX10_rightBy_60 C hk5 hk17 h hH (lv_sub hl [1, 2, 3, 4, 5, 7] rfl)
    · replace h := tF hc50 h
      refine lv_lload hx hb dX10_rightBy_53 (lv_at hl 0 rfl) ?_
      refine lv_goto (tgt := 60) hx hb dX10_rightBy_55 (by decide) ?_
      exact wX10_rightBy_60 C hk5 hk17 h hH (lv_sub hl [1, 2, 3, 4, 5, 7] rfl)
set_option maxHeartbeats 2000000 in
set_option maxRecDepth 20000 in
theorem wX10_rightBy_17 (C : Cx D ca A p s m args meth c cX10_rightBy RX10 11 (some .long)) {q : Int64 × Mm} {k5 : Int32 → Int32 → Int64 → Int32 → Mm → Option (Int64 × Mm)} (hk5 : ∀ (v1 : Int32) (v2 : Int32) (v3 : Int64) (v5 : Int32) (mm : Mm), k5 v1 v2 v3 v5 mm = some q → ∀ (H : Heap) (locs : List Loc) (ls : Array Slot), Hx WN ad ca WS D A s.heap mm H locs → lv_has ls 11 [(0, .ref (ad 58)), (1, .int v1), (2, .int v2), (3, .long v3), (5, .int v5)] → W p l e (rmk 2) s m args below meth c H locs 0 0 (MQ below (QcL WN ad ca WS D A q) args s 0 0 A) (F0 m 5 ls [])) : ∀ (N : Nat) (v1 : Int32) (v2 : Int32) (v3 : Int64) (v5 : Int32) (v6 : Int64) (v8 : Int32) (mm : Mm), DX10_rightBy_17 k5 N v1 v2 v3 v5 v6 v8 mm = some q → ∀ (H : Heap) (locs : List Loc) (ls : Array Slot), Hx WN ad ca WS D A s.heap mm H locs → lv_has ls 11 [(0, .ref (ad 58)), (1, .int v1), (2, .int v2), (3, .long v3), (5, .int v5), (6, .long v6), (8, .int v8)] → W p l e (rmk 2) s m args below meth c H locs 0 0 (MQ below (QcL WN ad ca WS D A q) args s 0 0 A) (F0 m 17 ls []) := by
  intro N
  induction N with
  | zero =>
    intro v1 v2 v3 v5 v6 v8 mm h
    have h2 : (none : Option (Int64 × Mm)) = some q := h
    cases h2
  | succ N ih =>
    intro v1 v2 v3 v5 v6 v8 mm h H locs ls hH hl
    exact wbX10_rightBy_17 C hk5 ih h hH hl
set_option maxHeartbeats 2000000 in
set_option maxRecDepth 20000 in
theorem wbX10_rightBy_5 (C : Cx D ca A p s m args meth c cX10_rightBy RX10 11 (some .long)) {q : Int64 × Mm} {k5 : Int32 → Int32 → Int64 → Int32 → Mm → Option (Int64 × Mm)} (hk5 : ∀ (v1 : Int32) (v2 : Int32) (v3 : Int64) (v5 : Int32) (mm : Mm), k5 v1 v2 v3 v5 mm = some q → ∀ (H : Heap) (locs : List Loc) (ls : Array Slot), Hx WN ad ca WS D A s.heap mm H locs → lv_has ls 11 [(0, .ref (ad 58)), (1, .int v1), (2, .int v2), (3, .long v3), (5, .int v5)] → W p l e (rmk 2) s m args below meth c H locs 0 0 (MQ below (QcL WN ad ca WS D A q) args s 0 0 A) (F0 m 5 ls [])) {v1 : Int32} {v2 : Int32} {v3 : Int64} {v5 : Int32} {mm : Mm} (h : BX10_rightBy_5 k5 v1 v2 v3 v5 mm = some q) (hH : Hx WN ad ca WS D A s.heap mm H locs) (hl : lv_has ls 11 [(0, .ref (ad 58)), (1, .int v1), (2, .int v2), (3, .long v3), (5, .int v5)]) : W p l e (rmk 2) s m args below meth c H locs 0 0 (MQ below (QcL WN ad ca WS D A q) args s 0 0 A) (F0 m 5 ls []) := by
  unfold BX10_rightBy_5 at h
  have hx := C.1
  have hb := C.2.1
  refine lv_iload hx hb dX10_rightBy_5 (lv_at hl 4 rfl) ?_
  refine lv_iconst (v := 4) hx hb dX10_rightBy_7 (by decide) ?_
  refine lv_icmp_ge (tgt := 79) hx hb dX10_rightBy_8 (by decide) (fun hc8 => ?_) (fun hc8 => ?_)
  · replace h := tT hc8 h
    refine lv_lload_n hx hb dX10_rightBy_79 rfl (lv_at hl 3 rfl) ?_
    have h := Option.some.inj h
    subst h
    exact retL C hH dX10_rightBy_80
  · replace h := tF hc8 h
    refine lv_lconst (v := 0) hx hb dX10_rightBy_11 (by decide) ?_
    refine lv_lstore (lv' := [(6, .long 0), (0, .ref (ad 58)), (1, .int v1), (2, .int v2), (3, .long v3), (5, .int v5)]) hx hb dX10_rightBy_12 hl (by decide) rfl (fun ls hl => ?_)
    refine lv_iconst (v := 0) hx hb dX10_rightBy_14 (by decide) ?_
    refine lv_istore (lv' := [(8, .int 0), (6, .long 0), (0, .ref (ad 58)), (1, .int v1), (2, .int v2), (3, .long v3), (5, .int v5)]) hx hb dX10_rightBy_15 hl (by decide) rfl (fun ls hl => ?_)
    exact wX10_rightBy_17 C hk5 FU _ _ _ _ _ _ _ h _ _ _ hH (lv_sub hl [2, 3, 4, 5, 6, 1, 0] rfl)
set_option maxHeartbeats 2000000 in
set_option maxRecDepth 20000 in
theorem wX10_rightBy_5 (C : Cx D ca A p s m args meth c cX10_rightBy RX10 11 (some .long)) {q : Int64 × Mm} : ∀ (N : Nat) (v1 : Int32) (v2 : Int32) (v3 : Int64) (v5 : Int32) (mm : Mm), DX10_rightBy_5 N v1 v2 v3 v5 mm = some q → ∀ (H : Heap) (locs : List Loc) (ls : Array Slot), Hx WN ad ca WS D A s.heap mm H locs → lv_has ls 11 [(0, .ref (ad 58)), (1, .int v1), (2, .int v2), (3, .long v3), (5, .int v5)] → W p l e (rmk 2) s m args below meth c H locs 0 0 (MQ below (QcL WN ad ca WS D A q) args s 0 0 A) (F0 m 5 ls []) := by
  intro N
  induction N with
  | zero =>
    intro v1 v2 v3 v5 mm h
    have h2 : (none : Option (Int64 × Mm)) = some q := h
    cases h2
  | succ N ih =>
    intro v1 v2 v3 v5 mm h H locs ls hH hl
    exact wbX10_rightBy_5 C ih h hH hl
set_option maxHeartbeats 2000000 in
set_option maxRecDepth 20000 in
theorem mX10_rightBy (l : Launch) {D : va_G} {ca : Nat → ClassId} {A : Nat → Prop} {ad : Nat → Nat} {v1 : Int32} {v2 : Int32} {mm : Mm} {q : Int64 × Mm} (h : dX10_rightBy v1 v2 mm = some q) : Met l yX10_rightBy (wsOf yX10_rightBy cX10_rightBy 11 (some .long)) (rmk 2) (PcX WN ad ca WS D A [.ref (ad 58), .int v1, .int v2] mm) (QcL WN ad ca WS D A q) 0 0 A := by
  unfold dX10_rightBy at h
  refine ent (by decide) (Nat.le_of_ble_eq_true rfl) (fun p e s m args below meth c hargs C hH ls hl => ?_)
  have hx := C.1
  have hb := C.2.1
  have hl : lv_has ls 11 [(0, .ref (ad 58)), (1, .int v1), (2, .int v2)] := hl
  refine lv_lconst (v := 0) hx hb dX10_rightBy_0 (by decide) ?_
  refine lv_lstore_n (lv' := [(3, .long 0), (0, .ref (ad 58)), (1, .int v1), (2, .int v2)]) hx hb dX10_rightBy_1 rfl hl (by decide) rfl (fun ls hl => ?_)
  refine lv_iconst (v := 0) hx hb dX10_rightBy_2 (by decide) ?_
  refine lv_istore (lv' := [(5, .int 0), (3, .long 0), (0, .ref (ad 58)), (1, .int v1), (2, .int v2)]) hx hb dX10_rightBy_3 hl (by decide) rfl (fun ls hl => ?_)
  exact wX10_rightBy_5 C FU _ _ _ _ _ h _ _ _ hH (lv_sub hl [2, 3, 4, 1, 0] rfl)
set_option maxHeartbeats 2000000 in
set_option maxRecDepth 20000 in
theorem wX10_bestLook_48 (C : Cx D ca A p s m args meth c cX10_bestLook RX10 6 (some .int)) {q : Int32 × Mm} {k19 : Int32 → Int32 → Int64 → Int32 → Mm → Option (Int32 × Mm)} (hk19 : ∀ (v1 : Int32) (v2 : Int32) (v3 : Int64) (v5 : Int32) (mm : Mm), k19 v1 v2 v3 v5 mm = some q → ∀ (H : Heap) (locs : List Loc) (ls : Array Slot), Hx WN ad ca WS D A s.heap mm H locs → lv_has ls 6 [(0, .ref (ad 58)), (1, .int v1), (2, .int v2), (3, .long v3), (5, .int v5)] → W p l e (rmk 3) s m args below meth c H locs 0 0 (MQ below (QcI WN ad ca WS D A pzT q) args s 0 0 A) (F0 m 19 ls [])) {v1 : Int32} {v2 : Int32} {v3 : Int64} {v5 : Int32} {mm : Mm} (h : DX10_bestLook_48 k19 v1 v2 v3 v5 mm = some q) (hH : Hx WN ad ca WS D A s.heap mm H locs) (hl : lv_has ls 6 [(0, .ref (ad 58)), (1, .int v1), (2, .int v2), (3, .long v3), (5, .int v5)]) : W p l e (rmk 3) s m args below meth c H locs 0 0 (MQ below (QcI WN ad ca WS D A pzT q) args s 0 0 A) (F0 m 48 ls []) := by
  unfold DX10_bestLook_48 at h
  have hx := C.1
  have hb := C.2.1
  refine lv_iinc (v := (v5 + 1)) (lv' := [(5, .int (v5 + 1)), (0, .ref (ad 58)), (1, .int v1), (2, .int v2), (3, .long v3)]) hx hb dX10_bestLook_48 hl (k := 4) rfl rfl (by decide) rfl (fun ls hl => ?_)
  refine lv_goto (tgt := 19) hx hb dX10_bestLook_51 (by decide) ?_
  exact hk19 _ _ _ _ _ h _ _ _ hH (lv_sub hl [1, 2, 3, 4, 0] rfl)
set_option maxHeartbeats 2000000 in
set_option maxRecDepth 20000 in
theorem wbX10_bestLook_19 (C : Cx D ca A p s m args meth c cX10_bestLook RX10 6 (some .int)) {q : Int32 × Mm} {k19 : Int32 → Int32 → Int64 → Int32 → Mm → Option (Int32 × Mm)} (hk19 : ∀ (v1 : Int32) (v2 : Int32) (v3 : Int64) (v5 : Int32) (mm : Mm), k19 v1 v2 v3 v5 mm = some q → ∀ (H : Heap) (locs : List Loc) (ls : Array Slot), Hx WN ad ca WS D A s.heap mm H locs → lv_has ls 6 [(0, .ref (ad 58)), (1, .int v1), (2, .int v2), (3, .long v3), (5, .int v5)] → W p l e (rmk 3) s m args below meth c H locs 0 0 (MQ below (QcI WN ad ca WS D A pzT q) args s 0 0 A) (F0 m 19 ls [])) {v1 : Int32} {v2 : Int32} {v3 : Int64} {v5 : Int32} {mm : Mm} (h : BX10_bestLook_19 k19 v1 v2 v3 v5 mm = some q) (hH : Hx WN ad ca WS D A s.heap mm H locs) (hl : lv_has ls 6 [(0, .ref (ad 58)), (1, .int v1), (2, .int v2), (3, .long v3), (5, .int v5)]) : W p l e (rmk 3) s m args below meth c H locs 0 0 (MQ below (QcI WN ad ca WS D A pzT q) args s 0 0 A) (F0 m 19 ls []) := by
  unfold BX10_bestLook_19 at h
  have hx := C.1
  have hb := C.2.1
  refine lv_iload hx hb dX10_bestLook_19 (lv_at hl 4 rfl) ?_
  refine lv_iconst (v := 3) hx hb dX10_bestLook_21 (by decide) ?_
  refine lv_icmp_ge (tgt := 54) hx hb dX10_bestLook_22 (by decide) (fun hc22 => ?_) (fun hc22 => ?_)
  · replace h := tT hc22 h
    refine lv_iload_n hx hb dX10_bestLook_54 rfl (lv_at hl 2 rfl) ?_
    have h := Option.some.inj h
    subst h
    exact retI C hH trivial dX10_bestLook_55
  · replace h := tF hc22 h
    refine lv_aload_n hx hb dX10_bestLook_25 rfl (lv_at hl 0 rfl) ?_
    refine lv_iload_n hx hb dX10_bestLook_26 rfl (lv_at hl 1 rfl) ?_
    refine lv_iload hx hb dX10_bestLook_27 (lv_at hl 4 rfl) ?_
    obtain ⟨q29, e29, h⟩ := tB h
    refine rcL C hH hl.1 (mX10_rightBy l e29) cf_RX10_248 ro_58 (RR_of (by decide) (by decide)) rfl (rest := []) rfl (Nat.le_of_ble_eq_true rfl) dX10_bestLook_29 ?_
    intro H locs hH
    refine lv_lload_n hx hb dX10_bestLook_32 rfl (lv_at hl 3 rfl) ?_
    refine lc_le (tgt := 48) hx hb dX10_bestLook_33 dX10_bestLook_34 (by decide) (fun hc34 => ?_) (fun hc34 => ?_)
    · replace h := tT hc34 h
      exact wX10_bestLook_48 C hk19 h hH (lv_sub hl [0, 1, 2, 3, 4] rfl)
    · replace h := tF hc34 h
      refine lv_aload_n hx hb dX10_bestLook_37 rfl (lv_at hl 0 rfl) ?_
      refine lv_iload_n hx hb dX10_bestLook_38 rfl (lv_at hl 1 rfl) ?_
      refine lv_iload hx hb dX10_bestLook_39 (lv_at hl 4 rfl) ?_
      obtain ⟨q41, e41, h⟩ := tB h
      refine rcL C hH hl.1 (mX10_rightBy l e41) cf_RX10_248 ro_58 (RR_of (by decide) (by decide)) rfl (rest := []) rfl (Nat.le_of_ble_eq_true rfl) dX10_bestLook_41 ?_
      intro H locs hH
      refine lv_lstore_n (lv' := [(3, .long q41.1), (0, .ref (ad 58)), (1, .int v1), (2, .int v2), (5, .int v5)]) hx hb dX10_bestLook_44 rfl hl (by decide) rfl (fun ls hl => ?_)
      refine lv_iload hx hb dX10_bestLook_45 (lv_at hl 4 rfl) ?_
      refine lv_istore_n (lv' := [(2, .int v5), (3, .long q41.1), (0, .ref (ad 58)), (1, .int v1), (5, .int v5)]) hx hb dX10_bestLook_47 rfl hl (by decide) rfl (fun ls hl => ?_)
      exact wX10_bestLook_48 C hk19 h hH (lv_sub hl [2, 3, 0, 1, 4] rfl)
set_option maxHeartbeats 2000000 in
set_option maxRecDepth 20000 in
theorem wX10_bestLook_19 (C : Cx D ca A p s m args meth c cX10_bestLook RX10 6 (some .int)) {q : Int32 × Mm} : ∀ (N : Nat) (v1 : Int32) (v2 : Int32) (v3 : Int64) (v5 : Int32) (mm : Mm), DX10_bestLook_19 N v1 v2 v3 v5 mm = some q → ∀ (H : Heap) (locs : List Loc) (ls : Array Slot), Hx WN ad ca WS D A s.heap mm H locs → lv_has ls 6 [(0, .ref (ad 58)), (1, .int v1), (2, .int v2), (3, .long v3), (5, .int v5)] → W p l e (rmk 3) s m args below meth c H locs 0 0 (MQ below (QcI WN ad ca WS D A pzT q) args s 0 0 A) (F0 m 19 ls []) := by
  intro N
  induction N with
  | zero =>
    intro v1 v2 v3 v5 mm h
    have h2 : (none : Option (Int32 × Mm)) = some q := h
    cases h2
  | succ N ih =>
    intro v1 v2 v3 v5 mm h H locs ls hH hl
    exact wbX10_bestLook_19 C ih h hH hl
set_option maxHeartbeats 2000000 in
set_option maxRecDepth 20000 in
theorem mX10_bestLook (l : Launch) {D : va_G} {ca : Nat → ClassId} {A : Nat → Prop} {ad : Nat → Nat} {v1 : Int32} {mm : Mm} {q : Int32 × Mm} (h : dX10_bestLook v1 mm = some q) : Met l yX10_bestLook (wsOf yX10_bestLook cX10_bestLook 6 (some .int)) (rmk 3) (PcX WN ad ca WS D A [.ref (ad 58), .int v1] mm) (QcI WN ad ca WS D A pzT q) 0 0 A := by
  unfold dX10_bestLook at h
  refine ent (by decide) (Nat.le_of_ble_eq_true rfl) (fun p e s m args below meth c hargs C hH ls hl => ?_)
  have hx := C.1
  have hb := C.2.1
  have hl : lv_has ls 6 [(0, .ref (ad 58)), (1, .int v1)] := hl
  refine lv_iconst (v := 3) hx hb dX10_bestLook_0 (by decide) ?_
  refine lv_istore_n (lv' := [(2, .int 3), (0, .ref (ad 58)), (1, .int v1)]) hx hb dX10_bestLook_1 rfl hl (by decide) rfl (fun ls hl => ?_)
  refine rldc2 C (v := 36) k_RX10_246 dX10_bestLook_2 ?_
  refine lv_aload_n hx hb dX10_bestLook_5 rfl (lv_at hl 1 rfl) ?_
  refine rgS C hH fs_RX10_38_58 dX10_bestLook_6 ?_
  refine lv_aload_n hx hb dX10_bestLook_9 rfl (lv_at hl 1 rfl) ?_
  obtain ⟨q10, e10, h⟩ := tB h
  refine rcI C hH hl.1 (mX10_heaviest l e10) cf_RX10_239 ro_58 (RR_of (by decide) (by decide)) rfl (rest := [.ref (ad 68), .long 36]) rfl (Nat.le_of_ble_eq_true rfl) dX10_bestLook_10 ?_
  intro hz10 H locs hH
  obtain ⟨hi13, h⟩ := tC h
  refine raL C hH (k := (Int32.toNatClampNeg q10.1)) (by decide) (show WS 68 = .inr (3, 6, 0) from rfl) hi13 rfl dX10_bestLook_13 ?_
  refine lv_lmul hx hb dX10_bestLook_14 ?_
  refine lv_lstore_n (lv' := [(3, .long (36 * (gL q10.2 68 (Int32.toNatClampNeg q10.1)))), (2, .int 3), (0, .ref (ad 58)), (1, .int v1)]) hx hb dX10_bestLook_15 rfl hl (by decide) rfl (fun ls hl => ?_)
  refine lv_iconst (v := 0) hx hb dX10_bestLook_16 (by decide) ?_
  refine lv_istore (lv' := [(5, .int 0), (3, .long (36 * (gL q10.2 68 (Int32.toNatClampNeg q10.1)))), (2, .int 3), (0, .ref (ad 58)), (1, .int v1)]) hx hb dX10_bestLook_17 hl (by decide) rfl (fun ls hl => ?_)
  exact wX10_bestLook_19 C FU _ _ _ _ _ h _ _ _ hH (lv_sub hl [3, 4, 2, 1, 0] rfl)
set_option maxHeartbeats 2000000 in
set_option maxRecDepth 20000 in
theorem wX10_next_17 (C : Cx D ca A p s m args meth c cX10_next RX10 3 (some .int)) {q : Int32 × Mm} {mm : Mm} (h : DX10_next_17 mm = some q) (hH : Hx WN ad ca WS D A s.heap mm H locs) (hl : lv_has ls 3 []) : W p l e (rmk 4) s m args below meth c H locs 0 0 (MQ below (QcI WN ad ca WS D A pzT q) args s 0 0 A) (F0 m 17 ls []) := by
  unfold DX10_next_17 at h
  have hx := C.1
  have hb := C.2.1
  refine lv_iconst (v := (-1)) hx hb dX10_next_17 (by decide) ?_
  have h := Option.some.inj h
  subst h
  exact retI C hH trivial dX10_next_18
set_option maxHeartbeats 2000000 in
set_option maxRecDepth 20000 in
theorem mX10_next (l : Launch) {D : va_G} {ca : Nat → ClassId} {A : Nat → Prop} {ad : Nat → Nat} {v1 : Int32} {v2 : Int32} {mm : Mm} {q : Int32 × Mm} (h : dX10_next v1 v2 mm = some q) : Met l yX10_next (wsOf yX10_next cX10_next 3 (some .int)) (rmk 4) (PcX WN ad ca WS D A [.ref (ad 58), .int v1, .int v2] mm) (QcI WN ad ca WS D A pzT q) 0 0 A := by
  unfold dX10_next at h
  refine ent (by decide) (Nat.le_of_ble_eq_true rfl) (fun p e s m args below meth c hargs C hH ls hl => ?_)
  have hx := C.1
  have hb := C.2.1
  have hl : lv_has ls 3 [(0, .ref (ad 58)), (1, .int v1), (2, .int v2)] := hl
  refine lv_aload_n hx hb dX10_next_0 rfl (lv_at hl 0 rfl) ?_
  refine lv_iload_n hx hb dX10_next_1 rfl (lv_at hl 1 rfl) ?_
  obtain ⟨q2, e2, h⟩ := tB h
  refine rcI C hH hl.1 (mX10_bytesIs l e2) cf_RX10_217 ro_58 (RR_of (by decide) (by decide)) rfl (rest := []) rfl (Nat.le_of_ble_eq_true rfl) dX10_next_2 ?_
  intro hz2 H locs hH
  refine lv_iconst (v := (-1)) hx hb dX10_next_5 (by decide) ?_
  refine lv_icmp_eq (tgt := 17) hx hb dX10_next_6 (by decide) (fun hc6 => ?_) (fun hc6 => ?_)
  · replace h := tT hc6 h
    exact wX10_next_17 C h hH (lv_sub hl [] rfl)
  · replace h := tF hc6 h
    refine lv_aload_n hx hb dX10_next_9 rfl (lv_at hl 0 rfl) ?_
    refine lv_iload_n hx hb dX10_next_10 rfl (lv_at hl 2 rfl) ?_
    obtain ⟨q11, e11, h⟩ := tB h
    refine rcI C hH hl.1 (mX10_isBs l e11) cf_RX10_220 ro_58 (RR_of (by decide) (by decide)) rfl (rest := []) rfl (Nat.le_of_ble_eq_true rfl) dX10_next_11 ?_
    intro hz11 H locs hH
    refine lv_if_ne (tgt := 19) hx hb dX10_next_14 (by decide) (fun hc14 => ?_) (fun hc14 => ?_)
    · replace h := tF hc14 h
      refine lv_aload_n hx hb dX10_next_19 rfl (lv_at hl 0 rfl) ?_
      refine lv_iload_n hx hb dX10_next_20 rfl (lv_at hl 1 rfl) ?_
      obtain ⟨q21, e21, h⟩ := tB h
      refine rcI C hH hl.1 (mX10_bytesIs l e21) cf_RX10_217 ro_58 (RR_of (by decide) (by decide)) rfl (rest := []) rfl (Nat.le_of_ble_eq_true rfl) dX10_next_21 ?_
      intro hz21 H locs hH
      refine lv_if_ge (tgt := 33) hx hb dX10_next_24 (by decide) (fun hc24 => ?_) (fun hc24 => ?_)
      · replace h := tT hc24 h
        refine lv_aload_n hx hb dX10_next_33 rfl (lv_at hl 0 rfl) ?_
        refine rgS C hH fs_RX10_25_58 dX10_next_34 ?_
        refine lv_iload_n hx hb dX10_next_37 rfl (lv_at hl 2 rfl) ?_
        refine lv_bipush (v := 10) hx hb dX10_next_38 (by decide) ?_
        refine lv_irem' hx hb dX10_next_40 (by decide) ?_
        obtain ⟨hi41, h⟩ := tC h
        refine raZ C hH (k := (Int32.toNatClampNeg (iRem v2 10))) (by decide) (show WS 64 = .inr (2, 10, 0) from rfl) hi41 rfl dX10_next_41 ?_
        refine lv_if_eq (tgt := 48) hx hb dX10_next_42 (by decide) (fun hc42 => ?_) (fun hc42 => ?_)
        · replace h := tT hc42 h
          refine lv_aload_n hx hb dX10_next_48 rfl (lv_at hl 0 rfl) ?_
          refine lv_iload_n hx hb dX10_next_49 rfl (lv_at hl 1 rfl) ?_
          refine lv_iload_n hx hb dX10_next_50 rfl (lv_at hl 2 rfl) ?_
          refine lv_bipush (v := 10) hx hb dX10_next_51 (by decide) ?_
          refine lv_idiv hx hb dX10_next_53 (by decide) ?_
          refine lv_iload_n hx hb dX10_next_54 rfl (lv_at hl 2 rfl) ?_
          refine lv_bipush (v := 10) hx hb dX10_next_55 (by decide) ?_
          refine lv_irem' hx hb dX10_next_57 (by decide) ?_
          obtain ⟨q58, e58, h⟩ := tB h
          refine rcV C hH hl.1 (mX10_weighs l e58) cf_RX10_227 ro_58 (RR_of (by decide) (by decide)) rfl (rest := []) rfl (Nat.le_of_ble_eq_true rfl) dX10_next_58 ?_
          intro H locs hH
          refine lv_aload_n hx hb dX10_next_61 rfl (lv_at hl 0 rfl) ?_
          refine lv_iload_n hx hb dX10_next_62 rfl (lv_at hl 2 rfl) ?_
          refine lv_bipush (v := 10) hx hb dX10_next_63 (by decide) ?_
          refine lv_idiv hx hb dX10_next_65 (by decide) ?_
          obtain ⟨q66, e66, h⟩ := tB h
          refine rcI C hH hl.1 (mX10_bestLook l e66) cf_RX10_252 ro_58 (RR_of (by decide) (by decide)) rfl (rest := []) rfl (Nat.le_of_ble_eq_true rfl) dX10_next_66 ?_
          intro hz66 H locs hH
          have h := Option.some.inj h
          subst h
          exact retI C hH trivial dX10_next_69
        · replace h := tF hc42 h
          refine lv_bipush (v := (-5)) hx hb dX10_next_45 (by decide) ?_
          have h := Option.some.inj h
          subst h
          exact retI C hH trivial dX10_next_47
      · replace h := tF hc24 h
        refine lv_aload_n hx hb dX10_next_27 rfl (lv_at hl 0 rfl) ?_
        refine lv_iload_n hx hb dX10_next_28 rfl (lv_at hl 1 rfl) ?_
        obtain ⟨q29, e29, h⟩ := tB h
        refine rcI C hH hl.1 (mX10_bytesIs l e29) cf_RX10_217 ro_58 (RR_of (by decide) (by decide)) rfl (rest := []) rfl (Nat.le_of_ble_eq_true rfl) dX10_next_29 ?_
        intro hz29 H locs hH
        have h := Option.some.inj h
        subst h
        exact retI C hH trivial dX10_next_32
    · replace h := tT hc14 h
      exact wX10_next_17 C h hH (lv_sub hl [] rfl)
set_option maxHeartbeats 2000000 in
set_option maxRecDepth 20000 in
theorem wX9_right_16 (C : Cx D ca A p s m args meth c cX9_right RX9 5 (some .long)) {q : Int64 × Mm} {mm : Mm} (h : DX9_right_16 mm = some q) (hH : Hx WN ad ca WS D A s.heap mm H locs) (hl : lv_has ls 5 []) : W p l e (rmk 6) s m args below meth c H locs 0 0 (MQ below (QcL WN ad ca WS D A q) args s 0 0 A) (F0 m 16 ls []) := by
  unfold DX9_right_16 at h
  have hx := C.1
  have hb := C.2.1
  refine rldc2 C (v := (-9223372036854775808)) k_RX9_138 dX9_right_16 ?_
  have h := Option.some.inj h
  subst h
  exact retL C hH dX9_right_19
set_option maxHeartbeats 2000000 in
set_option maxRecDepth 20000 in
theorem mX9_right (l : Launch) {D : va_G} {ca : Nat → ClassId} {A : Nat → Prop} {ad : Nat → Nat} {v1 : Int32} {v2 : Int32} {v3 : Int32} {mm : Mm} {q : Int64 × Mm} (h : dX9_right v1 v2 v3 mm = some q) : Met l yX9_right (wsOf yX9_right cX9_right 5 (some .long)) (rmk 6) (PcX WN ad ca WS D A [.ref (ad 0), .int v1, .int v2, .int v3] mm) (QcL WN ad ca WS D A q) 0 0 A := by
  unfold dX9_right at h
  refine ent (by decide) (Nat.le_of_ble_eq_true rfl) (fun p e s m args below meth c hargs C hH ls hl => ?_)
  have hx := C.1
  have hb := C.2.1
  have hl : lv_has ls 5 [(0, .ref (ad 0)), (1, .int v1), (2, .int v2), (3, .int v3)] := hl
  refine lv_iload_n hx hb dX9_right_0 rfl (lv_at hl 3 rfl) ?_
  obtain ⟨q1, e1, h⟩ := tB h
  refine rsI C hH hl.1 (mX9_isPart l e1) cs_RX9_130 (RR_of (by decide) (by decide)) rfl (rest := []) rfl (Nat.le_of_ble_eq_true rfl) dX9_right_1 ?_
  intro hz1 H locs hH
  refine lv_if_eq (tgt := 16) hx hb dX9_right_4 (by decide) (fun hc4 => ?_) (fun hc4 => ?_)
  · replace h := tT hc4 h
    exact wX9_right_16 C h hH (lv_sub hl [] rfl)
  · replace h := tF hc4 h
    refine lv_aload_n hx hb dX9_right_7 rfl (lv_at hl 0 rfl) ?_
    refine lv_iload_n hx hb dX9_right_8 rfl (lv_at hl 1 rfl) ?_
    refine lv_iload_n hx hb dX9_right_9 rfl (lv_at hl 2 rfl) ?_
    obtain ⟨q10, e10, h⟩ := tB h
    refine rcI C hH hl.1 (mX9_looksRefusal l e10) cf_RX9_133 ro_0 (RR_of (by decide) (by decide)) rfl (rest := []) rfl (Nat.le_of_ble_eq_true rfl) dX9_right_10 ?_
    intro hz10 H locs hH
    refine lv_if_eq (tgt := 20) hx hb dX9_right_13 (by decide) (fun hc13 => ?_) (fun hc13 => ?_)
    · replace h := tT hc13 h
      refine lv_aload_n hx hb dX9_right_20 rfl (lv_at hl 0 rfl) ?_
      refine rgS C hH fs_RX9_10_0 dX9_right_21 ?_
      refine lv_iload_n hx hb dX9_right_24 rfl (lv_at hl 2 rfl) ?_
      refine lv_bipush (v := 10) hx hb dX9_right_25 (by decide) ?_
      refine lv_irem' hx hb dX9_right_27 (by decide) ?_
      obtain ⟨q28, e28, h⟩ := tB h
      refine rcI C hH hl.1 (mX7_isOpen l e28) cf_RX9_163 ro_1 (RR_of (by decide) (by decide)) rfl (rest := []) rfl (Nat.le_of_ble_eq_true rfl) dX9_right_28 ?_
      intro hz28 H locs hH
      refine lv_if_eq (tgt := 36) hx hb dX9_right_31 (by decide) (fun hc31 => ?_) (fun hc31 => ?_)
      · replace h := tT hc31 h
        refine lv_iload_n hx hb dX9_right_36 rfl (lv_at hl 2 rfl) ?_
        refine lv_bipush (v := 10) hx hb dX9_right_37 (by decide) ?_
        refine lv_idiv hx hb dX9_right_39 (by decide) ?_
        refine lv_istore (lv' := [(4, .int (v2 / 10)), (0, .ref (ad 0)), (1, .int v1), (2, .int v2), (3, .int v3)]) hx hb dX9_right_40 hl (by decide) rfl (fun ls hl => ?_)
        refine lv_aload_n hx hb dX9_right_42 rfl (lv_at hl 1 rfl) ?_
        refine rgS C hH fs_RX9_28_0 dX9_right_43 ?_
        refine lv_aload_n hx hb dX9_right_46 rfl (lv_at hl 1 rfl) ?_
        refine rgS C hH fs_RX9_62_0 dX9_right_47 ?_
        refine lv_iload_n hx hb dX9_right_50 rfl (lv_at hl 2 rfl) ?_
        obtain ⟨hi51, h⟩ := tC h
        refine raS C hH (o := 37) (k := (Int32.toNatClampNeg v1)) (by decide) (show WS 37 = .inr (4, 6, 38) from rfl) hi51 rfl dX9_right_51 ?_
        refine lv_iload hx hb dX9_right_52 (lv_at hl 0 rfl) ?_
        refine lv_iload_n hx hb dX9_right_54 rfl (lv_at hl 3 rfl) ?_
        refine lv_bipush (v := 10) hx hb dX9_right_55 (by decide) ?_
        refine lv_irem' hx hb dX9_right_57 (by decide) ?_
        obtain ⟨q58, e58, h⟩ := tB h
        refine rcV C hH hl.1 (mX0_weigh l e58) cf_RX9_140 ro_17 (RR_of (by decide) (by decide)) rfl (rest := []) rfl (Nat.le_of_ble_eq_true rfl) dX9_right_58 ?_
        intro H locs hH
        refine lv_aload_n hx hb dX9_right_61 rfl (lv_at hl 1 rfl) ?_
        refine rgS C hH fs_RX9_28_0 dX9_right_62 ?_
        refine lv_iload hx hb dX9_right_65 (lv_at hl 0 rfl) ?_
        refine lv_aload_n hx hb dX9_right_67 rfl (lv_at hl 1 rfl) ?_
        refine rgS C hH fs_RX9_28_0 dX9_right_68 ?_
        refine lv_iload hx hb dX9_right_71 (lv_at hl 0 rfl) ?_
        obtain ⟨q73, e73, h⟩ := tB h
        refine rcI C hH hl.1 (mX0_bestLook l e73) cf_RX9_166 ro_17 (RR_of (by decide) (by decide)) rfl (rest := [.int (v2 / 10), .ref (ad 17)]) rfl (Nat.le_of_ble_eq_true rfl) dX9_right_73 ?_
        intro hz73 H locs hH
        obtain ⟨q76, e76, h⟩ := tB h
        refine rcL C hH hl.1 (mX0_followed l e76) cf_RX9_169 ro_17 (RR_of (by decide) (by decide)) rfl (rest := []) rfl (Nat.le_of_ble_eq_true rfl) dX9_right_76 ?_
        intro H locs hH
        refine rldc2 C (v := 36) k_RX9_172 dX9_right_79 ?_
        refine lv_aload_n hx hb dX9_right_82 rfl (lv_at hl 1 rfl) ?_
        refine rgS C hH fs_RX9_28_0 dX9_right_83 ?_
        obtain ⟨q86, e86, h⟩ := tB h
        refine rcL C hH hl.1 (mX0_total l e86) cf_RX9_148 ro_17 (RR_of (by decide) (by decide)) rfl (rest := [.long 36, .long q76.1]) rfl (Nat.le_of_ble_eq_true rfl) dX9_right_86 ?_
        intro H locs hH
        refine lv_lmul hx hb dX9_right_89 ?_
        refine lv_iload_n hx hb dX9_right_90 rfl (lv_at hl 4 rfl) ?_
        obtain ⟨q91, e91, h⟩ := tB h
        refine rsL C hH hl.1 (mX9_reduced l e91) cs_RX9_152 (RR_of (by decide) (by decide)) rfl (rest := []) rfl (Nat.le_of_ble_eq_true rfl) dX9_right_91 ?_
        intro H locs hH
        have h := Option.some.inj h
        subst h
        exact retL C hH dX9_right_94
      · replace h := tF hc31 h
        refine lv_lconst (v := 1) hx hb dX9_right_34 (by decide) ?_
        have h := Option.some.inj h
        subst h
        exact retL C hH dX9_right_35
    · replace h := tF hc13 h
      exact wX9_right_16 C h hH (lv_sub hl [] rfl)
set_option maxHeartbeats 2000000 in
set_option maxRecDepth 20000 in
theorem wX10_right_26 (C : Cx D ca A p s m args meth c cX10_right RX10 5 (some .long)) {q : Int64 × Mm} {mm : Mm} (h : DX10_right_26 mm = some q) (hH : Hx WN ad ca WS D A s.heap mm H locs) (hl : lv_has ls 5 []) : W p l e (rmk 4) s m args below meth c H locs 0 0 (MQ below (QcL WN ad ca WS D A q) args s 0 0 A) (F0 m 26 ls []) := by
  unfold DX10_right_26 at h
  have hx := C.1
  have hb := C.2.1
  refine rldc2 C (v := (-9223372036854775808)) k_RX10_225 dX10_right_26 ?_
  have h := Option.some.inj h
  subst h
  exact retL C hH dX10_right_29
set_option maxHeartbeats 2000000 in
set_option maxRecDepth 20000 in
theorem mX10_right (l : Launch) {D : va_G} {ca : Nat → ClassId} {A : Nat → Prop} {ad : Nat → Nat} {v1 : Int32} {v2 : Int32} {v3 : Int32} {mm : Mm} {q : Int64 × Mm} (h : dX10_right v1 v2 v3 mm = some q) : Met l yX10_right (wsOf yX10_right cX10_right 5 (some .long)) (rmk 4) (PcX WN ad ca WS D A [.ref (ad 58), .int v1, .int v2, .int v3] mm) (QcL WN ad ca WS D A q) 0 0 A := by
  unfold dX10_right at h
  refine ent (by decide) (Nat.le_of_ble_eq_true rfl) (fun p e s m args below meth c hargs C hH ls hl => ?_)
  have hx := C.1
  have hb := C.2.1
  have hl : lv_has ls 5 [(0, .ref (ad 58)), (1, .int v1), (2, .int v2), (3, .int v3)] := hl
  refine lv_aload_n hx hb dX10_right_0 rfl (lv_at hl 0 rfl) ?_
  refine lv_iload_n hx hb dX10_right_1 rfl (lv_at hl 1 rfl) ?_
  obtain ⟨q2, e2, h⟩ := tB h
  refine rcI C hH hl.1 (mX10_bytesIs l e2) cf_RX10_217 ro_58 (RR_of (by decide) (by decide)) rfl (rest := []) rfl (Nat.le_of_ble_eq_true rfl) dX10_right_2 ?_
  intro hz2 H locs hH
  refine lv_if_lt (tgt := 26) hx hb dX10_right_5 (by decide) (fun hc5 => ?_) (fun hc5 => ?_)
  · replace h := tT hc5 h
    exact wX10_right_26 C h hH (lv_sub hl [] rfl)
  · replace h := tF hc5 h
    refine lv_aload_n hx hb dX10_right_8 rfl (lv_at hl 0 rfl) ?_
    refine lv_iload_n hx hb dX10_right_9 rfl (lv_at hl 2 rfl) ?_
    obtain ⟨q10, e10, h⟩ := tB h
    refine rcI C hH hl.1 (mX10_isBs l e10) cf_RX10_220 ro_58 (RR_of (by decide) (by decide)) rfl (rest := []) rfl (Nat.le_of_ble_eq_true rfl) dX10_right_10 ?_
    intro hz10 H locs hH
    refine lv_if_eq (tgt := 26) hx hb dX10_right_13 (by decide) (fun hc13 => ?_) (fun hc13 => ?_)
    · replace h := tT hc13 h
      exact wX10_right_26 C h hH (lv_sub hl [] rfl)
    · replace h := tF hc13 h
      refine lv_iload_n hx hb dX10_right_16 rfl (lv_at hl 3 rfl) ?_
      refine lv_i2l' hx hb dX10_right_17 ?_
      refine lv_lconst (v := 0) hx hb dX10_right_18 (by decide) ?_
      refine lv_lconst (v := 1) hx hb dX10_right_19 (by decide) ?_
      obtain ⟨q20, e20, h⟩ := tB h
      refine rsI C hH hl.1 (mX10_within l e20) cs_RX10_96 (RR_of (by decide) (by decide)) rfl (rest := []) rfl (Nat.le_of_ble_eq_true rfl) dX10_right_20 ?_
      intro hz20 H locs hH
      refine lv_if_ne (tgt := 30) hx hb dX10_right_23 (by decide) (fun hc23 => ?_) (fun hc23 => ?_)
      · replace h := tF hc23 h
        refine lv_aload_n hx hb dX10_right_30 rfl (lv_at hl 0 rfl) ?_
        refine lv_iload_n hx hb dX10_right_31 rfl (lv_at hl 1 rfl) ?_
        refine lv_iload_n hx hb dX10_right_32 rfl (lv_at hl 2 rfl) ?_
        refine lv_bipush (v := 10) hx hb dX10_right_33 (by decide) ?_
        refine lv_idiv hx hb dX10_right_35 (by decide) ?_
        refine lv_iload_n hx hb dX10_right_36 rfl (lv_at hl 2 rfl) ?_
        refine lv_bipush (v := 10) hx hb dX10_right_37 (by decide) ?_
        refine lv_irem' hx hb dX10_right_39 (by decide) ?_
        obtain ⟨q40, e40, h⟩ := tB h
        refine rcV C hH hl.1 (mX10_weighs l e40) cf_RX10_227 ro_58 (RR_of (by decide) (by decide)) rfl (rest := []) rfl (Nat.le_of_ble_eq_true rfl) dX10_right_40 ?_
        intro H locs hH
        refine lv_aload_n hx hb dX10_right_43 rfl (lv_at hl 0 rfl) ?_
        refine rgS C hH fs_RX10_25_58 dX10_right_44 ?_
        refine lv_iload_n hx hb dX10_right_47 rfl (lv_at hl 2 rfl) ?_
        refine lv_bipush (v := 10) hx hb dX10_right_48 (by decide) ?_
        refine lv_irem' hx hb dX10_right_50 (by decide) ?_
        obtain ⟨hi51, h⟩ := tC h
        refine raZ C hH (k := (Int32.toNatClampNeg (iRem v2 10))) (by decide) (show WS 64 = .inr (2, 10, 0) from rfl) hi51 rfl dX10_right_51 ?_
        refine lv_if_eq (tgt := 57) hx hb dX10_right_52 (by decide) (fun hc52 => ?_) (fun hc52 => ?_)
        · replace h := tT hc52 h
          refine lv_aload_n hx hb dX10_right_57 rfl (lv_at hl 0 rfl) ?_
          refine lv_iload_n hx hb dX10_right_58 rfl (lv_at hl 2 rfl) ?_
          refine lv_bipush (v := 10) hx hb dX10_right_59 (by decide) ?_
          refine lv_idiv hx hb dX10_right_61 (by decide) ?_
          obtain ⟨q62, e62, h⟩ := tB h
          refine rcI C hH hl.1 (mX10_bestLook l e62) cf_RX10_252 ro_58 (RR_of (by decide) (by decide)) rfl (rest := []) rfl (Nat.le_of_ble_eq_true rfl) dX10_right_62 ?_
          intro hz62 H locs hH
          refine lv_istore (lv' := [(4, .int q62.1), (0, .ref (ad 58)), (1, .int v1), (2, .int v2), (3, .int v3)]) hx hb dX10_right_65 hl (by decide) rfl (fun ls hl => ?_)
          refine lv_iload hx hb dX10_right_67 (lv_at hl 0 rfl) ?_
          refine lv_iconst (v := 3) hx hb dX10_right_69 (by decide) ?_
          refine lv_icmp_ne (tgt := 93) hx hb dX10_right_70 (by decide) (fun hc70 => ?_) (fun hc70 => ?_)
          · replace h := tF hc70 h
            refine lv_aload_n hx hb dX10_right_93 rfl (lv_at hl 1 rfl) ?_
            refine lv_iload_n hx hb dX10_right_94 rfl (lv_at hl 3 rfl) ?_
            refine lv_bipush (v := 10) hx hb dX10_right_95 (by decide) ?_
            refine lv_idiv hx hb dX10_right_97 (by decide) ?_
            refine lv_iload hx hb dX10_right_98 (lv_at hl 0 rfl) ?_
            obtain ⟨q100, e100, h⟩ := tB h
            refine rcL C hH hl.1 (mX10_rightBy l e100) cf_RX10_248 ro_58 (RR_of (by decide) (by decide)) rfl (rest := []) rfl (Nat.le_of_ble_eq_true rfl) dX10_right_100 ?_
            intro H locs hH
            refine rldc2 C (v := 36) k_RX10_246 dX10_right_103 ?_
            refine lv_aload_n hx hb dX10_right_106 rfl (lv_at hl 1 rfl) ?_
            obtain ⟨q107, e107, h⟩ := tB h
            refine rcL C hH hl.1 (mX10_weightAll l e107) cf_RX10_231 ro_58 (RR_of (by decide) (by decide)) rfl (rest := [.long 36, .long q100.1]) rfl (Nat.le_of_ble_eq_true rfl) dX10_right_107 ?_
            intro H locs hH
            refine lv_lmul hx hb dX10_right_110 ?_
            refine lv_iload_n hx hb dX10_right_111 rfl (lv_at hl 4 rfl) ?_
            obtain ⟨q112, e112, h⟩ := tB h
            refine rsL C hH hl.1 (mX10_partOf l e112) cs_RX10_235 (RR_of (by decide) (by decide)) rfl (rest := []) rfl (Nat.le_of_ble_eq_true rfl) dX10_right_112 ?_
            intro H locs hH
            have h := Option.some.inj h
            subst h
            exact retL C hH dX10_right_115
          · replace h := tT hc70 h
            refine lv_aload_n hx hb dX10_right_73 rfl (lv_at hl 1 rfl) ?_
            refine rgS C hH fs_RX10_38_58 dX10_right_74 ?_
            refine lv_aload_n hx hb dX10_right_77 rfl (lv_at hl 1 rfl) ?_
            obtain ⟨q78, e78, h⟩ := tB h
            refine rcI C hH hl.1 (mX10_heaviest l e78) cf_RX10_239 ro_58 (RR_of (by decide) (by decide)) rfl (rest := [.ref (ad 68)]) rfl (Nat.le_of_ble_eq_true rfl) dX10_right_78 ?_
            intro hz78 H locs hH
            obtain ⟨hi81, h⟩ := tC h
            refine raL C hH (k := (Int32.toNatClampNeg q78.1)) (by decide) (show WS 68 = .inr (3, 6, 0) from rfl) hi81 rfl dX10_right_81 ?_
            refine lv_aload_n hx hb dX10_right_82 rfl (lv_at hl 1 rfl) ?_
            obtain ⟨q83, e83, h⟩ := tB h
            refine rcL C hH hl.1 (mX10_weightAll l e83) cf_RX10_231 ro_58 (RR_of (by decide) (by decide)) rfl (rest := [.long (gL q78.2 68 (Int32.toNatClampNeg q78.1))]) rfl (Nat.le_of_ble_eq_true rfl) dX10_right_83 ?_
            intro H locs hH
            refine lv_iload_n hx hb dX10_right_86 rfl (lv_at hl 4 rfl) ?_
            obtain ⟨q87, e87, h⟩ := tB h
            refine rsL C hH hl.1 (mX10_partOf l e87) cs_RX10_235 (RR_of (by decide) (by decide)) rfl (rest := []) rfl (Nat.le_of_ble_eq_true rfl) dX10_right_87 ?_
            intro H locs hH
            refine lv_goto (tgt := 115) hx hb dX10_right_90 (by decide) ?_
            have h := Option.some.inj h
            subst h
            exact retL C hH dX10_right_115
        · replace h := tF hc52 h
          refine lv_lconst (v := 1) hx hb dX10_right_55 (by decide) ?_
          have h := Option.some.inj h
          subst h
          exact retL C hH dX10_right_56
      · replace h := tT hc23 h
        exact wX10_right_26 C h hH (lv_sub hl [] rfl)
set_option maxHeartbeats 2000000 in
set_option maxRecDepth 20000 in
theorem mX2_noOffers (l : Launch) {D : va_G} {ca : Nat → ClassId} {A : Nat → Prop} {ad : Nat → Nat} {mm : Mm} {q : Unit × Mm} (h : dX2_noOffers mm = some q) : Met l yX2_noOffers (wsOf yX2_noOffers cX2_noOffers 1 none) (rmk 2) (PcX WN ad ca WS D A [.ref (ad 19)] mm) (QcV WN ad ca WS D A q) 0 0 A := by
  unfold dX2_noOffers at h
  refine ent (by decide) (Nat.le_of_ble_eq_true rfl) (fun p e s m args below meth c hargs C hH ls hl => ?_)
  have hx := C.1
  have hb := C.2.1
  have hl : lv_has ls 1 [(0, .ref (ad 19))] := hl
  refine lv_aload_n hx hb dX2_noOffers_0 rfl (lv_at hl 0 rfl) ?_
  refine rgS C hH fs_RX2_9_19 dX2_noOffers_1 ?_
  refine lv_iconst (v := 0) hx hb dX2_noOffers_4 (by decide) ?_
  refine rsV C hH hl.1 (q := ((), flI mm 20 10 0)) (mJ7_fill_53178 l (by decide) (show WS 20 = .inr (0, 10, 0) from rfl) (by decide)) cs_RX2_26 (RR_of (by decide) (by decide)) rfl (rest := []) rfl (Nat.le_of_ble_eq_true rfl) dX2_noOffers_5 ?_
  intro H locs hH
  have h := Option.some.inj h
  subst h
  exact retV C hH dX2_noOffers_8
set_option maxHeartbeats 2000000 in
set_option maxRecDepth 20000 in
theorem mX0_cutWorth (l : Launch) {D : va_G} {ca : Nat → ClassId} {A : Nat → Prop} {ad : Nat → Nat} {v1 : Int32} {v2 : Int32} {mm : Mm} {q : Int32 × Mm} (h : dX0_cutWorth v1 v2 mm = some q) : Met l yX0_cutWorth (wsOf yX0_cutWorth cX0_cutWorth 5 (some .int)) (rmk 5) (PcX WN ad ca WS D A [.ref (ad 17), .int v1, .int v2] mm) (QcI WN ad ca WS D A pzT q) 0 0 A := by
  unfold dX0_cutWorth at h
  refine ent (by decide) (Nat.le_of_ble_eq_true rfl) (fun p e s m args below meth c hargs C hH ls hl => ?_)
  have hx := C.1
  have hb := C.2.1
  have hl : lv_has ls 5 [(0, .ref (ad 17)), (1, .int v1), (2, .int v2)] := hl
  refine lv_aload_n hx hb dX0_cutWorth_0 rfl (lv_at hl 0 rfl) ?_
  obtain ⟨q1, e1, h⟩ := tB h
  refine rcL C hH hl.1 (mX0_total l e1) cf_RX0_61 ro_17 (RR_of (by decide) (by decide)) rfl (rest := []) rfl (Nat.le_of_ble_eq_true rfl) dX0_cutWorth_1 ?_
  intro H locs hH
  refine lv_lstore_n (lv' := [(3, .long q1.1), (0, .ref (ad 17)), (1, .int v1), (2, .int v2)]) hx hb dX0_cutWorth_4 rfl hl (by decide) rfl (fun ls hl => ?_)
  refine lv_lload_n hx hb dX0_cutWorth_5 rfl (lv_at hl 0 rfl) ?_
  refine lv_lconst (v := 0) hx hb dX0_cutWorth_6 (by decide) ?_
  refine lc_ne (tgt := 15) hx hb dX0_cutWorth_7 dX0_cutWorth_8 (by decide) (fun hc8 => ?_) (fun hc8 => ?_)
  · replace h := tF hc8 h
    refine lv_aload_n hx hb dX0_cutWorth_15 rfl (lv_at hl 1 rfl) ?_
    refine lv_iload_n hx hb dX0_cutWorth_16 rfl (lv_at hl 2 rfl) ?_
    refine lv_iload_n hx hb dX0_cutWorth_17 rfl (lv_at hl 3 rfl) ?_
    obtain ⟨q18, e18, h⟩ := tB h
    refine rcL C hH hl.1 (mX0_worthSum l e18) cf_RX0_65 ro_17 (RR_of (by decide) (by decide)) rfl (rest := []) rfl (Nat.le_of_ble_eq_true rfl) dX0_cutWorth_18 ?_
    intro H locs hH
    refine lv_lload_n hx hb dX0_cutWorth_21 rfl (lv_at hl 0 rfl) ?_
    obtain ⟨hz22, h⟩ := tN h
    refine lv_ldiv hx hb dX0_cutWorth_22 hz22 ?_
    refine lv_l2i' hx hb dX0_cutWorth_23 ?_
    have h := Option.some.inj h
    subst h
    exact retI C hH trivial dX0_cutWorth_24
  · replace h := tT hc8 h
    refine lv_iconst (v := 0) hx hb dX0_cutWorth_11 (by decide) ?_
    refine lv_goto (tgt := 24) hx hb dX0_cutWorth_12 (by decide) ?_
    have h := Option.some.inj h
    subst h
    exact retI C hH trivial dX0_cutWorth_24
set_option maxHeartbeats 2000000 in
set_option maxRecDepth 20000 in
theorem wX7_isFree_22 (C : Cx D ca A p s m args meth c cX7_isFree RX7 2 (some .boolean)) {q : Int32 × Mm} {mm : Mm} (h : DX7_isFree_22 mm = some q) (hH : Hx WN ad ca WS D A s.heap mm H locs) (hl : lv_has ls 2 []) : W p l e (rmk 4) s m args below meth c H locs 0 0 (MQ below (QcI WN ad ca WS D A pzZ q) args s 0 0 A) (F0 m 22 ls []) := by
  unfold DX7_isFree_22 at h
  have hx := C.1
  have hb := C.2.1
  refine lv_iconst (v := 0) hx hb dX7_isFree_22 (by decide) ?_
  have h := Option.some.inj h
  subst h
  exact retZ C hH (Or.inl rfl) dX7_isFree_23
set_option maxHeartbeats 2000000 in
set_option maxRecDepth 20000 in
theorem mX7_isFree (l : Launch) {D : va_G} {ca : Nat → ClassId} {A : Nat → Prop} {ad : Nat → Nat} {v1 : Int32} {mm : Mm} {q : Int32 × Mm} (h : dX7_isFree v1 mm = some q) : Met l yX7_isFree (wsOf yX7_isFree cX7_isFree 2 (some .boolean)) (rmk 4) (PcX WN ad ca WS D A [.ref (ad 1), .int v1] mm) (QcI WN ad ca WS D A pzZ q) 0 0 A := by
  unfold dX7_isFree at h
  refine ent (by decide) (Nat.le_of_ble_eq_true rfl) (fun p e s m args below meth c hargs C hH ls hl => ?_)
  have hx := C.1
  have hb := C.2.1
  have hl : lv_has ls 2 [(0, .ref (ad 1)), (1, .int v1)] := hl
  refine lv_aload_n hx hb dX7_isFree_0 rfl (lv_at hl 0 rfl) ?_
  refine lv_bipush (v := 9) hx hb dX7_isFree_1 (by decide) ?_
  refine lv_iload_n hx hb dX7_isFree_3 rfl (lv_at hl 1 rfl) ?_
  obtain ⟨q4, e4, h⟩ := tB h
  refine rcI C hH hl.1 (mX7_told l e4) cf_RX7_38 ro_1 (RR_of (by decide) (by decide)) rfl (rest := []) rfl (Nat.le_of_ble_eq_true rfl) dX7_isFree_4 ?_
  intro hz4 H locs hH
  refine lv_if_ge (tgt := 22) hx hb dX7_isFree_7 (by decide) (fun hc7 => ?_) (fun hc7 => ?_)
  · replace h := tT hc7 h
    exact wX7_isFree_22 C h hH (lv_sub hl [] rfl)
  · replace h := tF hc7 h
    refine lv_aload_n hx hb dX7_isFree_10 rfl (lv_at hl 0 rfl) ?_
    refine lv_iload_n hx hb dX7_isFree_11 rfl (lv_at hl 1 rfl) ?_
    obtain ⟨q12, e12, h⟩ := tB h
    refine rcI C hH hl.1 (mX7_isOpen l e12) cf_RX7_42 ro_1 (RR_of (by decide) (by decide)) rfl (rest := []) rfl (Nat.le_of_ble_eq_true rfl) dX7_isFree_12 ?_
    intro hz12 H locs hH
    refine lv_if_ne (tgt := 22) hx hb dX7_isFree_15 (by decide) (fun hc15 => ?_) (fun hc15 => ?_)
    · replace h := tF hc15 h
      exact wX7_isFree_22 C h hH (lv_sub hl [] rfl)
    · replace h := tT hc15 h
      refine lv_iconst (v := 1) hx hb dX7_isFree_18 (by decide) ?_
      refine lv_goto (tgt := 23) hx hb dX7_isFree_19 (by decide) ?_
      have h := Option.some.inj h
      subst h
      exact retZ C hH (Or.inr rfl) dX7_isFree_23
set_option maxHeartbeats 2000000 in
set_option maxRecDepth 20000 in
theorem mX2_offer (l : Launch) {D : va_G} {ca : Nat → ClassId} {A : Nat → Prop} {ad : Nat → Nat} {v1 : Int32} {v2 : Int32} {mm : Mm} {q : Unit × Mm} (h : dX2_offer v1 v2 mm = some q) : Met l yX2_offer (wsOf yX2_offer cX2_offer 3 none) (rmk 5) (PcX WN ad ca WS D A [.ref (ad 19), .int v1, .int v2] mm) (QcV WN ad ca WS D A q) 0 0 A := by
  unfold dX2_offer at h
  refine ent (by decide) (Nat.le_of_ble_eq_true rfl) (fun p e s m args below meth c hargs C hH ls hl => ?_)
  have hx := C.1
  have hb := C.2.1
  have hl : lv_has ls 3 [(0, .ref (ad 19)), (1, .int v1), (2, .int v2)] := hl
  refine lv_aload_n hx hb dX2_offer_0 rfl (lv_at hl 0 rfl) ?_
  refine rgS C hH fs_RX2_22_19 dX2_offer_1 ?_
  refine lv_iload_n hx hb dX2_offer_4 rfl (lv_at hl 1 rfl) ?_
  obtain ⟨q5, e5, h⟩ := tB h
  refine rcI C hH hl.1 (mX7_isFree l e5) cf_RX2_32 ro_1 (RR_of (by decide) (by decide)) rfl (rest := []) rfl (Nat.le_of_ble_eq_true rfl) dX2_offer_5 ?_
  intro hz5 H locs hH
  refine lv_if_eq (tgt := 28) hx hb dX2_offer_8 (by decide) (fun hc8 => ?_) (fun hc8 => ?_)
  · replace h := tT hc8 h
    have h := Option.some.inj h
    subst h
    exact retV C hH dX2_offer_28
  · replace h := tF hc8 h
    refine lv_aload_n hx hb dX2_offer_11 rfl (lv_at hl 0 rfl) ?_
    refine rgS C hH fs_RX2_9_19 dX2_offer_12 ?_
    refine lv_iload_n hx hb dX2_offer_15 rfl (lv_at hl 1 rfl) ?_
    refine lv_iload_n hx hb dX2_offer_16 rfl (lv_at hl 2 rfl) ?_
    refine lv_aload_n hx hb dX2_offer_17 rfl (lv_at hl 0 rfl) ?_
    refine rgS C hH fs_RX2_22_19 dX2_offer_18 ?_
    refine lv_iconst (v := 5) hx hb dX2_offer_21 (by decide) ?_
    refine lv_iload_n hx hb dX2_offer_22 rfl (lv_at hl 1 rfl) ?_
    obtain ⟨q23, e23, h⟩ := tB h
    refine rcI C hH hl.1 (mX7_told l e23) cf_RX2_38 ro_1 (RR_of (by decide) (by decide)) rfl (rest := [.int v2, .int v1, .ref (ad 20)]) rfl (Nat.le_of_ble_eq_true rfl) dX2_offer_23 ?_
    intro hz23 H locs hH
    refine lv_isub hx hb dX2_offer_26 ?_
    obtain ⟨hi27, h⟩ := tC h
    refine rwI C hH (k := (Int32.toNatClampNeg v1)) (by decide) (show WS 20 = .inr (0, 10, 0) from rfl) hi27 rfl dX2_offer_27 (fun H locs hH => ?_)
    have h := Option.some.inj h
    subst h
    exact retV C hH dX2_offer_28
set_option maxHeartbeats 2000000 in
set_option maxRecDepth 20000 in
theorem mJ6_bitCount_0f7a4 (l : Launch) {D : va_G} {ca : Nat → ClassId} {A : Nat → Prop} {ad : Nat → Nat} {v0 : Int32} {mm : Mm} {q : Int32 × Mm} (h : dJ6_bitCount_0f7a4 v0 mm = some q) : Met l yJ6_bitCount_0f7a4 (wsOf yJ6_bitCount_0f7a4 cJ6_bitCount_0f7a4 1 (some .int)) (rmk 1) (PcX WN ad ca WS D A [.int v0] mm) (QcI WN ad ca WS D A pzT q) 0 0 A := by
  unfold dJ6_bitCount_0f7a4 at h
  refine ent (by decide) (Nat.le_of_ble_eq_true rfl) (fun p e s m args below meth c hargs C hH ls hl => ?_)
  have hx := C.1
  have hb := C.2.1
  have hl : lv_has ls 1 [(0, .int v0)] := hl
  refine lv_iload_n hx hb dJ6_bitCount_0f7a4_0 rfl (lv_at hl 0 rfl) ?_
  refine lv_iload_n hx hb dJ6_bitCount_0f7a4_1 rfl (lv_at hl 0 rfl) ?_
  refine lv_iconst (v := 1) hx hb dJ6_bitCount_0f7a4_2 (by decide) ?_
  refine lv_iushr' hx hb dJ6_bitCount_0f7a4_3 ?_
  refine rldcw C (v := 1431655765) k_RJ6_265 dJ6_bitCount_0f7a4_4 ?_
  refine lv_iand hx hb dJ6_bitCount_0f7a4_7 ?_
  refine lv_isub hx hb dJ6_bitCount_0f7a4_8 ?_
  refine lv_istore_n (lv' := [(0, .int (v0 - ((iUshr v0 1) &&& 1431655765)))]) hx hb dJ6_bitCount_0f7a4_9 rfl hl (by decide) rfl (fun ls hl => ?_)
  refine lv_iload_n hx hb dJ6_bitCount_0f7a4_10 rfl (lv_at hl 0 rfl) ?_
  refine rldcw C (v := 858993459) k_RJ6_266 dJ6_bitCount_0f7a4_11 ?_
  refine lv_iand hx hb dJ6_bitCount_0f7a4_14 ?_
  refine lv_iload_n hx hb dJ6_bitCount_0f7a4_15 rfl (lv_at hl 0 rfl) ?_
  refine lv_iconst (v := 2) hx hb dJ6_bitCount_0f7a4_16 (by decide) ?_
  refine lv_iushr' hx hb dJ6_bitCount_0f7a4_17 ?_
  refine rldcw C (v := 858993459) k_RJ6_266 dJ6_bitCount_0f7a4_18 ?_
  refine lv_iand hx hb dJ6_bitCount_0f7a4_21 ?_
  refine lv_iadd hx hb dJ6_bitCount_0f7a4_22 ?_
  refine lv_istore_n (lv' := [(0, .int (((v0 - ((iUshr v0 1) &&& 1431655765)) &&& 858993459) + ((iUshr (v0 - ((iUshr v0 1) &&& 1431655765)) 2) &&& 858993459)))]) hx hb dJ6_bitCount_0f7a4_23 rfl hl (by decide) rfl (fun ls hl => ?_)
  refine lv_iload_n hx hb dJ6_bitCount_0f7a4_24 rfl (lv_at hl 0 rfl) ?_
  refine lv_iload_n hx hb dJ6_bitCount_0f7a4_25 rfl (lv_at hl 0 rfl) ?_
  refine lv_iconst (v := 4) hx hb dJ6_bitCount_0f7a4_26 (by decide) ?_
  refine lv_iushr' hx hb dJ6_bitCount_0f7a4_27 ?_
  refine lv_iadd hx hb dJ6_bitCount_0f7a4_28 ?_
  refine rldcw C (v := 252645135) k_RJ6_267 dJ6_bitCount_0f7a4_29 ?_
  refine lv_iand hx hb dJ6_bitCount_0f7a4_32 ?_
  refine lv_istore_n (lv' := [(0, .int (((((v0 - ((iUshr v0 1) &&& 1431655765)) &&& 858993459) + ((iUshr (v0 - ((iUshr v0 1) &&& 1431655765)) 2) &&& 858993459)) + (iUshr (((v0 - ((iUshr v0 1) &&& 1431655765)) &&& 858993459) + ((iUshr (v0 - ((iUshr v0 1) &&& 1431655765)) 2) &&& 858993459)) 4)) &&& 252645135))]) hx hb dJ6_bitCount_0f7a4_33 rfl hl (by decide) rfl (fun ls hl => ?_)
  refine lv_iload_n hx hb dJ6_bitCount_0f7a4_34 rfl (lv_at hl 0 rfl) ?_
  refine lv_iload_n hx hb dJ6_bitCount_0f7a4_35 rfl (lv_at hl 0 rfl) ?_
  refine lv_bipush (v := 8) hx hb dJ6_bitCount_0f7a4_36 (by decide) ?_
  refine lv_iushr' hx hb dJ6_bitCount_0f7a4_38 ?_
  refine lv_iadd hx hb dJ6_bitCount_0f7a4_39 ?_
  refine lv_istore_n (lv' := [(0, .int ((((((v0 - ((iUshr v0 1) &&& 1431655765)) &&& 858993459) + ((iUshr (v0 - ((iUshr v0 1) &&& 1431655765)) 2) &&& 858993459)) + (iUshr (((v0 - ((iUshr v0 1) &&& 1431655765)) &&& 858993459) + ((iUshr (v0 - ((iUshr v0 1) &&& 1431655765)) 2) &&& 858993459)) 4)) &&& 252645135) + (iUshr (((((v0 - ((iUshr v0 1) &&& 1431655765)) &&& 858993459) + ((iUshr (v0 - ((iUshr v0 1) &&& 1431655765)) 2) &&& 858993459)) + (iUshr (((v0 - ((iUshr v0 1) &&& 1431655765)) &&& 858993459) + ((iUshr (v0 - ((iUshr v0 1) &&& 1431655765)) 2) &&& 858993459)) 4)) &&& 252645135) 8)))]) hx hb dJ6_bitCount_0f7a4_40 rfl hl (by decide) rfl (fun ls hl => ?_)
  refine lv_iload_n hx hb dJ6_bitCount_0f7a4_41 rfl (lv_at hl 0 rfl) ?_
  refine lv_iload_n hx hb dJ6_bitCount_0f7a4_42 rfl (lv_at hl 0 rfl) ?_
  refine lv_bipush (v := 16) hx hb dJ6_bitCount_0f7a4_43 (by decide) ?_
  refine lv_iushr' hx hb dJ6_bitCount_0f7a4_45 ?_
  refine lv_iadd hx hb dJ6_bitCount_0f7a4_46 ?_
  refine lv_istore_n (lv' := [(0, .int (((((((v0 - ((iUshr v0 1) &&& 1431655765)) &&& 858993459) + ((iUshr (v0 - ((iUshr v0 1) &&& 1431655765)) 2) &&& 858993459)) + (iUshr (((v0 - ((iUshr v0 1) &&& 1431655765)) &&& 858993459) + ((iUshr (v0 - ((iUshr v0 1) &&& 1431655765)) 2) &&& 858993459)) 4)) &&& 252645135) + (iUshr (((((v0 - ((iUshr v0 1) &&& 1431655765)) &&& 858993459) + ((iUshr (v0 - ((iUshr v0 1) &&& 1431655765)) 2) &&& 858993459)) + (iUshr (((v0 - ((iUshr v0 1) &&& 1431655765)) &&& 858993459) + ((iUshr (v0 - ((iUshr v0 1) &&& 1431655765)) 2) &&& 858993459)) 4)) &&& 252645135) 8)) + (iUshr ((((((v0 - ((iUshr v0 1) &&& 1431655765)) &&& 858993459) + ((iUshr (v0 - ((iUshr v0 1) &&& 1431655765)) 2) &&& 858993459)) + (iUshr (((v0 - ((iUshr v0 1) &&& 1431655765)) &&& 858993459) + ((iUshr (v0 - ((iUshr v0 1) &&& 1431655765)) 2) &&& 858993459)) 4)) &&& 252645135) + (iUshr (((((v0 - ((iUshr v0 1) &&& 1431655765)) &&& 858993459) + ((iUshr (v0 - ((iUshr v0 1) &&& 1431655765)) 2) &&& 858993459)) + (iUshr (((v0 - ((iUshr v0 1) &&& 1431655765)) &&& 858993459) + ((iUshr (v0 - ((iUshr v0 1) &&& 1431655765)) 2) &&& 858993459)) 4)) &&& 252645135) 8)) 16)))]) hx hb dJ6_bitCount_0f7a4_47 rfl hl (by decide) rfl (fun ls hl => ?_)
  refine lv_iload_n hx hb dJ6_bitCount_0f7a4_48 rfl (lv_at hl 0 rfl) ?_
  refine lv_bipush (v := 63) hx hb dJ6_bitCount_0f7a4_49 (by decide) ?_
  refine lv_iand hx hb dJ6_bitCount_0f7a4_51 ?_
  have h := Option.some.inj h
  subst h
  exact retI C hH trivial dJ6_bitCount_0f7a4_52
set_option maxHeartbeats 2000000 in
set_option maxRecDepth 20000 in
theorem wX2_isBetter_51 (C : Cx D ca A p s m args meth c cX2_isBetter RX2 4 (some .boolean)) {q : Int32 × Mm} {mm : Mm} (h : DX2_isBetter_51 mm = some q) (hH : Hx WN ad ca WS D A s.heap mm H locs) (hl : lv_has ls 4 []) : W p l e (rmk 2) s m args below meth c H locs 0 0 (MQ below (QcI WN ad ca WS D A pzZ q) args s 0 0 A) (F0 m 51 ls []) := by
  unfold DX2_isBetter_51 at h
  have hx := C.1
  have hb := C.2.1
  refine lv_iconst (v := 1) hx hb dX2_isBetter_51 (by decide) ?_
  refine lv_goto (tgt := 56) hx hb dX2_isBetter_52 (by decide) ?_
  have h := Option.some.inj h
  subst h
  exact retZ C hH (Or.inr rfl) dX2_isBetter_56
set_option maxHeartbeats 2000000 in
set_option maxRecDepth 20000 in
theorem wX2_isBetter_55 (C : Cx D ca A p s m args meth c cX2_isBetter RX2 4 (some .boolean)) {q : Int32 × Mm} {mm : Mm} (h : DX2_isBetter_55 mm = some q) (hH : Hx WN ad ca WS D A s.heap mm H locs) (hl : lv_has ls 4 []) : W p l e (rmk 2) s m args below meth c H locs 0 0 (MQ below (QcI WN ad ca WS D A pzZ q) args s 0 0 A) (F0 m 55 ls []) := by
  unfold DX2_isBetter_55 at h
  have hx := C.1
  have hb := C.2.1
  refine lv_iconst (v := 0) hx hb dX2_isBetter_55 (by decide) ?_
  have h := Option.some.inj h
  subst h
  exact retZ C hH (Or.inl rfl) dX2_isBetter_56
set_option maxHeartbeats 2000000 in
set_option maxRecDepth 20000 in
theorem mX2_isBetter (l : Launch) {D : va_G} {ca : Nat → ClassId} {A : Nat → Prop} {ad : Nat → Nat} {v1 : Int32} {v2 : Int32} {mm : Mm} {q : Int32 × Mm} (h : dX2_isBetter v1 v2 mm = some q) : Met l yX2_isBetter (wsOf yX2_isBetter cX2_isBetter 4 (some .boolean)) (rmk 2) (PcX WN ad ca WS D A [.ref (ad 19), .int v1, .int v2] mm) (QcI WN ad ca WS D A pzZ q) 0 0 A := by
  unfold dX2_isBetter at h
  refine ent (by decide) (Nat.le_of_ble_eq_true rfl) (fun p e s m args below meth c hargs C hH ls hl => ?_)
  have hx := C.1
  have hb := C.2.1
  have hl : lv_has ls 4 [(0, .ref (ad 19)), (1, .int v1), (2, .int v2)] := hl
  refine lv_iload_n hx hb dX2_isBetter_0 rfl (lv_at hl 2 rfl) ?_
  refine lv_aload_n hx hb dX2_isBetter_1 rfl (lv_at hl 0 rfl) ?_
  refine rgI C hH fi_RX2_46_19 dX2_isBetter_2 ?_
  refine lv_icmp_eq (tgt := 22) hx hb dX2_isBetter_5 (by decide) (fun hc5 => ?_) (fun hc5 => ?_)
  · replace h := tT hc5 h
    refine lv_aload_n hx hb dX2_isBetter_22 rfl (lv_at hl 0 rfl) ?_
    refine rgI C hH fi_RX2_42_19 dX2_isBetter_23 ?_
    obtain ⟨q26, e26, h⟩ := tB h
    refine rsI C hH hl.1 (mJ6_bitCount_0f7a4 l e26) cs_RX2_57 (RR_of (by decide) (by decide)) rfl (rest := []) rfl (Nat.le_of_ble_eq_true rfl) dX2_isBetter_26 ?_
    intro hz26 H locs hH
    refine lv_iload_n hx hb dX2_isBetter_29 rfl (lv_at hl 1 rfl) ?_
    obtain ⟨q30, e30, h⟩ := tB h
    refine rsI C hH hl.1 (mJ6_bitCount_0f7a4 l e30) cs_RX2_57 (RR_of (by decide) (by decide)) rfl (rest := [.int q26.1]) rfl (Nat.le_of_ble_eq_true rfl) dX2_isBetter_30 ?_
    intro hz30 H locs hH
    refine lv_isub hx hb dX2_isBetter_33 ?_
    refine lv_istore_n (lv' := [(3, .int (q26.1 - q30.1)), (0, .ref (ad 19)), (1, .int v1), (2, .int v2)]) hx hb dX2_isBetter_34 rfl hl (by decide) rfl (fun ls hl => ?_)
    refine lv_iload_n hx hb dX2_isBetter_35 rfl (lv_at hl 0 rfl) ?_
    refine lv_if_gt (tgt := 51) hx hb dX2_isBetter_36 (by decide) (fun hc36 => ?_) (fun hc36 => ?_)
    · replace h := tT hc36 h
      exact wX2_isBetter_51 C h hH (lv_sub hl [] rfl)
    · replace h := tF hc36 h
      refine lv_iload_n hx hb dX2_isBetter_39 rfl (lv_at hl 0 rfl) ?_
      refine lv_if_ne (tgt := 55) hx hb dX2_isBetter_40 (by decide) (fun hc40 => ?_) (fun hc40 => ?_)
      · replace h := tF hc40 h
        exact wX2_isBetter_55 C h hH (lv_sub hl [] rfl)
      · replace h := tT hc40 h
        refine lv_iload_n hx hb dX2_isBetter_43 rfl (lv_at hl 2 rfl) ?_
        refine lv_aload_n hx hb dX2_isBetter_44 rfl (lv_at hl 1 rfl) ?_
        refine rgI C hH fi_RX2_42_19 dX2_isBetter_45 ?_
        refine lv_icmp_ge (tgt := 55) hx hb dX2_isBetter_48 (by decide) (fun hc48 => ?_) (fun hc48 => ?_)
        · replace h := tT hc48 h
          exact wX2_isBetter_55 C h hH (lv_sub hl [] rfl)
        · replace h := tF hc48 h
          exact wX2_isBetter_51 C h hH (lv_sub hl [] rfl)
  · replace h := tF hc5 h
    refine lv_iload_n hx hb dX2_isBetter_8 rfl (lv_at hl 2 rfl) ?_
    refine lv_aload_n hx hb dX2_isBetter_9 rfl (lv_at hl 0 rfl) ?_
    refine rgI C hH fi_RX2_46_19 dX2_isBetter_10 ?_
    refine lv_icmp_le (tgt := 20) hx hb dX2_isBetter_13 (by decide) (fun hc13 => ?_) (fun hc13 => ?_)
    · replace h := tT hc13 h
      refine lv_iconst (v := 0) hx hb dX2_isBetter_20 (by decide) ?_
      have h := Option.some.inj h
      subst h
      exact retZ C hH (Or.inl rfl) dX2_isBetter_21
    · replace h := tF hc13 h
      refine lv_iconst (v := 1) hx hb dX2_isBetter_16 (by decide) ?_
      refine lv_goto (tgt := 21) hx hb dX2_isBetter_17 (by decide) ?_
      have h := Option.some.inj h
      subst h
      exact retZ C hH (Or.inr rfl) dX2_isBetter_21
set_option maxHeartbeats 2000000 in
set_option maxRecDepth 20000 in
theorem mbX2_choose_ (l : Launch) {D : va_G} {ca : Nat → ClassId} {A : Nat → Prop} {ad : Nat → Nat} {lev : Nat} (hlev : 3 ≤ lev + 1) {r_X2_choose_ : Int32 → Int32 → Int32 → Int32 → Mm → Option (Unit × Mm)} (hr_X2_choose_ : ∀ (v1 : Int32) (v2 : Int32) (v3 : Int32) (v4 : Int32) (mm : Mm) (q : Unit × Mm), r_X2_choose_ v1 v2 v3 v4 mm = some q → Met l yX2_choose_ (wsOf yX2_choose_ cX2_choose_ 5 none) (rmk lev) (PcX WN ad ca WS D A [.ref (ad 19), .int v1, .int v2, .int v3, .int v4] mm) (QcV WN ad ca WS D A q) 0 0 A) {v1 : Int32} {v2 : Int32} {v3 : Int32} {v4 : Int32} {mm : Mm} {q : Unit × Mm} (h : bX2_choose_ r_X2_choose_ v1 v2 v3 v4 mm = some q) : Met l yX2_choose_ (wsOf yX2_choose_ cX2_choose_ 5 none) (rmk (lev + 1)) (PcX WN ad ca WS D A [.ref (ad 19), .int v1, .int v2, .int v3, .int v4] mm) (QcV WN ad ca WS D A q) 0 0 A := by
  unfold bX2_choose_ at h
  refine ent (by decide) (Nat.le_of_ble_eq_true rfl) (fun p e s m args below meth c hargs C hH ls hl => ?_)
  have hx := C.1
  have hb := C.2.1
  have hl : lv_has ls 5 [(0, .ref (ad 19)), (1, .int v1), (2, .int v2), (3, .int v3), (4, .int v4)] := hl
  refine lv_iload_n hx hb dX2_choose__0 rfl (lv_at hl 1 rfl) ?_
  refine lv_bipush (v := 10) hx hb dX2_choose__1 (by decide) ?_
  refine lv_icmp_lt (tgt := 26) hx hb dX2_choose__3 (by decide) (fun hc3 => ?_) (fun hc3 => ?_)
  · replace h := tT hc3 h
    refine lv_aload_n hx hb dX2_choose__26 rfl (lv_at hl 0 rfl) ?_
    refine lv_iload_n hx hb dX2_choose__27 rfl (lv_at hl 1 rfl) ?_
    refine lv_iconst (v := 1) hx hb dX2_choose__28 (by decide) ?_
    refine lv_iadd hx hb dX2_choose__29 ?_
    refine lv_iload_n hx hb dX2_choose__30 rfl (lv_at hl 2 rfl) ?_
    refine lv_iload_n hx hb dX2_choose__31 rfl (lv_at hl 3 rfl) ?_
    refine lv_iload hx hb dX2_choose__32 (lv_at hl 4 rfl) ?_
    obtain ⟨q34, e34, h⟩ := tB h
    refine rcV C hH hl.1 (hr_X2_choose_ _ _ _ _ _ _ e34) cf_RX2_49 ro_19 (RR_of (by omega) (by decide)) rfl (rest := []) rfl (Nat.le_of_ble_eq_true rfl) dX2_choose__34 ?_
    intro H locs hH
    refine lv_aload_n hx hb dX2_choose__37 rfl (lv_at hl 0 rfl) ?_
    refine rgS C hH fs_RX2_9_19 dX2_choose__38 ?_
    refine lv_iload_n hx hb dX2_choose__41 rfl (lv_at hl 1 rfl) ?_
    obtain ⟨hi42, h⟩ := tC h
    refine raI C hH (k := (Int32.toNatClampNeg v1)) (by decide) (show WS 20 = .inr (0, 10, 0) from rfl) hi42 rfl dX2_choose__42 ?_
    refine lv_if_le (tgt := 92) hx hb dX2_choose__43 (by decide) (fun hc43 => ?_) (fun hc43 => ?_)
    · replace h := tT hc43 h
      have h := Option.some.inj h
      subst h
      exact retV C hH dX2_choose__92
    · replace h := tF hc43 h
      refine lv_aload_n hx hb dX2_choose__46 rfl (lv_at hl 0 rfl) ?_
      refine rgS C hH fs_RX2_22_19 dX2_choose__47 ?_
      refine lv_iconst (v := 5) hx hb dX2_choose__50 (by decide) ?_
      refine lv_iload_n hx hb dX2_choose__51 rfl (lv_at hl 1 rfl) ?_
      obtain ⟨q52, e52, h⟩ := tB h
      refine rcI C hH hl.1 (mX7_told l e52) cf_RX2_38 ro_1 (RR_of (by omega) (by decide)) rfl (rest := []) rfl (Nat.le_of_ble_eq_true rfl) dX2_choose__52 ?_
      intro hz52 H locs hH
      refine lv_iload hx hb dX2_choose__55 (lv_at hl 4 rfl) ?_
      refine lv_icmp_gt (tgt := 92) hx hb dX2_choose__57 (by decide) (fun hc57 => ?_) (fun hc57 => ?_)
      · replace h := tT hc57 h
        have h := Option.some.inj h
        subst h
        exact retV C hH dX2_choose__92
      · replace h := tF hc57 h
        refine lv_aload_n hx hb dX2_choose__60 rfl (lv_at hl 0 rfl) ?_
        refine lv_iload_n hx hb dX2_choose__61 rfl (lv_at hl 1 rfl) ?_
        refine lv_iconst (v := 1) hx hb dX2_choose__62 (by decide) ?_
        refine lv_iadd hx hb dX2_choose__63 ?_
        refine lv_iload_n hx hb dX2_choose__64 rfl (lv_at hl 2 rfl) ?_
        refine lv_iconst (v := 1) hx hb dX2_choose__65 (by decide) ?_
        refine lv_iload_n hx hb dX2_choose__66 rfl (lv_at hl 1 rfl) ?_
        refine lv_ishl' hx hb dX2_choose__67 ?_
        refine lv_ior hx hb dX2_choose__68 ?_
        refine lv_iload_n hx hb dX2_choose__69 rfl (lv_at hl 3 rfl) ?_
        refine lv_aload_n hx hb dX2_choose__70 rfl (lv_at hl 0 rfl) ?_
        refine rgS C hH fs_RX2_9_19 dX2_choose__71 ?_
        refine lv_iload_n hx hb dX2_choose__74 rfl (lv_at hl 1 rfl) ?_
        obtain ⟨hi75, h⟩ := tC h
        refine raI C hH (k := (Int32.toNatClampNeg v1)) (by decide) (show WS 20 = .inr (0, 10, 0) from rfl) hi75 rfl dX2_choose__75 ?_
        refine lv_iadd hx hb dX2_choose__76 ?_
        refine lv_iload hx hb dX2_choose__77 (lv_at hl 4 rfl) ?_
        refine lv_aload_n hx hb dX2_choose__79 rfl (lv_at hl 0 rfl) ?_
        refine rgS C hH fs_RX2_22_19 dX2_choose__80 ?_
        refine lv_iconst (v := 5) hx hb dX2_choose__83 (by decide) ?_
        refine lv_iload_n hx hb dX2_choose__84 rfl (lv_at hl 1 rfl) ?_
        obtain ⟨q85, e85, h⟩ := tB h
        refine rcI C hH hl.1 (mX7_told l e85) cf_RX2_38 ro_1 (RR_of (by omega) (by decide)) rfl (rest := [.int v4, .int (v3 + (gI q52.2 20 (Int32.toNatClampNeg v1))), .int (v2 ||| (iShl 1 v1)), .int (v1 + 1), .ref (ad 19)]) rfl (Nat.le_of_ble_eq_true rfl) dX2_choose__85 ?_
        intro hz85 H locs hH
        refine lv_isub hx hb dX2_choose__88 ?_
        obtain ⟨q89, e89, h⟩ := tB h
        refine rcV C hH hl.1 (hr_X2_choose_ _ _ _ _ _ _ e89) cf_RX2_49 ro_19 (RR_of (by omega) (by decide)) rfl (rest := []) rfl (Nat.le_of_ble_eq_true rfl) dX2_choose__89 ?_
        intro H locs hH
        have h := Option.some.inj h
        subst h
        exact retV C hH dX2_choose__92
  · replace h := tF hc3 h
    refine lv_aload_n hx hb dX2_choose__6 rfl (lv_at hl 0 rfl) ?_
    refine lv_iload_n hx hb dX2_choose__7 rfl (lv_at hl 2 rfl) ?_
    refine lv_iload_n hx hb dX2_choose__8 rfl (lv_at hl 3 rfl) ?_
    obtain ⟨q9, e9, h⟩ := tB h
    refine rcI C hH hl.1 (mX2_isBetter l e9) cf_RX2_53 ro_19 (RR_of (by omega) (by decide)) rfl (rest := []) rfl (Nat.le_of_ble_eq_true rfl) dX2_choose__9 ?_
    intro hz9 H locs hH
    refine lv_if_eq (tgt := 25) hx hb dX2_choose__12 (by decide) (fun hc12 => ?_) (fun hc12 => ?_)
    · replace h := tT hc12 h
      have h := Option.some.inj h
      subst h
      exact retV C hH dX2_choose__25
    · replace h := tF hc12 h
      refine lv_aload_n hx hb dX2_choose__15 rfl (lv_at hl 0 rfl) ?_
      refine lv_iload_n hx hb dX2_choose__16 rfl (lv_at hl 2 rfl) ?_
      refine rpI C hH fp_RX2_42_19 rfl rfl dX2_choose__17 (fun H locs hH => ?_)
      refine lv_aload_n hx hb dX2_choose__20 rfl (lv_at hl 0 rfl) ?_
      refine lv_iload_n hx hb dX2_choose__21 rfl (lv_at hl 3 rfl) ?_
      refine rpI C hH fp_RX2_46_19 rfl rfl dX2_choose__22 (fun H locs hH => ?_)
      have h := Option.some.inj h
      subst h
      exact retV C hH dX2_choose__25
set_option maxHeartbeats 2000000 in
set_option maxRecDepth 20000 in
theorem mgX2_choose_ (l : Launch) {D : va_G} {ca : Nat → ClassId} {A : Nat → Prop} {ad : Nat → Nat} : ∀ n : Nat, (∀ (v1 : Int32) (v2 : Int32) (v3 : Int32) (v4 : Int32) (mm : Mm) (q : Unit × Mm), dX2_choose_ n v1 v2 v3 v4 mm = some q → Met l yX2_choose_ (wsOf yX2_choose_ cX2_choose_ 5 none) (rmk (3 + n)) (PcX WN ad ca WS D A [.ref (ad 19), .int v1, .int v2, .int v3, .int v4] mm) (QcV WN ad ca WS D A q) 0 0 A) := by
  intro n
  induction n with
  | zero => exact (fun v1 v2 v3 v4 mm q h => none_ne (show (none : Option (Unit × Mm)) = some q from h))
  | succ n ih => exact (fun v1 v2 v3 v4 mm q h => mbX2_choose_ l (by omega) ih h)
set_option maxHeartbeats 2000000 in
set_option maxRecDepth 20000 in
theorem mX2_choose_ (l : Launch) {D : va_G} {ca : Nat → ClassId} {A : Nat → Prop} {ad : Nat → Nat} (n : Nat) (v1 : Int32) (v2 : Int32) (v3 : Int32) (v4 : Int32) (mm : Mm) (q : Unit × Mm) (h : dX2_choose_ n v1 v2 v3 v4 mm = some q) : Met l yX2_choose_ (wsOf yX2_choose_ cX2_choose_ 5 none) (rmk (3 + n)) (PcX WN ad ca WS D A [.ref (ad 19), .int v1, .int v2, .int v3, .int v4] mm) (QcV WN ad ca WS D A q) 0 0 A := (mgX2_choose_ l n) v1 v2 v3 v4 mm q h
set_option maxHeartbeats 2000000 in
set_option maxRecDepth 20000 in
theorem mX2_choose (l : Launch) {D : va_G} {ca : Nat → ClassId} {A : Nat → Prop} {ad : Nat → Nat} {v1 : Int32} {mm : Mm} {q : Unit × Mm} (h : dX2_choose v1 mm = some q) : Met l yX2_choose (wsOf yX2_choose cX2_choose 2 none) (rmk 104) (PcX WN ad ca WS D A [.ref (ad 19), .int v1] mm) (QcV WN ad ca WS D A q) 0 0 A := by
  unfold dX2_choose at h
  refine ent (by decide) (Nat.le_of_ble_eq_true rfl) (fun p e s m args below meth c hargs C hH ls hl => ?_)
  have hx := C.1
  have hb := C.2.1
  have hl : lv_has ls 2 [(0, .ref (ad 19)), (1, .int v1)] := hl
  refine lv_aload_n hx hb dX2_choose_0 rfl (lv_at hl 0 rfl) ?_
  refine lv_iconst (v := 0) hx hb dX2_choose_1 (by decide) ?_
  refine rpI C hH fp_RX2_42_19 rfl rfl dX2_choose_2 (fun H locs hH => ?_)
  refine lv_aload_n hx hb dX2_choose_5 rfl (lv_at hl 0 rfl) ?_
  refine lv_iconst (v := 0) hx hb dX2_choose_6 (by decide) ?_
  refine rpI C hH fp_RX2_46_19 rfl rfl dX2_choose_7 (fun H locs hH => ?_)
  refine lv_aload_n hx hb dX2_choose_10 rfl (lv_at hl 0 rfl) ?_
  refine lv_iconst (v := 0) hx hb dX2_choose_11 (by decide) ?_
  refine lv_iconst (v := 0) hx hb dX2_choose_12 (by decide) ?_
  refine lv_iconst (v := 0) hx hb dX2_choose_13 (by decide) ?_
  refine lv_iload_n hx hb dX2_choose_14 rfl (lv_at hl 1 rfl) ?_
  obtain ⟨q15, e15, h⟩ := tB h
  refine rcV C hH hl.1 (mX2_choose_ l 100 _ _ _ _ _ _ e15) cf_RX2_49 ro_19 (RR_of (by decide) (by decide)) rfl (rest := []) rfl (Nat.le_of_ble_eq_true rfl) dX2_choose_15 ?_
  intro H locs hH
  have h := Option.some.inj h
  subst h
  exact retV C hH dX2_choose_18
set_option maxHeartbeats 2000000 in
set_option maxRecDepth 20000 in
theorem wX9_buys_27 (C : Cx D ca A p s m args meth c cX9_buys RX9 6 (some .int)) {q : Int32 × Mm} {mm : Mm} (h : DX9_buys_27 mm = some q) (hH : Hx WN ad ca WS D A s.heap mm H locs) (hl : lv_has ls 6 []) : W p l e (rmk 105) s m args below meth c H locs 0 0 (MQ below (QcI WN ad ca WS D A pzT q) args s 0 0 A) (F0 m 27 ls []) := by
  unfold DX9_buys_27 at h
  have hx := C.1
  have hb := C.2.1
  refine lv_iconst (v := (-1)) hx hb dX9_buys_27 (by decide) ?_
  have h := Option.some.inj h
  subst h
  exact retI C hH trivial dX9_buys_28
set_option maxHeartbeats 2000000 in
set_option maxRecDepth 20000 in
theorem wbX9_buys_58 (C : Cx D ca A p s m args meth c cX9_buys RX9 6 (some .int)) {q : Int32 × Mm} {k58 : Int32 → Int32 → Int32 → Int32 → Mm → Option (Int32 × Mm)} (hk58 : ∀ (v1 : Int32) (v2 : Int32) (v3 : Int32) (v5 : Int32) (mm : Mm), k58 v1 v2 v3 v5 mm = some q → ∀ (H : Heap) (locs : List Loc) (ls : Array Slot), Hx WN ad ca WS D A s.heap mm H locs → lv_has ls 6 [(0, .ref (ad 0)), (1, .int v1), (2, .int v2), (3, .int v3), (5, .int v5)] → W p l e (rmk 105) s m args below meth c H locs 0 0 (MQ below (QcI WN ad ca WS D A pzT q) args s 0 0 A) (F0 m 58 ls [])) {v1 : Int32} {v2 : Int32} {v3 : Int32} {v5 : Int32} {mm : Mm} (h : BX9_buys_58 k58 v1 v2 v3 v5 mm = some q) (hH : Hx WN ad ca WS D A s.heap mm H locs) (hl : lv_has ls 6 [(0, .ref (ad 0)), (1, .int v1), (2, .int v2), (3, .int v3), (5, .int v5)]) : W p l e (rmk 105) s m args below meth c H locs 0 0 (MQ below (QcI WN ad ca WS D A pzT q) args s 0 0 A) (F0 m 58 ls []) := by
  unfold BX9_buys_58 at h
  have hx := C.1
  have hb := C.2.1
  refine lv_iload hx hb dX9_buys_58 (lv_at hl 4 rfl) ?_
  refine lv_aload_n hx hb dX9_buys_60 rfl (lv_at hl 0 rfl) ?_
  refine rgS C hH fs_RX9_10_0 dX9_buys_61 ?_
  refine rgI C hH fi_RX9_177_1 dX9_buys_64 ?_
  refine lv_icmp_ge (tgt := 111) hx hb dX9_buys_67 (by decide) (fun hc67 => ?_) (fun hc67 => ?_)
  · replace h := tT hc67 h
    refine lv_aload_n hx hb dX9_buys_111 rfl (lv_at hl 0 rfl) ?_
    refine rgS C hH fs_RX9_35_0 dX9_buys_112 ?_
    refine lv_aload_n hx hb dX9_buys_115 rfl (lv_at hl 0 rfl) ?_
    refine rgS C hH fs_RX9_10_0 dX9_buys_116 ?_
    refine lv_bipush (v := 6) hx hb dX9_buys_119 (by decide) ?_
    refine lv_iload_n hx hb dX9_buys_121 rfl (lv_at hl 2 rfl) ?_
    obtain ⟨q122, e122, h⟩ := tB h
    refine rcI C hH hl.1 (mX7_told l e122) cf_RX9_98 ro_1 (RR_of (by decide) (by decide)) rfl (rest := [.ref (ad 19)]) rfl (Nat.le_of_ble_eq_true rfl) dX9_buys_122 ?_
    intro hz122 H locs hH
    obtain ⟨q125, e125, h⟩ := tB h
    refine rcV C hH hl.1 (mX2_choose l e125) cf_RX9_188 ro_19 (RR_of (by decide) (by decide)) rfl (rest := []) rfl (Nat.le_of_ble_eq_true rfl) dX9_buys_125 ?_
    intro H locs hH
    refine lv_iload_n hx hb dX9_buys_128 rfl (lv_at hl 3 rfl) ?_
    refine lv_if_ne (tgt := 142) hx hb dX9_buys_129 (by decide) (fun hc129 => ?_) (fun hc129 => ?_)
    · replace h := tF hc129 h
      refine lv_aload_n hx hb dX9_buys_142 rfl (lv_at hl 0 rfl) ?_
      refine rgS C hH fs_RX9_35_0 dX9_buys_143 ?_
      refine rgI C hH fi_RX9_195_19 dX9_buys_146 ?_
      have h := Option.some.inj h
      subst h
      exact retI C hH trivial dX9_buys_149
    · replace h := tT hc129 h
      refine lv_aload_n hx hb dX9_buys_132 rfl (lv_at hl 0 rfl) ?_
      refine rgS C hH fs_RX9_35_0 dX9_buys_133 ?_
      refine rgI C hH fi_RX9_192_19 dX9_buys_136 ?_
      refine lv_goto (tgt := 149) hx hb dX9_buys_139 (by decide) ?_
      have h := Option.some.inj h
      subst h
      exact retI C hH trivial dX9_buys_149
  · replace h := tF hc67 h
    refine lv_aload_n hx hb dX9_buys_70 rfl (lv_at hl 0 rfl) ?_
    refine rgS C hH fs_RX9_28_0 dX9_buys_71 ?_
    refine lv_aload_n hx hb dX9_buys_74 rfl (lv_at hl 0 rfl) ?_
    refine rgS C hH fs_RX9_62_0 dX9_buys_75 ?_
    refine lv_iload_n hx hb dX9_buys_78 rfl (lv_at hl 1 rfl) ?_
    obtain ⟨hi79, h⟩ := tC h
    refine raS C hH (o := 37) (k := (Int32.toNatClampNeg v1)) (by decide) (show WS 37 = .inr (4, 6, 38) from rfl) hi79 rfl dX9_buys_79 ?_
    refine lv_iload_n hx hb dX9_buys_80 rfl (lv_at hl 2 rfl) ?_
    refine lv_iload hx hb dX9_buys_81 (lv_at hl 4 rfl) ?_
    obtain ⟨q83, e83, h⟩ := tB h
    refine rcV C hH hl.1 (mX0_weigh l e83) cf_RX9_140 ro_17 (RR_of (by decide) (by decide)) rfl (rest := []) rfl (Nat.le_of_ble_eq_true rfl) dX9_buys_83 ?_
    intro H locs hH
    refine lv_aload_n hx hb dX9_buys_86 rfl (lv_at hl 0 rfl) ?_
    refine rgS C hH fs_RX9_35_0 dX9_buys_87 ?_
    refine lv_iload hx hb dX9_buys_90 (lv_at hl 4 rfl) ?_
    refine lv_aload_n hx hb dX9_buys_92 rfl (lv_at hl 0 rfl) ?_
    refine rgS C hH fs_RX9_28_0 dX9_buys_93 ?_
    refine lv_iload_n hx hb dX9_buys_96 rfl (lv_at hl 2 rfl) ?_
    refine lv_iload hx hb dX9_buys_97 (lv_at hl 4 rfl) ?_
    obtain ⟨q99, e99, h⟩ := tB h
    refine rcI C hH hl.1 (mX0_cutWorth l e99) cf_RX9_181 ro_17 (RR_of (by decide) (by decide)) rfl (rest := [.int v5, .ref (ad 19)]) rfl (Nat.le_of_ble_eq_true rfl) dX9_buys_99 ?_
    intro hz99 H locs hH
    obtain ⟨q102, e102, h⟩ := tB h
    refine rcV C hH hl.1 (mX2_offer l e102) cf_RX9_184 ro_19 (RR_of (by decide) (by decide)) rfl (rest := []) rfl (Nat.le_of_ble_eq_true rfl) dX9_buys_102 ?_
    intro H locs hH
    refine lv_iinc (v := (v5 + 1)) (lv' := [(5, .int (v5 + 1)), (0, .ref (ad 0)), (1, .int v1), (2, .int v2), (3, .int v3)]) hx hb dX9_buys_105 hl (k := 4) rfl rfl (by decide) rfl (fun ls hl => ?_)
    refine lv_goto (tgt := 58) hx hb dX9_buys_108 (by decide) ?_
    exact hk58 _ _ _ _ _ h _ _ _ hH (lv_sub hl [1, 2, 3, 4, 0] rfl)
set_option maxHeartbeats 2000000 in
set_option maxRecDepth 20000 in
theorem wX9_buys_58 (C : Cx D ca A p s m args meth c cX9_buys RX9 6 (some .int)) {q : Int32 × Mm} : ∀ (N : Nat) (v1 : Int32) (v2 : Int32) (v3 : Int32) (v5 : Int32) (mm : Mm), DX9_buys_58 N v1 v2 v3 v5 mm = some q → ∀ (H : Heap) (locs : List Loc) (ls : Array Slot), Hx WN ad ca WS D A s.heap mm H locs → lv_has ls 6 [(0, .ref (ad 0)), (1, .int v1), (2, .int v2), (3, .int v3), (5, .int v5)] → W p l e (rmk 105) s m args below meth c H locs 0 0 (MQ below (QcI WN ad ca WS D A pzT q) args s 0 0 A) (F0 m 58 ls []) := by
  intro N
  induction N with
  | zero =>
    intro v1 v2 v3 v5 mm h
    have h2 : (none : Option (Int32 × Mm)) = some q := h
    cases h2
  | succ N ih =>
    intro v1 v2 v3 v5 mm h H locs ls hH hl
    exact wbX9_buys_58 C ih h hH hl
set_option maxHeartbeats 2000000 in
set_option maxRecDepth 20000 in
theorem mX9_buys (l : Launch) {D : va_G} {ca : Nat → ClassId} {A : Nat → Prop} {ad : Nat → Nat} {v1 : Int32} {v2 : Int32} {v3 : Int32} {mm : Mm} {q : Int32 × Mm} (h : dX9_buys v1 v2 v3 mm = some q) : Met l yX9_buys (wsOf yX9_buys cX9_buys 6 (some .int)) (rmk 105) (PcX WN ad ca WS D A [.ref (ad 0), .int v1, .int v2, .int v3] mm) (QcI WN ad ca WS D A pzT q) 0 0 A := by
  unfold dX9_buys at h
  refine ent (by decide) (Nat.le_of_ble_eq_true rfl) (fun p e s m args below meth c hargs C hH ls hl => ?_)
  have hx := C.1
  have hb := C.2.1
  have hl : lv_has ls 6 [(0, .ref (ad 0)), (1, .int v1), (2, .int v2), (3, .int v3)] := hl
  refine lv_iload_n hx hb dX9_buys_0 rfl (lv_at hl 1 rfl) ?_
  obtain ⟨q1, e1, h⟩ := tB h
  refine rsI C hH hl.1 (mX9_isShelf l e1) cs_RX9_75 (RR_of (by decide) (by decide)) rfl (rest := []) rfl (Nat.le_of_ble_eq_true rfl) dX9_buys_1 ?_
  intro hz1 H locs hH
  refine lv_if_eq (tgt := 27) hx hb dX9_buys_4 (by decide) (fun hc4 => ?_) (fun hc4 => ?_)
  · replace h := tT hc4 h
    exact wX9_buys_27 C h hH (lv_sub hl [] rfl)
  · replace h := tF hc4 h
    refine lv_aload_n hx hb dX9_buys_7 rfl (lv_at hl 0 rfl) ?_
    refine rgS C hH fs_RX9_10_0 dX9_buys_8 ?_
    refine lv_bipush (v := 6) hx hb dX9_buys_11 (by decide) ?_
    refine lv_iload_n hx hb dX9_buys_13 rfl (lv_at hl 2 rfl) ?_
    obtain ⟨q14, e14, h⟩ := tB h
    refine rcI C hH hl.1 (mX7_holds l e14) cf_RX9_67 ro_1 (RR_of (by decide) (by decide)) rfl (rest := []) rfl (Nat.le_of_ble_eq_true rfl) dX9_buys_14 ?_
    intro hz14 H locs hH
    refine lv_if_eq (tgt := 27) hx hb dX9_buys_17 (by decide) (fun hc17 => ?_) (fun hc17 => ?_)
    · replace h := tT hc17 h
      exact wX9_buys_27 C h hH (lv_sub hl [] rfl)
    · replace h := tF hc17 h
      refine lv_iload_n hx hb dX9_buys_20 rfl (lv_at hl 3 rfl) ?_
      obtain ⟨q21, e21, h⟩ := tB h
      refine rsI C hH hl.1 (mX9_isPart l e21) cs_RX9_130 (RR_of (by decide) (by decide)) rfl (rest := []) rfl (Nat.le_of_ble_eq_true rfl) dX9_buys_21 ?_
      intro hz21 H locs hH
      refine lv_if_ne (tgt := 29) hx hb dX9_buys_24 (by decide) (fun hc24 => ?_) (fun hc24 => ?_)
      · replace h := tF hc24 h
        refine lv_aload_n hx hb dX9_buys_29 rfl (lv_at hl 0 rfl) ?_
        refine rgS C hH fs_RX9_62_0 dX9_buys_30 ?_
        refine lv_iload_n hx hb dX9_buys_33 rfl (lv_at hl 1 rfl) ?_
        obtain ⟨hi34, h⟩ := tC h
        refine raS C hH (o := 37) (k := (Int32.toNatClampNeg v1)) (by decide) (show WS 37 = .inr (4, 6, 38) from rfl) hi34 rfl dX9_buys_34 ?_
        obtain ⟨q35, e35, h⟩ := tB h
        refine rcI C hH hl.1 (mX8_bytesRefusal l e35) cf_RX9_79 (ro_sh (sh_of hi34)) (RR_of (by decide) (by decide)) rfl (rest := []) rfl (Nat.le_of_ble_eq_true rfl) dX9_buys_35 ?_
        intro hz35 H locs hH
        refine lv_istore (lv' := [(4, .int q35.1), (0, .ref (ad 0)), (1, .int v1), (2, .int v2), (3, .int v3)]) hx hb dX9_buys_38 hl (by decide) rfl (fun ls hl => ?_)
        refine lv_iload hx hb dX9_buys_40 (lv_at hl 0 rfl) ?_
        refine lv_if_eq (tgt := 48) hx hb dX9_buys_42 (by decide) (fun hc42 => ?_) (fun hc42 => ?_)
        · replace h := tT hc42 h
          refine lv_aload_n hx hb dX9_buys_48 rfl (lv_at hl 1 rfl) ?_
          refine rgS C hH fs_RX9_35_0 dX9_buys_49 ?_
          obtain ⟨q52, e52, h⟩ := tB h
          refine rcV C hH hl.1 (mX2_noOffers l e52) cf_RX9_174 ro_19 (RR_of (by decide) (by decide)) rfl (rest := []) rfl (Nat.le_of_ble_eq_true rfl) dX9_buys_52 ?_
          intro H locs hH
          refine lv_iconst (v := 0) hx hb dX9_buys_55 (by decide) ?_
          refine lv_istore (lv' := [(5, .int 0), (4, .int q35.1), (0, .ref (ad 0)), (1, .int v1), (2, .int v2), (3, .int v3)]) hx hb dX9_buys_56 hl (by decide) rfl (fun ls hl => ?_)
          exact wX9_buys_58 C FU _ _ _ _ _ h _ _ _ hH (lv_sub hl [2, 3, 4, 5, 0] rfl)
        · replace h := tF hc42 h
          refine lv_iload hx hb dX9_buys_45 (lv_at hl 0 rfl) ?_
          have h := Option.some.inj h
          subst h
          exact retI C hH trivial dX9_buys_47
      · replace h := tT hc24 h
        exact wX9_buys_27 C h hH (lv_sub hl [] rfl)
set_option maxHeartbeats 2000000 in
set_option maxRecDepth 20000 in
theorem mX10_gainOf (l : Launch) {D : va_G} {ca : Nat → ClassId} {A : Nat → Prop} {ad : Nat → Nat} {v1 : Int32} {v2 : Int32} {v3 : Int32} {mm : Mm} {q : Int32 × Mm} (h : dX10_gainOf v1 v2 v3 mm = some q) : Met l yX10_gainOf (wsOf yX10_gainOf cX10_gainOf 5 (some .int)) (rmk 107) (PcX WN ad ca WS D A [.ref (ad 58), .int v1, .int v2, .int v3] mm) (QcI WN ad ca WS D A pzT q) 0 0 A := by
  unfold dX10_gainOf at h
  refine ent (by decide) (Nat.le_of_ble_eq_true rfl) (fun p e s m args below meth c hargs C hH ls hl => ?_)
  have hx := C.1
  have hb := C.2.1
  have hl : lv_has ls 5 [(0, .ref (ad 58)), (1, .int v1), (2, .int v2), (3, .int v3)] := hl
  refine lv_aload_n hx hb dX10_gainOf_0 rfl (lv_at hl 0 rfl) ?_
  refine lv_iload_n hx hb dX10_gainOf_1 rfl (lv_at hl 1 rfl) ?_
  refine lv_iload_n hx hb dX10_gainOf_2 rfl (lv_at hl 2 rfl) ?_
  refine lv_iload_n hx hb dX10_gainOf_3 rfl (lv_at hl 3 rfl) ?_
  obtain ⟨q4, e4, h⟩ := tB h
  refine rcV C hH hl.1 (mX10_weighs l e4) cf_RX10_227 ro_58 (RR_of (by decide) (by decide)) rfl (rest := []) rfl (Nat.le_of_ble_eq_true rfl) dX10_gainOf_4 ?_
  intro H locs hH
  refine lv_aload_n hx hb dX10_gainOf_7 rfl (lv_at hl 0 rfl) ?_
  refine rgS C hH fs_RX10_9_58 dX10_gainOf_8 ?_
  refine lv_bipush (v := 34) hx hb dX10_gainOf_11 (by decide) ?_
  refine lv_iload_n hx hb dX10_gainOf_13 rfl (lv_at hl 3 rfl) ?_
  refine lv_iadd hx hb dX10_gainOf_14 ?_
  obtain ⟨hi15, h⟩ := tC h
  refine raI C hH (k := (Int32.toNatClampNeg (34 + v3))) (by decide) (show WS 59 = .inr (0, 62, 0) from rfl) hi15 rfl dX10_gainOf_15 ?_
  refine lv_istore (lv' := [(4, .int (gI q4.2 59 (Int32.toNatClampNeg (34 + v3)))), (0, .ref (ad 58)), (1, .int v1), (2, .int v2), (3, .int v3)]) hx hb dX10_gainOf_16 hl (by decide) rfl (fun ls hl => ?_)
  refine lv_aload_n hx hb dX10_gainOf_18 rfl (lv_at hl 1 rfl) ?_
  refine lv_iload_n hx hb dX10_gainOf_19 rfl (lv_at hl 3 rfl) ?_
  refine lv_iload_n hx hb dX10_gainOf_20 rfl (lv_at hl 4 rfl) ?_
  refine lv_iload hx hb dX10_gainOf_21 (lv_at hl 0 rfl) ?_
  obtain ⟨q23, e23, h⟩ := tB h
  refine rcL C hH hl.1 (mX10_worthAll l e23) cf_RX10_242 ro_58 (RR_of (by decide) (by decide)) rfl (rest := []) rfl (Nat.le_of_ble_eq_true rfl) dX10_gainOf_23 ?_
  intro H locs hH
  refine lv_aload_n hx hb dX10_gainOf_26 rfl (lv_at hl 1 rfl) ?_
  obtain ⟨q27, e27, h⟩ := tB h
  refine rcL C hH hl.1 (mX10_weightAll l e27) cf_RX10_231 ro_58 (RR_of (by decide) (by decide)) rfl (rest := [.long q23.1]) rfl (Nat.le_of_ble_eq_true rfl) dX10_gainOf_27 ?_
  intro H locs hH
  obtain ⟨hz30, h⟩ := tN h
  refine lv_ldiv hx hb dX10_gainOf_30 hz30 ?_
  refine lv_l2i' hx hb dX10_gainOf_31 ?_
  refine lv_iload hx hb dX10_gainOf_32 (lv_at hl 0 rfl) ?_
  refine lv_isub hx hb dX10_gainOf_34 ?_
  have h := Option.some.inj h
  subst h
  exact retI C hH trivial dX10_gainOf_35
set_option maxHeartbeats 2000000 in
set_option maxRecDepth 20000 in
theorem mX10_isIn (l : Launch) {D : va_G} {ca : Nat → ClassId} {A : Nat → Prop} {ad : Nat → Nat} {v0 : Int32} {v1 : Int32} {mm : Mm} {q : Int32 × Mm} (h : dX10_isIn v0 v1 mm = some q) : Met l yX10_isIn (wsOf yX10_isIn cX10_isIn 2 (some .boolean)) (rmk 1) (PcX WN ad ca WS D A [.int v0, .int v1] mm) (QcI WN ad ca WS D A pzZ q) 0 0 A := by
  unfold dX10_isIn at h
  refine ent (by decide) (Nat.le_of_ble_eq_true rfl) (fun p e s m args below meth c hargs C hH ls hl => ?_)
  have hx := C.1
  have hb := C.2.1
  have hl : lv_has ls 2 [(0, .int v0), (1, .int v1)] := hl
  refine lv_iload_n hx hb dX10_isIn_0 rfl (lv_at hl 0 rfl) ?_
  refine lv_iload_n hx hb dX10_isIn_1 rfl (lv_at hl 1 rfl) ?_
  refine lv_ishr' hx hb dX10_isIn_2 ?_
  refine lv_iconst (v := 1) hx hb dX10_isIn_3 (by decide) ?_
  refine lv_iand hx hb dX10_isIn_4 ?_
  refine lv_iconst (v := 1) hx hb dX10_isIn_5 (by decide) ?_
  refine lv_icmp_ne (tgt := 13) hx hb dX10_isIn_6 (by decide) (fun hc6 => ?_) (fun hc6 => ?_)
  · replace h := tF hc6 h
    refine lv_iconst (v := 0) hx hb dX10_isIn_13 (by decide) ?_
    have h := Option.some.inj h
    subst h
    exact retZ C hH (Or.inl rfl) dX10_isIn_14
  · replace h := tT hc6 h
    refine lv_iconst (v := 1) hx hb dX10_isIn_9 (by decide) ?_
    refine lv_goto (tgt := 14) hx hb dX10_isIn_10 (by decide) ?_
    have h := Option.some.inj h
    subst h
    exact retZ C hH (Or.inr rfl) dX10_isIn_14
set_option maxHeartbeats 2000000 in
set_option maxRecDepth 20000 in
theorem wX10_isFree_22 (C : Cx D ca A p s m args meth c cX10_isFree RX10 2 (some .boolean)) {q : Int32 × Mm} {mm : Mm} (h : DX10_isFree_22 mm = some q) (hH : Hx WN ad ca WS D A s.heap mm H locs) (hl : lv_has ls 2 []) : W p l e (rmk 1) s m args below meth c H locs 0 0 (MQ below (QcI WN ad ca WS D A pzZ q) args s 0 0 A) (F0 m 22 ls []) := by
  unfold DX10_isFree_22 at h
  have hx := C.1
  have hb := C.2.1
  refine lv_iconst (v := 0) hx hb dX10_isFree_22 (by decide) ?_
  have h := Option.some.inj h
  subst h
  exact retZ C hH (Or.inl rfl) dX10_isFree_23
set_option maxHeartbeats 2000000 in
set_option maxRecDepth 20000 in
theorem mX10_isFree (l : Launch) {D : va_G} {ca : Nat → ClassId} {A : Nat → Prop} {ad : Nat → Nat} {v1 : Int32} {mm : Mm} {q : Int32 × Mm} (h : dX10_isFree v1 mm = some q) : Met l yX10_isFree (wsOf yX10_isFree cX10_isFree 2 (some .boolean)) (rmk 1) (PcX WN ad ca WS D A [.ref (ad 58), .int v1] mm) (QcI WN ad ca WS D A pzZ q) 0 0 A := by
  unfold dX10_isFree at h
  refine ent (by decide) (Nat.le_of_ble_eq_true rfl) (fun p e s m args below meth c hargs C hH ls hl => ?_)
  have hx := C.1
  have hb := C.2.1
  have hl : lv_has ls 2 [(0, .ref (ad 58)), (1, .int v1)] := hl
  refine lv_aload_n hx hb dX10_isFree_0 rfl (lv_at hl 0 rfl) ?_
  refine rgS C hH fs_RX10_22_58 dX10_isFree_1 ?_
  refine lv_iload_n hx hb dX10_isFree_4 rfl (lv_at hl 1 rfl) ?_
  obtain ⟨hi5, h⟩ := tC h
  refine raI C hH (k := (Int32.toNatClampNeg v1)) (by decide) (show WS 63 = .inr (0, 10, 0) from rfl) hi5 rfl dX10_isFree_5 ?_
  refine lv_if_ge (tgt := 22) hx hb dX10_isFree_6 (by decide) (fun hc6 => ?_) (fun hc6 => ?_)
  · replace h := tT hc6 h
    exact wX10_isFree_22 C h hH (lv_sub hl [] rfl)
  · replace h := tF hc6 h
    refine lv_aload_n hx hb dX10_isFree_9 rfl (lv_at hl 0 rfl) ?_
    refine rgS C hH fs_RX10_25_58 dX10_isFree_10 ?_
    refine lv_iload_n hx hb dX10_isFree_13 rfl (lv_at hl 1 rfl) ?_
    obtain ⟨hi14, h⟩ := tC h
    refine raZ C hH (k := (Int32.toNatClampNeg v1)) (by decide) (show WS 64 = .inr (2, 10, 0) from rfl) hi14 rfl dX10_isFree_14 ?_
    refine lv_if_ne (tgt := 22) hx hb dX10_isFree_15 (by decide) (fun hc15 => ?_) (fun hc15 => ?_)
    · replace h := tF hc15 h
      exact wX10_isFree_22 C h hH (lv_sub hl [] rfl)
    · replace h := tT hc15 h
      refine lv_iconst (v := 1) hx hb dX10_isFree_18 (by decide) ?_
      refine lv_goto (tgt := 23) hx hb dX10_isFree_19 (by decide) ?_
      have h := Option.some.inj h
      subst h
      exact retZ C hH (Or.inr rfl) dX10_isFree_23
set_option maxHeartbeats 2000000 in
set_option maxRecDepth 20000 in
theorem wbX10_bitsOf_4 (C : Cx D ca A p s m args meth c cX10_bitsOf RX10 3 (some .int)) {q : Int32 × Mm} {k4 : Int32 → Int32 → Int32 → Mm → Option (Int32 × Mm)} (hk4 : ∀ (v0 : Int32) (v1 : Int32) (v2 : Int32) (mm : Mm), k4 v0 v1 v2 mm = some q → ∀ (H : Heap) (locs : List Loc) (ls : Array Slot), Hx WN ad ca WS D A s.heap mm H locs → lv_has ls 3 [(0, .int v0), (1, .int v1), (2, .int v2)] → W p l e (rmk 1) s m args below meth c H locs 0 0 (MQ below (QcI WN ad ca WS D A pzT q) args s 0 0 A) (F0 m 4 ls [])) {v0 : Int32} {v1 : Int32} {v2 : Int32} {mm : Mm} (h : BX10_bitsOf_4 k4 v0 v1 v2 mm = some q) (hH : Hx WN ad ca WS D A s.heap mm H locs) (hl : lv_has ls 3 [(0, .int v0), (1, .int v1), (2, .int v2)]) : W p l e (rmk 1) s m args below meth c H locs 0 0 (MQ below (QcI WN ad ca WS D A pzT q) args s 0 0 A) (F0 m 4 ls []) := by
  unfold BX10_bitsOf_4 at h
  have hx := C.1
  have hb := C.2.1
  refine lv_iload_n hx hb dX10_bitsOf_4 rfl (lv_at hl 2 rfl) ?_
  refine lv_bipush (v := 10) hx hb dX10_bitsOf_5 (by decide) ?_
  refine lv_icmp_ge (tgt := 24) hx hb dX10_bitsOf_7 (by decide) (fun hc7 => ?_) (fun hc7 => ?_)
  · replace h := tT hc7 h
    refine lv_iload_n hx hb dX10_bitsOf_24 rfl (lv_at hl 1 rfl) ?_
    have h := Option.some.inj h
    subst h
    exact retI C hH trivial dX10_bitsOf_25
  · replace h := tF hc7 h
    refine lv_iload_n hx hb dX10_bitsOf_10 rfl (lv_at hl 1 rfl) ?_
    refine lv_iload_n hx hb dX10_bitsOf_11 rfl (lv_at hl 0 rfl) ?_
    refine lv_iload_n hx hb dX10_bitsOf_12 rfl (lv_at hl 2 rfl) ?_
    refine lv_ishr' hx hb dX10_bitsOf_13 ?_
    refine lv_iconst (v := 1) hx hb dX10_bitsOf_14 (by decide) ?_
    refine lv_iand hx hb dX10_bitsOf_15 ?_
    refine lv_iadd hx hb dX10_bitsOf_16 ?_
    refine lv_istore_n (lv' := [(1, .int (v1 + ((iShr v0 v2) &&& 1))), (0, .int v0), (2, .int v2)]) hx hb dX10_bitsOf_17 rfl hl (by decide) rfl (fun ls hl => ?_)
    refine lv_iinc (v := (v2 + 1)) (lv' := [(2, .int (v2 + 1)), (1, .int (v1 + ((iShr v0 v2) &&& 1))), (0, .int v0)]) hx hb dX10_bitsOf_18 hl (k := 2) rfl rfl (by decide) rfl (fun ls hl => ?_)
    refine lv_goto (tgt := 4) hx hb dX10_bitsOf_21 (by decide) ?_
    exact hk4 _ _ _ _ h _ _ _ hH (lv_sub hl [2, 1, 0] rfl)
set_option maxHeartbeats 2000000 in
set_option maxRecDepth 20000 in
theorem wX10_bitsOf_4 (C : Cx D ca A p s m args meth c cX10_bitsOf RX10 3 (some .int)) {q : Int32 × Mm} : ∀ (N : Nat) (v0 : Int32) (v1 : Int32) (v2 : Int32) (mm : Mm), DX10_bitsOf_4 N v0 v1 v2 mm = some q → ∀ (H : Heap) (locs : List Loc) (ls : Array Slot), Hx WN ad ca WS D A s.heap mm H locs → lv_has ls 3 [(0, .int v0), (1, .int v1), (2, .int v2)] → W p l e (rmk 1) s m args below meth c H locs 0 0 (MQ below (QcI WN ad ca WS D A pzT q) args s 0 0 A) (F0 m 4 ls []) := by
  intro N
  induction N with
  | zero =>
    intro v0 v1 v2 mm h
    have h2 : (none : Option (Int32 × Mm)) = some q := h
    cases h2
  | succ N ih =>
    intro v0 v1 v2 mm h H locs ls hH hl
    exact wbX10_bitsOf_4 C ih h hH hl
set_option maxHeartbeats 2000000 in
set_option maxRecDepth 20000 in
theorem mX10_bitsOf (l : Launch) {D : va_G} {ca : Nat → ClassId} {A : Nat → Prop} {ad : Nat → Nat} {v0 : Int32} {mm : Mm} {q : Int32 × Mm} (h : dX10_bitsOf v0 mm = some q) : Met l yX10_bitsOf (wsOf yX10_bitsOf cX10_bitsOf 3 (some .int)) (rmk 1) (PcX WN ad ca WS D A [.int v0] mm) (QcI WN ad ca WS D A pzT q) 0 0 A := by
  unfold dX10_bitsOf at h
  refine ent (by decide) (Nat.le_of_ble_eq_true rfl) (fun p e s m args below meth c hargs C hH ls hl => ?_)
  have hx := C.1
  have hb := C.2.1
  have hl : lv_has ls 3 [(0, .int v0)] := hl
  refine lv_iconst (v := 0) hx hb dX10_bitsOf_0 (by decide) ?_
  refine lv_istore_n (lv' := [(1, .int 0), (0, .int v0)]) hx hb dX10_bitsOf_1 rfl hl (by decide) rfl (fun ls hl => ?_)
  refine lv_iconst (v := 0) hx hb dX10_bitsOf_2 (by decide) ?_
  refine lv_istore_n (lv' := [(2, .int 0), (1, .int 0), (0, .int v0)]) hx hb dX10_bitsOf_3 rfl hl (by decide) rfl (fun ls hl => ?_)
  exact wX10_bitsOf_4 C FU _ _ _ _ h _ _ _ hH (lv_sub hl [2, 1, 0] rfl)
set_option maxHeartbeats 2000000 in
set_option maxRecDepth 20000 in
theorem wX10_buys_28 (C : Cx D ca A p s m args meth c cX10_buys RX10 11 (some .int)) {q : Int32 × Mm} {mm : Mm} (h : DX10_buys_28 mm = some q) (hH : Hx WN ad ca WS D A s.heap mm H locs) (hl : lv_has ls 11 []) : W p l e (rmk 108) s m args below meth c H locs 0 0 (MQ below (QcI WN ad ca WS D A pzT q) args s 0 0 A) (F0 m 28 ls []) := by
  unfold DX10_buys_28 at h
  have hx := C.1
  have hb := C.2.1
  refine lv_iconst (v := (-1)) hx hb dX10_buys_28 (by decide) ?_
  have h := Option.some.inj h
  subst h
  exact retI C hH trivial dX10_buys_29
set_option maxHeartbeats 2000000 in
set_option maxRecDepth 20000 in
theorem wX10_buys_236 (C : Cx D ca A p s m args meth c cX10_buys RX10 11 (some .int)) {q : Int32 × Mm} {k86 : Int32 → Int32 → Int32 → Int32 → Int32 → Mm → Option (Int32 × Mm)} (hk86 : ∀ (v2 : Int32) (v3 : Int32) (v4 : Int32) (v5 : Int32) (v6 : Int32) (mm : Mm), k86 v2 v3 v4 v5 v6 mm = some q → ∀ (H : Heap) (locs : List Loc) (ls : Array Slot), Hx WN ad ca WS D A s.heap mm H locs → lv_has ls 11 [(0, .ref (ad 58)), (2, .int v2), (3, .int v3), (4, .int v4), (5, .int v5), (6, .int v6)] → W p l e (rmk 108) s m args below meth c H locs 0 0 (MQ below (QcI WN ad ca WS D A pzT q) args s 0 0 A) (F0 m 86 ls [])) {v2 : Int32} {v3 : Int32} {v4 : Int32} {v5 : Int32} {v6 : Int32} {mm : Mm} (h : DX10_buys_236 k86 v2 v3 v4 v5 v6 mm = some q) (hH : Hx WN ad ca WS D A s.heap mm H locs) (hl : lv_has ls 11 [(0, .ref (ad 58)), (2, .int v2), (3, .int v3), (4, .int v4), (5, .int v5), (6, .int v6)]) : W p l e (rmk 108) s m args below meth c H locs 0 0 (MQ below (QcI WN ad ca WS D A pzT q) args s 0 0 A) (F0 m 236 ls []) := by
  unfold DX10_buys_236 at h
  have hx := C.1
  have hb := C.2.1
  refine lv_iinc (v := (v6 + 1)) (lv' := [(6, .int (v6 + 1)), (0, .ref (ad 58)), (2, .int v2), (3, .int v3), (4, .int v4), (5, .int v5)]) hx hb dX10_buys_236 hl (k := 5) rfl rfl (by decide) rfl (fun ls hl => ?_)
  refine lv_goto (tgt := 86) hx hb dX10_buys_239 (by decide) ?_
  exact hk86 _ _ _ _ _ _ h _ _ _ hH (lv_sub hl [1, 2, 3, 4, 5, 0] rfl)
set_option maxHeartbeats 2000000 in
set_option maxRecDepth 20000 in
theorem wX10_buys_228 (C : Cx D ca A p s m args meth c cX10_buys RX10 11 (some .int)) {q : Int32 × Mm} {k86 : Int32 → Int32 → Int32 → Int32 → Int32 → Mm → Option (Int32 × Mm)} (hk86 : ∀ (v2 : Int32) (v3 : Int32) (v4 : Int32) (v5 : Int32) (v6 : Int32) (mm : Mm), k86 v2 v3 v4 v5 v6 mm = some q → ∀ (H : Heap) (locs : List Loc) (ls : Array Slot), Hx WN ad ca WS D A s.heap mm H locs → lv_has ls 11 [(0, .ref (ad 58)), (2, .int v2), (3, .int v3), (4, .int v4), (5, .int v5), (6, .int v6)] → W p l e (rmk 108) s m args below meth c H locs 0 0 (MQ below (QcI WN ad ca WS D A pzT q) args s 0 0 A) (F0 m 86 ls [])) {v2 : Int32} {v3 : Int32} {v6 : Int32} {v8 : Int32} {mm : Mm} (h : DX10_buys_228 k86 v2 v3 v6 v8 mm = some q) (hH : Hx WN ad ca WS D A s.heap mm H locs) (hl : lv_has ls 11 [(0, .ref (ad 58)), (2, .int v2), (3, .int v3), (6, .int v6), (8, .int v8)]) : W p l e (rmk 108) s m args below meth c H locs 0 0 (MQ below (QcI WN ad ca WS D A pzT q) args s 0 0 A) (F0 m 228 ls []) := by
  unfold DX10_buys_228 at h
  have hx := C.1
  have hb := C.2.1
  refine lv_iload hx hb dX10_buys_228 (lv_at hl 4 rfl) ?_
  refine lv_istore (lv' := [(5, .int v8), (0, .ref (ad 58)), (2, .int v2), (3, .int v3), (6, .int v6), (8, .int v8)]) hx hb dX10_buys_230 hl (by decide) rfl (fun ls hl => ?_)
  refine lv_iload hx hb dX10_buys_232 (lv_at hl 4 rfl) ?_
  refine lv_istore (lv' := [(4, .int v6), (5, .int v8), (0, .ref (ad 58)), (2, .int v2), (3, .int v3), (6, .int v6), (8, .int v8)]) hx hb dX10_buys_234 hl (by decide) rfl (fun ls hl => ?_)
  exact wX10_buys_236 C hk86 h hH (lv_sub hl [2, 3, 4, 0, 1, 5] rfl)
set_option maxHeartbeats 2000000 in
set_option maxRecDepth 20000 in
theorem wX10_buys_176 (C : Cx D ca A p s m args meth c cX10_buys RX10 11 (some .int)) {q : Int32 × Mm} {k86 : Int32 → Int32 → Int32 → Int32 → Int32 → Mm → Option (Int32 × Mm)} (hk86 : ∀ (v2 : Int32) (v3 : Int32) (v4 : Int32) (v5 : Int32) (v6 : Int32) (mm : Mm), k86 v2 v3 v4 v5 v6 mm = some q → ∀ (H : Heap) (locs : List Loc) (ls : Array Slot), Hx WN ad ca WS D A s.heap mm H locs → lv_has ls 11 [(0, .ref (ad 58)), (2, .int v2), (3, .int v3), (4, .int v4), (5, .int v5), (6, .int v6)] → W p l e (rmk 108) s m args below meth c H locs 0 0 (MQ below (QcI WN ad ca WS D A pzT q) args s 0 0 A) (F0 m 86 ls [])) {k109 : Int32 → Int32 → Int32 → Int32 → Int32 → Int32 → Int32 → Int32 → Int32 → Mm → Option (Int32 × Mm)} (hk109 : ∀ (v2 : Int32) (v3 : Int32) (v4 : Int32) (v5 : Int32) (v6 : Int32) (v7 : Int32) (v8 : Int32) (v9 : Int32) (v10 : Int32) (mm : Mm), k109 v2 v3 v4 v5 v6 v7 v8 v9 v10 mm = some q → ∀ (H : Heap) (locs : List Loc) (ls : Array Slot), Hx WN ad ca WS D A s.heap mm H locs → lv_has ls 11 [(0, .ref (ad 58)), (2, .int v2), (3, .int v3), (4, .int v4), (5, .int v5), (6, .int v6), (7, .int v7), (8, .int v8), (9, .int v9), (10, .int v10)] → W p l e (rmk 108) s m args below meth c H locs 0 0 (MQ below (QcI WN ad ca WS D A pzT q) args s 0 0 A) (F0 m 109 ls [])) {v2 : Int32} {v3 : Int32} {v4 : Int32} {v5 : Int32} {v6 : Int32} {v7 : Int32} {v8 : Int32} {v9 : Int32} {v10 : Int32} {mm : Mm} (h : DX10_buys_176 k86 k109 v2 v3 v4 v5 v6 v7 v8 v9 v10 mm = some q) (hH : Hx WN ad ca WS D A s.heap mm H locs) (hl : lv_has ls 11 [(0, .ref (ad 58)), (2, .int v2), (3, .int v3), (4, .int v4), (5, .int v5), (6, .int v6), (7, .int v7), (8, .int v8), (9, .int v9), (10, .int v10)]) : W p l e (rmk 108) s m args below meth c H locs 0 0 (MQ below (QcI WN ad ca WS D A pzT q) args s 0 0 A) (F0 m 176 ls []) := by
  unfold DX10_buys_176 at h
  have hx := C.1
  have hb := C.2.1
  refine lv_iinc (v := (v10 + 1)) (lv' := [(10, .int (v10 + 1)), (0, .ref (ad 58)), (2, .int v2), (3, .int v3), (4, .int v4), (5, .int v5), (6, .int v6), (7, .int v7), (8, .int v8), (9, .int v9)]) hx hb dX10_buys_176 hl (k := 9) rfl rfl (by decide) rfl (fun ls hl => ?_)
  refine lv_goto (tgt := 109) hx hb dX10_buys_179 (by decide) ?_
  exact hk109 _ _ _ _ _ _ _ _ _ _ h _ _ _ hH (lv_sub hl [1, 2, 3, 4, 5, 6, 7, 8, 9, 0] rfl)
set_option maxHeartbeats 2000000 in
set_option maxRecDepth 20000 in
theorem wX10_buys_147 (C : Cx D ca A p s m args meth c cX10_buys RX10 11 (some .int)) {q : Int32 × Mm} {k86 : Int32 → Int32 → Int32 → Int32 → Int32 → Mm → Option (Int32 × Mm)} (hk86 : ∀ (v2 : Int32) (v3 : Int32) (v4 : Int32) (v5 : Int32) (v6 : Int32) (mm : Mm), k86 v2 v3 v4 v5 v6 mm = some q → ∀ (H : Heap) (locs : List Loc) (ls : Array Slot), Hx WN ad ca WS D A s.heap mm H locs → lv_has ls 11 [(0, .ref (ad 58)), (2, .int v2), (3, .int v3), (4, .int v4), (5, .int v5), (6, .int v6)] → W p l e (rmk 108) s m args below meth c H locs 0 0 (MQ below (QcI WN ad ca WS D A pzT q) args s 0 0 A) (F0 m 86 ls [])) {k109 : Int32 → Int32 → Int32 → Int32 → Int32 → Int32 → Int32 → Int32 → Int32 → Mm → Option (Int32 × Mm)} (hk109 : ∀ (v2 : Int32) (v3 : Int32) (v4 : Int32) (v5 : Int32) (v6 : Int32) (v7 : Int32) (v8 : Int32) (v9 : Int32) (v10 : Int32) (mm : Mm), k109 v2 v3 v4 v5 v6 v7 v8 v9 v10 mm = some q → ∀ (H : Heap) (locs : List Loc) (ls : Array Slot), Hx WN ad ca WS D A s.heap mm H locs → lv_has ls 11 [(0, .ref (ad 58)), (2, .int v2), (3, .int v3), (4, .int v4), (5, .int v5), (6, .int v6), (7, .int v7), (8, .int v8), (9, .int v9), (10, .int v10)] → W p l e (rmk 108) s m args below meth c H locs 0 0 (MQ below (QcI WN ad ca WS D A pzT q) args s 0 0 A) (F0 m 109 ls [])) {v2 : Int32} {v3 : Int32} {v4 : Int32} {v5 : Int32} {v6 : Int32} {v7 : Int32} {v8 : Int32} {v10 : Int32} {s0 : Int32} {mm : Mm} (h : DX10_buys_147 k86 k109 v2 v3 v4 v5 v6 v7 v8 v10 s0 mm = some q) (hH : Hx WN ad ca WS D A s.heap mm H locs) (hl : lv_has ls 11 [(0, .ref (ad 58)), (2, .int v2), (3, .int v3), (4, .int v4), (5, .int v5), (6, .int v6), (7, .int v7), (8, .int v8), (10, .int v10)]) : W p l e (rmk 108) s m args below meth c H locs 0 0 (MQ below (QcI WN ad ca WS D A pzT q) args s 0 0 A) (F0 m 147 ls [.int s0]) := by
  unfold DX10_buys_147 at h
  have hx := C.1
  have hb := C.2.1
  refine lv_istore (lv' := [(9, .int s0), (0, .ref (ad 58)), (2, .int v2), (3, .int v3), (4, .int v4), (5, .int v5), (6, .int v6), (7, .int v7), (8, .int v8), (10, .int v10)]) hx hb dX10_buys_147 hl (by decide) rfl (fun ls hl => ?_)
  refine lv_iload hx hb dX10_buys_149 (lv_at hl 7 rfl) ?_
  refine lv_aload_n hx hb dX10_buys_151 rfl (lv_at hl 1 rfl) ?_
  refine rgS C hH fs_RX10_9_58 dX10_buys_152 ?_
  refine lv_bipush (v := 34) hx hb dX10_buys_155 (by decide) ?_
  refine lv_iload hx hb dX10_buys_157 (lv_at hl 9 rfl) ?_
  refine lv_iadd hx hb dX10_buys_159 ?_
  obtain ⟨hi160, h⟩ := tC h
  refine raI C hH (k := (Int32.toNatClampNeg (34 + v10))) (by decide) (show WS 59 = .inr (0, 62, 0) from rfl) hi160 rfl dX10_buys_160 ?_
  refine lv_iadd hx hb dX10_buys_161 ?_
  refine lv_istore (lv' := [(7, .int (v7 + (gI mm 59 (Int32.toNatClampNeg (34 + v10))))), (9, .int s0), (0, .ref (ad 58)), (2, .int v2), (3, .int v3), (4, .int v4), (5, .int v5), (6, .int v6), (8, .int v8), (10, .int v10)]) hx hb dX10_buys_162 hl (by decide) rfl (fun ls hl => ?_)
  refine lv_iload hx hb dX10_buys_164 (lv_at hl 8 rfl) ?_
  refine lv_aload_n hx hb dX10_buys_166 rfl (lv_at hl 2 rfl) ?_
  refine rgS C hH fs_RX10_42_58 dX10_buys_167 ?_
  refine lv_iload hx hb dX10_buys_170 (lv_at hl 9 rfl) ?_
  obtain ⟨hi172, h⟩ := tC h
  refine raI C hH (k := (Int32.toNatClampNeg v10)) (by decide) (show WS 69 = .inr (0, 10, 0) from rfl) hi172 rfl dX10_buys_172 ?_
  refine lv_iadd hx hb dX10_buys_173 ?_
  refine lv_istore (lv' := [(8, .int (v8 + (gI mm 69 (Int32.toNatClampNeg v10)))), (7, .int (v7 + (gI mm 59 (Int32.toNatClampNeg (34 + v10))))), (9, .int s0), (0, .ref (ad 58)), (2, .int v2), (3, .int v3), (4, .int v4), (5, .int v5), (6, .int v6), (10, .int v10)]) hx hb dX10_buys_174 hl (by decide) rfl (fun ls hl => ?_)
  exact wX10_buys_176 C hk86 hk109 h hH (lv_sub hl [3, 4, 5, 6, 7, 8, 1, 0, 2, 9] rfl)
set_option maxHeartbeats 2000000 in
set_option maxRecDepth 20000 in
theorem wX10_buys_146 (C : Cx D ca A p s m args meth c cX10_buys RX10 11 (some .int)) {q : Int32 × Mm} {k86 : Int32 → Int32 → Int32 → Int32 → Int32 → Mm → Option (Int32 × Mm)} (hk86 : ∀ (v2 : Int32) (v3 : Int32) (v4 : Int32) (v5 : Int32) (v6 : Int32) (mm : Mm), k86 v2 v3 v4 v5 v6 mm = some q → ∀ (H : Heap) (locs : List Loc) (ls : Array Slot), Hx WN ad ca WS D A s.heap mm H locs → lv_has ls 11 [(0, .ref (ad 58)), (2, .int v2), (3, .int v3), (4, .int v4), (5, .int v5), (6, .int v6)] → W p l e (rmk 108) s m args below meth c H locs 0 0 (MQ below (QcI WN ad ca WS D A pzT q) args s 0 0 A) (F0 m 86 ls [])) {k109 : Int32 → Int32 → Int32 → Int32 → Int32 → Int32 → Int32 → Int32 → Int32 → Mm → Option (Int32 × Mm)} (hk109 : ∀ (v2 : Int32) (v3 : Int32) (v4 : Int32) (v5 : Int32) (v6 : Int32) (v7 : Int32) (v8 : Int32) (v9 : Int32) (v10 : Int32) (mm : Mm), k109 v2 v3 v4 v5 v6 v7 v8 v9 v10 mm = some q → ∀ (H : Heap) (locs : List Loc) (ls : Array Slot), Hx WN ad ca WS D A s.heap mm H locs → lv_has ls 11 [(0, .ref (ad 58)), (2, .int v2), (3, .int v3), (4, .int v4), (5, .int v5), (6, .int v6), (7, .int v7), (8, .int v8), (9, .int v9), (10, .int v10)] → W p l e (rmk 108) s m args below meth c H locs 0 0 (MQ below (QcI WN ad ca WS D A pzT q) args s 0 0 A) (F0 m 109 ls [])) {v2 : Int32} {v3 : Int32} {v4 : Int32} {v5 : Int32} {v6 : Int32} {v7 : Int32} {v8 : Int32} {v10 : Int32} {mm : Mm} (h : DX10_buys_146 k86 k109 v2 v3 v4 v5 v6 v7 v8 v10 mm = some q) (hH : Hx WN ad ca WS D A s.heap mm H locs) (hl : lv_has ls 11 [(0, .ref (ad 58)), (2, .int v2), (3, .int v3), (4, .int v4), (5, .int v5), (6, .int v6), (7, .int v7), (8, .int v8), (10, .int v10)]) : W p l e (rmk 108) s m args below meth c H locs 0 0 (MQ below (QcI WN ad ca WS D A pzT q) args s 0 0 A) (F0 m 146 ls []) := by
  unfold DX10_buys_146 at h
  have hx := C.1
  have hb := C.2.1
  refine lv_iconst (v := 0) hx hb dX10_buys_146 (by decide) ?_
  exact wX10_buys_147 C hk86 hk109 h hH (lv_sub hl [0, 1, 2, 3, 4, 5, 6, 7, 8] rfl)
set_option maxHeartbeats 2000000 in
set_option maxRecDepth 20000 in
theorem wbX10_buys_109 (C : Cx D ca A p s m args meth c cX10_buys RX10 11 (some .int)) {q : Int32 × Mm} {k86 : Int32 → Int32 → Int32 → Int32 → Int32 → Mm → Option (Int32 × Mm)} (hk86 : ∀ (v2 : Int32) (v3 : Int32) (v4 : Int32) (v5 : Int32) (v6 : Int32) (mm : Mm), k86 v2 v3 v4 v5 v6 mm = some q → ∀ (H : Heap) (locs : List Loc) (ls : Array Slot), Hx WN ad ca WS D A s.heap mm H locs → lv_has ls 11 [(0, .ref (ad 58)), (2, .int v2), (3, .int v3), (4, .int v4), (5, .int v5), (6, .int v6)] → W p l e (rmk 108) s m args below meth c H locs 0 0 (MQ below (QcI WN ad ca WS D A pzT q) args s 0 0 A) (F0 m 86 ls [])) {k109 : Int32 → Int32 → Int32 → Int32 → Int32 → Int32 → Int32 → Int32 → Int32 → Mm → Option (Int32 × Mm)} (hk109 : ∀ (v2 : Int32) (v3 : Int32) (v4 : Int32) (v5 : Int32) (v6 : Int32) (v7 : Int32) (v8 : Int32) (v9 : Int32) (v10 : Int32) (mm : Mm), k109 v2 v3 v4 v5 v6 v7 v8 v9 v10 mm = some q → ∀ (H : Heap) (locs : List Loc) (ls : Array Slot), Hx WN ad ca WS D A s.heap mm H locs → lv_has ls 11 [(0, .ref (ad 58)), (2, .int v2), (3, .int v3), (4, .int v4), (5, .int v5), (6, .int v6), (7, .int v7), (8, .int v8), (9, .int v9), (10, .int v10)] → W p l e (rmk 108) s m args below meth c H locs 0 0 (MQ below (QcI WN ad ca WS D A pzT q) args s 0 0 A) (F0 m 109 ls [])) {v2 : Int32} {v3 : Int32} {v4 : Int32} {v5 : Int32} {v6 : Int32} {v7 : Int32} {v8 : Int32} {v9 : Int32} {v10 : Int32} {mm : Mm} (h : BX10_buys_109 k86 k109 v2 v3 v4 v5 v6 v7 v8 v9 v10 mm = some q) (hH : Hx WN ad ca WS D A s.heap mm H locs) (hl : lv_has ls 11 [(0, .ref (ad 58)), (2, .int v2), (3, .int v3), (4, .int v4), (5, .int v5), (6, .int v6), (7, .int v7), (8, .int v8), (9, .int v9), (10, .int v10)]) : W p l e (rmk 108) s m args below meth c H locs 0 0 (MQ below (QcI WN ad ca WS D A pzT q) args s 0 0 A) (F0 m 109 ls []) := by
  unfold BX10_buys_109 at h
  have hx := C.1
  have hb := C.2.1
  refine lv_iload hx hb dX10_buys_109 (lv_at hl 9 rfl) ?_
  refine lv_aload_n hx hb dX10_buys_111 rfl (lv_at hl 0 rfl) ?_
  refine rgI C hH fi_RX10_100_58 dX10_buys_112 ?_
  refine lv_icmp_ge (tgt := 182) hx hb dX10_buys_115 (by decide) (fun hc115 => ?_) (fun hc115 => ?_)
  · replace h := tT hc115 h
    refine lv_iload hx hb dX10_buys_182 (lv_at hl 8 rfl) ?_
    refine lv_if_eq (tgt := 236) hx hb dX10_buys_184 (by decide) (fun hc184 => ?_) (fun hc184 => ?_)
    · replace h := tT hc184 h
      exact wX10_buys_236 C hk86 h hH (lv_sub hl [0, 1, 2, 3, 4, 5] rfl)
    · replace h := tF hc184 h
      refine lv_iload hx hb dX10_buys_187 (lv_at hl 6 rfl) ?_
      refine lv_aload_n hx hb dX10_buys_189 rfl (lv_at hl 0 rfl) ?_
      refine rgS C hH fs_RX10_9_58 dX10_buys_190 ?_
      refine lv_bipush (v := 44) hx hb dX10_buys_193 (by decide) ?_
      refine lv_iload_n hx hb dX10_buys_195 rfl (lv_at hl 1 rfl) ?_
      refine lv_iadd hx hb dX10_buys_196 ?_
      obtain ⟨hi197, h⟩ := tC h
      refine raI C hH (k := (Int32.toNatClampNeg (44 + v2))) (by decide) (show WS 59 = .inr (0, 62, 0) from rfl) hi197 rfl dX10_buys_197 ?_
      refine lv_icmp_gt (tgt := 236) hx hb dX10_buys_198 (by decide) (fun hc198 => ?_) (fun hc198 => ?_)
      · replace h := tT hc198 h
        exact wX10_buys_236 C hk86 h hH (lv_sub hl [0, 1, 2, 3, 4, 5] rfl)
      · replace h := tF hc198 h
        refine lv_iload hx hb dX10_buys_201 (lv_at hl 7 rfl) ?_
        refine lv_iload hx hb dX10_buys_203 (lv_at hl 4 rfl) ?_
        refine lv_icmp_gt (tgt := 228) hx hb dX10_buys_205 (by decide) (fun hc205 => ?_) (fun hc205 => ?_)
        · replace h := tT hc205 h
          exact wX10_buys_228 C hk86 h hH (lv_sub hl [0, 1, 2, 5, 7] rfl)
        · replace h := tF hc205 h
          refine lv_iload hx hb dX10_buys_208 (lv_at hl 7 rfl) ?_
          refine lv_iload hx hb dX10_buys_210 (lv_at hl 4 rfl) ?_
          refine lv_icmp_ne (tgt := 236) hx hb dX10_buys_212 (by decide) (fun hc212 => ?_) (fun hc212 => ?_)
          · replace h := tF hc212 h
            exact wX10_buys_236 C hk86 h hH (lv_sub hl [0, 1, 2, 3, 4, 5] rfl)
          · replace h := tT hc212 h
            refine lv_iload hx hb dX10_buys_215 (lv_at hl 5 rfl) ?_
            obtain ⟨q217, e217, h⟩ := tB h
            refine rsI C hH hl.1 (mX10_bitsOf l e217) cs_RX10_264 (RR_of (by decide) (by decide)) rfl (rest := []) rfl (Nat.le_of_ble_eq_true rfl) dX10_buys_217 ?_
            intro hz217 H locs hH
            refine lv_iload hx hb dX10_buys_220 (lv_at hl 3 rfl) ?_
            obtain ⟨q222, e222, h⟩ := tB h
            refine rsI C hH hl.1 (mX10_bitsOf l e222) cs_RX10_264 (RR_of (by decide) (by decide)) rfl (rest := [.int q217.1]) rfl (Nat.le_of_ble_eq_true rfl) dX10_buys_222 ?_
            intro hz222 H locs hH
            refine lv_icmp_ge (tgt := 236) hx hb dX10_buys_225 (by decide) (fun hc225 => ?_) (fun hc225 => ?_)
            · replace h := tT hc225 h
              exact wX10_buys_236 C hk86 h hH (lv_sub hl [0, 1, 2, 3, 4, 5] rfl)
            · replace h := tF hc225 h
              exact wX10_buys_228 C hk86 h hH (lv_sub hl [0, 1, 2, 5, 7] rfl)
  · replace h := tF hc115 h
    refine lv_iload hx hb dX10_buys_118 (lv_at hl 5 rfl) ?_
    refine lv_iload hx hb dX10_buys_120 (lv_at hl 9 rfl) ?_
    obtain ⟨q122, e122, h⟩ := tB h
    refine rsI C hH hl.1 (mX10_isIn l e122) cs_RX10_258 (RR_of (by decide) (by decide)) rfl (rest := []) rfl (Nat.le_of_ble_eq_true rfl) dX10_buys_122 ?_
    intro hz122 H locs hH
    refine lv_if_eq (tgt := 176) hx hb dX10_buys_125 (by decide) (fun hc125 => ?_) (fun hc125 => ?_)
    · replace h := tT hc125 h
      exact wX10_buys_176 C hk86 hk109 h hH (lv_sub hl [0, 1, 2, 3, 4, 5, 6, 7, 8, 9] rfl)
    · replace h := tF hc125 h
      refine lv_iload hx hb dX10_buys_128 (lv_at hl 8 rfl) ?_
      refine lv_if_eq (tgt := 146) hx hb dX10_buys_130 (by decide) (fun hc130 => ?_) (fun hc130 => ?_)
      · replace h := tT hc130 h
        exact wX10_buys_146 C hk86 hk109 h hH (lv_sub hl [0, 1, 2, 3, 4, 5, 6, 7, 9] rfl)
      · replace h := tF hc130 h
        refine lv_aload_n hx hb dX10_buys_133 rfl (lv_at hl 0 rfl) ?_
        refine lv_iload hx hb dX10_buys_134 (lv_at hl 9 rfl) ?_
        obtain ⟨q136, e136, h⟩ := tB h
        refine rcI C hH hl.1 (mX10_isFree l e136) cf_RX10_261 ro_58 (RR_of (by decide) (by decide)) rfl (rest := []) rfl (Nat.le_of_ble_eq_true rfl) dX10_buys_136 ?_
        intro hz136 H locs hH
        refine lv_if_eq (tgt := 146) hx hb dX10_buys_139 (by decide) (fun hc139 => ?_) (fun hc139 => ?_)
        · replace h := tT hc139 h
          exact wX10_buys_146 C hk86 hk109 h hH (lv_sub hl [0, 1, 2, 3, 4, 5, 6, 7, 9] rfl)
        · replace h := tF hc139 h
          refine lv_iconst (v := 1) hx hb dX10_buys_142 (by decide) ?_
          refine lv_goto (tgt := 147) hx hb dX10_buys_143 (by decide) ?_
          exact wX10_buys_147 C hk86 hk109 h hH (lv_sub hl [0, 1, 2, 3, 4, 5, 6, 7, 9] rfl)
set_option maxHeartbeats 2000000 in
set_option maxRecDepth 20000 in
theorem wX10_buys_109 (C : Cx D ca A p s m args meth c cX10_buys RX10 11 (some .int)) {q : Int32 × Mm} {k86 : Int32 → Int32 → Int32 → Int32 → Int32 → Mm → Option (Int32 × Mm)} (hk86 : ∀ (v2 : Int32) (v3 : Int32) (v4 : Int32) (v5 : Int32) (v6 : Int32) (mm : Mm), k86 v2 v3 v4 v5 v6 mm = some q → ∀ (H : Heap) (locs : List Loc) (ls : Array Slot), Hx WN ad ca WS D A s.heap mm H locs → lv_has ls 11 [(0, .ref (ad 58)), (2, .int v2), (3, .int v3), (4, .int v4), (5, .int v5), (6, .int v6)] → W p l e (rmk 108) s m args below meth c H locs 0 0 (MQ below (QcI WN ad ca WS D A pzT q) args s 0 0 A) (F0 m 86 ls [])) : ∀ (N : Nat) (v2 : Int32) (v3 : Int32) (v4 : Int32) (v5 : Int32) (v6 : Int32) (v7 : Int32) (v8 : Int32) (v9 : Int32) (v10 : Int32) (mm : Mm), DX10_buys_109 k86 N v2 v3 v4 v5 v6 v7 v8 v9 v10 mm = some q → ∀ (H : Heap) (locs : List Loc) (ls : Array Slot), Hx WN ad ca WS D A s.heap mm H locs → lv_has ls 11 [(0, .ref (ad 58)), (2, .int v2), (3, .int v3), (4, .int v4), (5, .int v5), (6, .int v6), (7, .int v7), (8, .int v8), (9, .int v9), (10, .int v10)] → W p l e (rmk 108) s m args below meth c H locs 0 0 (MQ below (QcI WN ad ca WS D A pzT q) args s 0 0 A) (F0 m 109 ls []) := by
  intro N
  induction N with
  | zero =>
    intro v2 v3 v4 v5 v6 v7 v8 v9 v10 mm h
    have h2 : (none : Option (Int32 × Mm)) = some q := h
    cases h2
  | succ N ih =>
    intro v2 v3 v4 v5 v6 v7 v8 v9 v10 mm h H locs ls hH hl
    exact wbX10_buys_109 C hk86 ih h hH hl
set_option maxHeartbeats 2000000 in
set_option maxRecDepth 20000 in
theorem wbX10_buys_86 (C : Cx D ca A p s m args meth c cX10_buys RX10 11 (some .int)) {q : Int32 × Mm} {k86 : Int32 → Int32 → Int32 → Int32 → Int32 → Mm → Option (Int32 × Mm)} (hk86 : ∀ (v2 : Int32) (v3 : Int32) (v4 : Int32) (v5 : Int32) (v6 : Int32) (mm : Mm), k86 v2 v3 v4 v5 v6 mm = some q → ∀ (H : Heap) (locs : List Loc) (ls : Array Slot), Hx WN ad ca WS D A s.heap mm H locs → lv_has ls 11 [(0, .ref (ad 58)), (2, .int v2), (3, .int v3), (4, .int v4), (5, .int v5), (6, .int v6)] → W p l e (rmk 108) s m args below meth c H locs 0 0 (MQ below (QcI WN ad ca WS D A pzT q) args s 0 0 A) (F0 m 86 ls [])) {v2 : Int32} {v3 : Int32} {v4 : Int32} {v5 : Int32} {v6 : Int32} {mm : Mm} (h : BX10_buys_86 k86 v2 v3 v4 v5 v6 mm = some q) (hH : Hx WN ad ca WS D A s.heap mm H locs) (hl : lv_has ls 11 [(0, .ref (ad 58)), (2, .int v2), (3, .int v3), (4, .int v4), (5, .int v5), (6, .int v6)]) : W p l e (rmk 108) s m args below meth c H locs 0 0 (MQ below (QcI WN ad ca WS D A pzT q) args s 0 0 A) (F0 m 86 ls []) := by
  unfold BX10_buys_86 at h
  have hx := C.1
  have hb := C.2.1
  refine lv_iload hx hb dX10_buys_86 (lv_at hl 5 rfl) ?_
  refine lv_iconst (v := 1) hx hb dX10_buys_88 (by decide) ?_
  refine lv_aload_n hx hb dX10_buys_89 rfl (lv_at hl 0 rfl) ?_
  refine rgI C hH fi_RX10_100_58 dX10_buys_90 ?_
  refine lv_ishl' hx hb dX10_buys_93 ?_
  refine lv_icmp_ge (tgt := 242) hx hb dX10_buys_94 (by decide) (fun hc94 => ?_) (fun hc94 => ?_)
  · replace h := tT hc94 h
    refine lv_iload_n hx hb dX10_buys_242 rfl (lv_at hl 2 rfl) ?_
    refine lv_if_ne (tgt := 251) hx hb dX10_buys_243 (by decide) (fun hc243 => ?_) (fun hc243 => ?_)
    · replace h := tF hc243 h
      refine lv_iload hx hb dX10_buys_251 (lv_at hl 3 rfl) ?_
      have h := Option.some.inj h
      subst h
      exact retI C hH trivial dX10_buys_253
    · replace h := tT hc243 h
      refine lv_iload hx hb dX10_buys_246 (lv_at hl 4 rfl) ?_
      refine lv_goto (tgt := 253) hx hb dX10_buys_248 (by decide) ?_
      have h := Option.some.inj h
      subst h
      exact retI C hH trivial dX10_buys_253
  · replace h := tF hc94 h
    refine lv_iconst (v := 0) hx hb dX10_buys_97 (by decide) ?_
    refine lv_istore (lv' := [(7, .int 0), (0, .ref (ad 58)), (2, .int v2), (3, .int v3), (4, .int v4), (5, .int v5), (6, .int v6)]) hx hb dX10_buys_98 hl (by decide) rfl (fun ls hl => ?_)
    refine lv_iconst (v := 0) hx hb dX10_buys_100 (by decide) ?_
    refine lv_istore (lv' := [(8, .int 0), (7, .int 0), (0, .ref (ad 58)), (2, .int v2), (3, .int v3), (4, .int v4), (5, .int v5), (6, .int v6)]) hx hb dX10_buys_101 hl (by decide) rfl (fun ls hl => ?_)
    refine lv_iconst (v := 1) hx hb dX10_buys_103 (by decide) ?_
    refine lv_istore (lv' := [(9, .int 1), (8, .int 0), (7, .int 0), (0, .ref (ad 58)), (2, .int v2), (3, .int v3), (4, .int v4), (5, .int v5), (6, .int v6)]) hx hb dX10_buys_104 hl (by decide) rfl (fun ls hl => ?_)
    refine lv_iconst (v := 0) hx hb dX10_buys_106 (by decide) ?_
    refine lv_istore (lv' := [(10, .int 0), (9, .int 1), (8, .int 0), (7, .int 0), (0, .ref (ad 58)), (2, .int v2), (3, .int v3), (4, .int v4), (5, .int v5), (6, .int v6)]) hx hb dX10_buys_107 hl (by decide) rfl (fun ls hl => ?_)
    exact wX10_buys_109 C hk86 FU _ _ _ _ _ _ _ _ _ _ h _ _ _ hH (lv_sub hl [4, 5, 6, 7, 8, 9, 3, 2, 1, 0] rfl)
set_option maxHeartbeats 2000000 in
set_option maxRecDepth 20000 in
theorem wX10_buys_86 (C : Cx D ca A p s m args meth c cX10_buys RX10 11 (some .int)) {q : Int32 × Mm} : ∀ (N : Nat) (v2 : Int32) (v3 : Int32) (v4 : Int32) (v5 : Int32) (v6 : Int32) (mm : Mm), DX10_buys_86 N v2 v3 v4 v5 v6 mm = some q → ∀ (H : Heap) (locs : List Loc) (ls : Array Slot), Hx WN ad ca WS D A s.heap mm H locs → lv_has ls 11 [(0, .ref (ad 58)), (2, .int v2), (3, .int v3), (4, .int v4), (5, .int v5), (6, .int v6)] → W p l e (rmk 108) s m args below meth c H locs 0 0 (MQ below (QcI WN ad ca WS D A pzT q) args s 0 0 A) (F0 m 86 ls []) := by
  intro N
  induction N with
  | zero =>
    intro v2 v3 v4 v5 v6 mm h
    have h2 : (none : Option (Int32 × Mm)) = some q := h
    cases h2
  | succ N ih =>
    intro v2 v3 v4 v5 v6 mm h H locs ls hH hl
    exact wbX10_buys_86 C ih h hH hl
set_option maxHeartbeats 2000000 in
set_option maxRecDepth 20000 in
theorem wbX10_buys_47 (C : Cx D ca A p s m args meth c cX10_buys RX10 11 (some .int)) {q : Int32 × Mm} {k47 : Int32 → Int32 → Int32 → Int32 → Mm → Option (Int32 × Mm)} (hk47 : ∀ (v1 : Int32) (v2 : Int32) (v3 : Int32) (v4 : Int32) (mm : Mm), k47 v1 v2 v3 v4 mm = some q → ∀ (H : Heap) (locs : List Loc) (ls : Array Slot), Hx WN ad ca WS D A s.heap mm H locs → lv_has ls 11 [(0, .ref (ad 58)), (1, .int v1), (2, .int v2), (3, .int v3), (4, .int v4)] → W p l e (rmk 108) s m args below meth c H locs 0 0 (MQ below (QcI WN ad ca WS D A pzT q) args s 0 0 A) (F0 m 47 ls [])) {v1 : Int32} {v2 : Int32} {v3 : Int32} {v4 : Int32} {mm : Mm} (h : BX10_buys_47 k47 v1 v2 v3 v4 mm = some q) (hH : Hx WN ad ca WS D A s.heap mm H locs) (hl : lv_has ls 11 [(0, .ref (ad 58)), (1, .int v1), (2, .int v2), (3, .int v3), (4, .int v4)]) : W p l e (rmk 108) s m args below meth c H locs 0 0 (MQ below (QcI WN ad ca WS D A pzT q) args s 0 0 A) (F0 m 47 ls []) := by
  unfold BX10_buys_47 at h
  have hx := C.1
  have hb := C.2.1
  refine lv_iload hx hb dX10_buys_47 (lv_at hl 4 rfl) ?_
  refine lv_aload_n hx hb dX10_buys_49 rfl (lv_at hl 0 rfl) ?_
  refine rgI C hH fi_RX10_100_58 dX10_buys_50 ?_
  refine lv_icmp_ge (tgt := 77) hx hb dX10_buys_53 (by decide) (fun hc53 => ?_) (fun hc53 => ?_)
  · replace h := tT hc53 h
    refine lv_iconst (v := 0) hx hb dX10_buys_77 (by decide) ?_
    refine lv_istore (lv' := [(4, .int 0), (0, .ref (ad 58)), (1, .int v1), (2, .int v2), (3, .int v3)]) hx hb dX10_buys_78 hl (by decide) rfl (fun ls hl => ?_)
    refine lv_iconst (v := 0) hx hb dX10_buys_80 (by decide) ?_
    refine lv_istore (lv' := [(5, .int 0), (4, .int 0), (0, .ref (ad 58)), (1, .int v1), (2, .int v2), (3, .int v3)]) hx hb dX10_buys_81 hl (by decide) rfl (fun ls hl => ?_)
    refine lv_iconst (v := 1) hx hb dX10_buys_83 (by decide) ?_
    refine lv_istore (lv' := [(6, .int 1), (5, .int 0), (4, .int 0), (0, .ref (ad 58)), (1, .int v1), (2, .int v2), (3, .int v3)]) hx hb dX10_buys_84 hl (by decide) rfl (fun ls hl => ?_)
    exact wX10_buys_86 C FU _ _ _ _ _ _ h _ _ _ hH (lv_sub hl [3, 5, 6, 2, 1, 0] rfl)
  · replace h := tF hc53 h
    refine lv_aload_n hx hb dX10_buys_56 rfl (lv_at hl 0 rfl) ?_
    refine rgS C hH fs_RX10_42_58 dX10_buys_57 ?_
    refine lv_iload hx hb dX10_buys_60 (lv_at hl 4 rfl) ?_
    refine lv_aload_n hx hb dX10_buys_62 rfl (lv_at hl 0 rfl) ?_
    refine lv_iload_n hx hb dX10_buys_63 rfl (lv_at hl 1 rfl) ?_
    refine lv_iload_n hx hb dX10_buys_64 rfl (lv_at hl 2 rfl) ?_
    refine lv_iload hx hb dX10_buys_65 (lv_at hl 4 rfl) ?_
    obtain ⟨q67, e67, h⟩ := tB h
    refine rcI C hH hl.1 (mX10_gainOf l e67) cf_RX10_255 ro_58 (RR_of (by decide) (by decide)) rfl (rest := [.int v4, .ref (ad 69)]) rfl (Nat.le_of_ble_eq_true rfl) dX10_buys_67 ?_
    intro hz67 H locs hH
    obtain ⟨hi70, h⟩ := tC h
    refine rwI C hH (k := (Int32.toNatClampNeg v4)) (by decide) (show WS 69 = .inr (0, 10, 0) from rfl) hi70 rfl dX10_buys_70 (fun H locs hH => ?_)
    refine lv_iinc (v := (v4 + 1)) (lv' := [(4, .int (v4 + 1)), (0, .ref (ad 58)), (1, .int v1), (2, .int v2), (3, .int v3)]) hx hb dX10_buys_71 hl (k := 4) rfl rfl (by decide) rfl (fun ls hl => ?_)
    refine lv_goto (tgt := 47) hx hb dX10_buys_74 (by decide) ?_
    exact hk47 _ _ _ _ _ h _ _ _ hH (lv_sub hl [1, 2, 3, 4, 0] rfl)
set_option maxHeartbeats 2000000 in
set_option maxRecDepth 20000 in
theorem wX10_buys_47 (C : Cx D ca A p s m args meth c cX10_buys RX10 11 (some .int)) {q : Int32 × Mm} : ∀ (N : Nat) (v1 : Int32) (v2 : Int32) (v3 : Int32) (v4 : Int32) (mm : Mm), DX10_buys_47 N v1 v2 v3 v4 mm = some q → ∀ (H : Heap) (locs : List Loc) (ls : Array Slot), Hx WN ad ca WS D A s.heap mm H locs → lv_has ls 11 [(0, .ref (ad 58)), (1, .int v1), (2, .int v2), (3, .int v3), (4, .int v4)] → W p l e (rmk 108) s m args below meth c H locs 0 0 (MQ below (QcI WN ad ca WS D A pzT q) args s 0 0 A) (F0 m 47 ls []) := by
  intro N
  induction N with
  | zero =>
    intro v1 v2 v3 v4 mm h
    have h2 : (none : Option (Int32 × Mm)) = some q := h
    cases h2
  | succ N ih =>
    intro v1 v2 v3 v4 mm h H locs ls hH hl
    exact wbX10_buys_47 C ih h hH hl
set_option maxHeartbeats 2000000 in
set_option maxRecDepth 20000 in
theorem mX10_buys (l : Launch) {D : va_G} {ca : Nat → ClassId} {A : Nat → Prop} {ad : Nat → Nat} {v1 : Int32} {v2 : Int32} {v3 : Int32} {mm : Mm} {q : Int32 × Mm} (h : dX10_buys v1 v2 v3 mm = some q) : Met l yX10_buys (wsOf yX10_buys cX10_buys 11 (some .int)) (rmk 108) (PcX WN ad ca WS D A [.ref (ad 58), .int v1, .int v2, .int v3] mm) (QcI WN ad ca WS D A pzT q) 0 0 A := by
  unfold dX10_buys at h
  refine ent (by decide) (Nat.le_of_ble_eq_true rfl) (fun p e s m args below meth c hargs C hH ls hl => ?_)
  have hx := C.1
  have hb := C.2.1
  have hl : lv_has ls 11 [(0, .ref (ad 58)), (1, .int v1), (2, .int v2), (3, .int v3)] := hl
  refine lv_aload_n hx hb dX10_buys_0 rfl (lv_at hl 0 rfl) ?_
  refine lv_iload_n hx hb dX10_buys_1 rfl (lv_at hl 1 rfl) ?_
  obtain ⟨q2, e2, h⟩ := tB h
  refine rcI C hH hl.1 (mX10_bytesIs l e2) cf_RX10_217 ro_58 (RR_of (by decide) (by decide)) rfl (rest := []) rfl (Nat.le_of_ble_eq_true rfl) dX10_buys_2 ?_
  intro hz2 H locs hH
  refine lv_iconst (v := (-1)) hx hb dX10_buys_5 (by decide) ?_
  refine lv_icmp_eq (tgt := 28) hx hb dX10_buys_6 (by decide) (fun hc6 => ?_) (fun hc6 => ?_)
  · replace h := tT hc6 h
    exact wX10_buys_28 C h hH (lv_sub hl [] rfl)
  · replace h := tF hc6 h
    refine lv_aload_n hx hb dX10_buys_9 rfl (lv_at hl 0 rfl) ?_
    refine lv_iload_n hx hb dX10_buys_10 rfl (lv_at hl 2 rfl) ?_
    refine lv_i2l' hx hb dX10_buys_11 ?_
    obtain ⟨q12, e12, h⟩ := tB h
    refine rcI C hH hl.1 (mX10_isBuyer l e12) cf_RX10_135 ro_58 (RR_of (by decide) (by decide)) rfl (rest := []) rfl (Nat.le_of_ble_eq_true rfl) dX10_buys_12 ?_
    intro hz12 H locs hH
    refine lv_if_eq (tgt := 28) hx hb dX10_buys_15 (by decide) (fun hc15 => ?_) (fun hc15 => ?_)
    · replace h := tT hc15 h
      exact wX10_buys_28 C h hH (lv_sub hl [] rfl)
    · replace h := tF hc15 h
      refine lv_iload_n hx hb dX10_buys_18 rfl (lv_at hl 3 rfl) ?_
      refine lv_i2l' hx hb dX10_buys_19 ?_
      refine lv_lconst (v := 0) hx hb dX10_buys_20 (by decide) ?_
      refine lv_lconst (v := 1) hx hb dX10_buys_21 (by decide) ?_
      obtain ⟨q22, e22, h⟩ := tB h
      refine rsI C hH hl.1 (mX10_within l e22) cs_RX10_96 (RR_of (by decide) (by decide)) rfl (rest := []) rfl (Nat.le_of_ble_eq_true rfl) dX10_buys_22 ?_
      intro hz22 H locs hH
      refine lv_if_ne (tgt := 30) hx hb dX10_buys_25 (by decide) (fun hc25 => ?_) (fun hc25 => ?_)
      · replace h := tF hc25 h
        refine lv_aload_n hx hb dX10_buys_30 rfl (lv_at hl 0 rfl) ?_
        refine lv_iload_n hx hb dX10_buys_31 rfl (lv_at hl 1 rfl) ?_
        obtain ⟨q32, e32, h⟩ := tB h
        refine rcI C hH hl.1 (mX10_bytesIs l e32) cf_RX10_217 ro_58 (RR_of (by decide) (by decide)) rfl (rest := []) rfl (Nat.le_of_ble_eq_true rfl) dX10_buys_32 ?_
        intro hz32 H locs hH
        refine lv_if_ge (tgt := 44) hx hb dX10_buys_35 (by decide) (fun hc35 => ?_) (fun hc35 => ?_)
        · replace h := tT hc35 h
          refine lv_iconst (v := 0) hx hb dX10_buys_44 (by decide) ?_
          refine lv_istore (lv' := [(4, .int 0), (0, .ref (ad 58)), (1, .int v1), (2, .int v2), (3, .int v3)]) hx hb dX10_buys_45 hl (by decide) rfl (fun ls hl => ?_)
          exact wX10_buys_47 C FU _ _ _ _ _ h _ _ _ hH (lv_sub hl [1, 2, 3, 4, 0] rfl)
        · replace h := tF hc35 h
          refine lv_aload_n hx hb dX10_buys_38 rfl (lv_at hl 0 rfl) ?_
          refine lv_iload_n hx hb dX10_buys_39 rfl (lv_at hl 1 rfl) ?_
          obtain ⟨q40, e40, h⟩ := tB h
          refine rcI C hH hl.1 (mX10_bytesIs l e40) cf_RX10_217 ro_58 (RR_of (by decide) (by decide)) rfl (rest := []) rfl (Nat.le_of_ble_eq_true rfl) dX10_buys_40 ?_
          intro hz40 H locs hH
          have h := Option.some.inj h
          subst h
          exact retI C hH trivial dX10_buys_43
      · replace h := tT hc25 h
        exact wX10_buys_28 C h hH (lv_sub hl [] rfl)
set_option maxHeartbeats 2000000 in
set_option maxRecDepth 20000 in
theorem wbX7_plainWorth_5 (C : Cx D ca A p s m args meth c cX7_plainWorth RX7 5 (some .int)) {q : Int32 × Mm} {k5 : Int32 → Int32 → Int32 → Int32 → Mm → Option (Int32 × Mm)} (hk5 : ∀ (v1 : Int32) (v2 : Int32) (v3 : Int32) (v4 : Int32) (mm : Mm), k5 v1 v2 v3 v4 mm = some q → ∀ (H : Heap) (locs : List Loc) (ls : Array Slot), Hx WN ad ca WS D A s.heap mm H locs → lv_has ls 5 [(0, .ref (ad 1)), (1, .int v1), (2, .int v2), (3, .int v3), (4, .int v4)] → W p l e (rmk 4) s m args below meth c H locs 0 0 (MQ below (QcI WN ad ca WS D A pzT q) args s 0 0 A) (F0 m 5 ls [])) {v1 : Int32} {v2 : Int32} {v3 : Int32} {v4 : Int32} {mm : Mm} (h : BX7_plainWorth_5 k5 v1 v2 v3 v4 mm = some q) (hH : Hx WN ad ca WS D A s.heap mm H locs) (hl : lv_has ls 5 [(0, .ref (ad 1)), (1, .int v1), (2, .int v2), (3, .int v3), (4, .int v4)]) : W p l e (rmk 4) s m args below meth c H locs 0 0 (MQ below (QcI WN ad ca WS D A pzT q) args s 0 0 A) (F0 m 5 ls []) := by
  unfold BX7_plainWorth_5 at h
  have hx := C.1
  have hb := C.2.1
  refine lv_iload hx hb dX7_plainWorth_5 (lv_at hl 4 rfl) ?_
  refine lv_bipush (v := 6) hx hb dX7_plainWorth_7 (by decide) ?_
  refine lv_icmp_ge (tgt := 29) hx hb dX7_plainWorth_9 (by decide) (fun hc9 => ?_) (fun hc9 => ?_)
  · replace h := tT hc9 h
    refine lv_iload_n hx hb dX7_plainWorth_29 rfl (lv_at hl 3 rfl) ?_
    refine lv_bipush (v := 6) hx hb dX7_plainWorth_30 (by decide) ?_
    refine lv_idiv hx hb dX7_plainWorth_32 (by decide) ?_
    have h := Option.some.inj h
    subst h
    exact retI C hH trivial dX7_plainWorth_33
  · replace h := tF hc9 h
    refine lv_iload_n hx hb dX7_plainWorth_12 rfl (lv_at hl 3 rfl) ?_
    refine lv_aload_n hx hb dX7_plainWorth_13 rfl (lv_at hl 0 rfl) ?_
    refine lv_iload_n hx hb dX7_plainWorth_14 rfl (lv_at hl 1 rfl) ?_
    refine lv_iload hx hb dX7_plainWorth_15 (lv_at hl 4 rfl) ?_
    refine lv_iload_n hx hb dX7_plainWorth_17 rfl (lv_at hl 2 rfl) ?_
    obtain ⟨q18, e18, h⟩ := tB h
    refine rcI C hH hl.1 (mX7_worthTo l e18) cf_RX7_66 ro_1 (RR_of (by decide) (by decide)) rfl (rest := [.int v3]) rfl (Nat.le_of_ble_eq_true rfl) dX7_plainWorth_18 ?_
    intro hz18 H locs hH
    refine lv_iadd hx hb dX7_plainWorth_21 ?_
    refine lv_istore_n (lv' := [(3, .int (v3 + q18.1)), (0, .ref (ad 1)), (1, .int v1), (2, .int v2), (4, .int v4)]) hx hb dX7_plainWorth_22 rfl hl (by decide) rfl (fun ls hl => ?_)
    refine lv_iinc (v := (v4 + 1)) (lv' := [(4, .int (v4 + 1)), (3, .int (v3 + q18.1)), (0, .ref (ad 1)), (1, .int v1), (2, .int v2)]) hx hb dX7_plainWorth_23 hl (k := 4) rfl rfl (by decide) rfl (fun ls hl => ?_)
    refine lv_goto (tgt := 5) hx hb dX7_plainWorth_26 (by decide) ?_
    exact hk5 _ _ _ _ _ h _ _ _ hH (lv_sub hl [2, 3, 4, 1, 0] rfl)
set_option maxHeartbeats 2000000 in
set_option maxRecDepth 20000 in
theorem wX7_plainWorth_5 (C : Cx D ca A p s m args meth c cX7_plainWorth RX7 5 (some .int)) {q : Int32 × Mm} : ∀ (N : Nat) (v1 : Int32) (v2 : Int32) (v3 : Int32) (v4 : Int32) (mm : Mm), DX7_plainWorth_5 N v1 v2 v3 v4 mm = some q → ∀ (H : Heap) (locs : List Loc) (ls : Array Slot), Hx WN ad ca WS D A s.heap mm H locs → lv_has ls 5 [(0, .ref (ad 1)), (1, .int v1), (2, .int v2), (3, .int v3), (4, .int v4)] → W p l e (rmk 4) s m args below meth c H locs 0 0 (MQ below (QcI WN ad ca WS D A pzT q) args s 0 0 A) (F0 m 5 ls []) := by
  intro N
  induction N with
  | zero =>
    intro v1 v2 v3 v4 mm h
    have h2 : (none : Option (Int32 × Mm)) = some q := h
    cases h2
  | succ N ih =>
    intro v1 v2 v3 v4 mm h H locs ls hH hl
    exact wbX7_plainWorth_5 C ih h hH hl
set_option maxHeartbeats 2000000 in
set_option maxRecDepth 20000 in
theorem mX7_plainWorth (l : Launch) {D : va_G} {ca : Nat → ClassId} {A : Nat → Prop} {ad : Nat → Nat} {v1 : Int32} {v2 : Int32} {mm : Mm} {q : Int32 × Mm} (h : dX7_plainWorth v1 v2 mm = some q) : Met l yX7_plainWorth (wsOf yX7_plainWorth cX7_plainWorth 5 (some .int)) (rmk 4) (PcX WN ad ca WS D A [.ref (ad 1), .int v1, .int v2] mm) (QcI WN ad ca WS D A pzT q) 0 0 A := by
  unfold dX7_plainWorth at h
  refine ent (by decide) (Nat.le_of_ble_eq_true rfl) (fun p e s m args below meth c hargs C hH ls hl => ?_)
  have hx := C.1
  have hb := C.2.1
  have hl : lv_has ls 5 [(0, .ref (ad 1)), (1, .int v1), (2, .int v2)] := hl
  refine lv_iconst (v := 0) hx hb dX7_plainWorth_0 (by decide) ?_
  refine lv_istore_n (lv' := [(3, .int 0), (0, .ref (ad 1)), (1, .int v1), (2, .int v2)]) hx hb dX7_plainWorth_1 rfl hl (by decide) rfl (fun ls hl => ?_)
  refine lv_iconst (v := 0) hx hb dX7_plainWorth_2 (by decide) ?_
  refine lv_istore (lv' := [(4, .int 0), (3, .int 0), (0, .ref (ad 1)), (1, .int v1), (2, .int v2)]) hx hb dX7_plainWorth_3 hl (by decide) rfl (fun ls hl => ?_)
  exact wX7_plainWorth_5 C FU _ _ _ _ _ h _ _ _ hH (lv_sub hl [2, 3, 4, 1, 0] rfl)
end WALK
