/-! ===== the walks: each method by its denotation (laid by wip/whole/gen.py) ===== -/
section WALK
variable {p : Program} {l : Launch} {e : Env} {s : State} {m : MethodId} {args : Array Value} {below : List Frame} {meth : Method} {c : Code} {H : Heap} {locs : List Loc} {Q : State → Prop} {cells slots : Nat} {ls : Array Slot} {D : va_G} {ca : Nat → ClassId} {A : Nat → Prop} {ad : Nat → Nat}
set_option maxHeartbeats 2000000 in
set_option maxRecDepth 20000 in
theorem wX2_stocked_50 (C : Cx D ca A p s m args meth c cX2_stocked RX2 3 (some .boolean)) {q : Int32 × Mm} {mm : Mm} (h : DX2_stocked_50 mm = some q) (hH : Hx WN ad ca WS D A s.heap mm H locs) (hl : lv_has ls 3 []) : W p l e (rmk 5) s m args below meth c H locs 0 0 (MQ below (QcI WN ad ca WS D A pzZ q) args s 0 0 A) (F0 m 50 ls []) := by
  unfold DX2_stocked_50 at h
  have hx := C.1
  have hb := C.2.1
  refine lv_iconst (v := 0) hx hb dX2_stocked_50 (by decide) ?_
  have h := Option.some.inj h
  subst h
  exact retZ C hH (Or.inl rfl) dX2_stocked_51
set_option maxHeartbeats 2000000 in
set_option maxRecDepth 20000 in
theorem wbX2_stocked_13 (C : Cx D ca A p s m args meth c cX2_stocked RX2 3 (some .boolean)) {q : Int32 × Mm} {k13 : Nat → Int32 → Mm → Option (Int32 × Mm)} (hk13 : ∀ (v1 : Nat) (v2 : Int32) (mm : Mm), k13 v1 v2 mm = some q → isSh v1 → ∀ (H : Heap) (locs : List Loc) (ls : Array Slot), Hx WN ad ca WS D A s.heap mm H locs → lv_has ls 3 [(0, .ref (ad 19)), (1, .ref (ad v1)), (2, .int v2)] → W p l e (rmk 5) s m args below meth c H locs 0 0 (MQ below (QcI WN ad ca WS D A pzZ q) args s 0 0 A) (F0 m 13 ls [])) {v1 : Nat} {v2 : Int32} {mm : Mm} (ho1 : isSh v1) (h : BX2_stocked_13 k13 v1 v2 mm = some q) (hH : Hx WN ad ca WS D A s.heap mm H locs) (hl : lv_has ls 3 [(0, .ref (ad 19)), (1, .ref (ad v1)), (2, .int v2)]) : W p l e (rmk 5) s m args below meth c H locs 0 0 (MQ below (QcI WN ad ca WS D A pzZ q) args s 0 0 A) (F0 m 13 ls []) := by
  unfold BX2_stocked_13 at h
  have hx := C.1
  have hb := C.2.1
  refine lv_iload_n hx hb dX2_stocked_13 rfl (lv_at hl 2 rfl) ?_
  refine lv_bipush (v := 6) hx hb dX2_stocked_14 (by decide) ?_
  refine lv_icmp_ge (tgt := 75) hx hb dX2_stocked_16 (by decide) (fun hc16 => ?_) (fun hc16 => ?_)
  · replace h := tT hc16 h
    refine lv_iconst (v := 1) hx hb dX2_stocked_75 (by decide) ?_
    have h := Option.some.inj h
    subst h
    exact retZ C hH (Or.inr rfl) dX2_stocked_76
  · replace h := tF hc16 h
    refine lv_aload_n hx hb dX2_stocked_19 rfl (lv_at hl 0 rfl) ?_
    refine rgS C hH fs_RX2_19_19 dX2_stocked_20 ?_
    refine lv_iload_n hx hb dX2_stocked_23 rfl (lv_at hl 2 rfl) ?_
    refine lv_aload_n hx hb dX2_stocked_24 rfl (lv_at hl 1 rfl) ?_
    refine lv_iload_n hx hb dX2_stocked_25 rfl (lv_at hl 2 rfl) ?_
    obtain ⟨q26, e26, h⟩ := tB h
    refine rcI C hH hl.1 (mX8_byteAt l e26) cf_RX2_99 (ro_sh ho1) (RR_of (by decide) (by decide)) rfl (rest := [.int v2, .ref (ad 22)]) rfl (Nat.le_of_ble_eq_true rfl) dX2_stocked_26 ?_
    intro hz26 H locs hH
    obtain ⟨hi29, h⟩ := tC h
    refine rwI C hH (k := (Int32.toNatClampNeg v2)) (by decide) (show WS 22 = .inr (0, 6, 0) from rfl) hi29 rfl dX2_stocked_29 (fun H locs hH => ?_)
    refine lv_aload_n hx hb dX2_stocked_30 rfl (lv_at hl 0 rfl) ?_
    refine rgS C hH fs_RX2_19_19 dX2_stocked_31 ?_
    refine lv_iload_n hx hb dX2_stocked_34 rfl (lv_at hl 2 rfl) ?_
    obtain ⟨hi35, h⟩ := tC h
    refine raI C hH (k := (Int32.toNatClampNeg v2)) (by decide) (show WS 22 = .inr (0, 6, 0) from rfl) hi35 rfl dX2_stocked_35 ?_
    refine lv_if_lt (tgt := 50) hx hb dX2_stocked_36 (by decide) (fun hc36 => ?_) (fun hc36 => ?_)
    · replace h := tT hc36 h
      exact wX2_stocked_50 C h hH (lv_sub hl [] rfl)
    · replace h := tF hc36 h
      refine lv_aload_n hx hb dX2_stocked_39 rfl (lv_at hl 0 rfl) ?_
      refine rgS C hH fs_RX2_19_19 dX2_stocked_40 ?_
      refine lv_iload_n hx hb dX2_stocked_43 rfl (lv_at hl 2 rfl) ?_
      obtain ⟨hi44, h⟩ := tC h
      refine raI C hH (k := (Int32.toNatClampNeg v2)) (by decide) (show WS 22 = .inr (0, 6, 0) from rfl) hi44 rfl dX2_stocked_44 ?_
      refine lv_bipush (v := 9) hx hb dX2_stocked_45 (by decide) ?_
      refine lv_icmp_le (tgt := 52) hx hb dX2_stocked_47 (by decide) (fun hc47 => ?_) (fun hc47 => ?_)
      · replace h := tT hc47 h
        refine lv_aload_n hx hb dX2_stocked_52 rfl (lv_at hl 0 rfl) ?_
        refine rgS C hH fs_RX2_19_19 dX2_stocked_53 ?_
        refine lv_iload_n hx hb dX2_stocked_56 rfl (lv_at hl 2 rfl) ?_
        refine lv_dup2_11 hx hb dX2_stocked_57 rfl rfl ?_
        obtain ⟨hi58, h⟩ := tC h
        refine raI C hH (k := (Int32.toNatClampNeg v2)) (by decide) (show WS 22 = .inr (0, 6, 0) from rfl) hi58 rfl dX2_stocked_58 ?_
        refine lv_aload_n hx hb dX2_stocked_59 rfl (lv_at hl 0 rfl) ?_
        refine rgS C hH fs_RX2_22_19 dX2_stocked_60 ?_
        refine lv_iload_n hx hb dX2_stocked_63 rfl (lv_at hl 2 rfl) ?_
        obtain ⟨q64, e64, h⟩ := tB h
        refine rcI C hH hl.1 (mX7_openWith l e64) cf_RX2_102 ro_1 (RR_of (by decide) (by decide)) rfl (rest := [.int (gI (sI q26.2 22 (Int32.toNatClampNeg v2) q26.1) 22 (Int32.toNatClampNeg v2)), .int v2, .ref (ad 22)]) rfl (Nat.le_of_ble_eq_true rfl) dX2_stocked_64 ?_
        intro hz64 H locs hH
        refine lv_isub hx hb dX2_stocked_67 ?_
        obtain ⟨hi68, h⟩ := tC h
        refine rwI C hH (k := (Int32.toNatClampNeg v2)) (by decide) (show WS 22 = .inr (0, 6, 0) from rfl) hi68 rfl dX2_stocked_68 (fun H locs hH => ?_)
        refine lv_iinc (v := (v2 + 1)) (lv' := [(2, .int (v2 + 1)), (0, .ref (ad 19)), (1, .ref (ad v1))]) hx hb dX2_stocked_69 hl (k := 2) rfl rfl (by decide) rfl (fun ls hl => ?_)
        refine lv_goto (tgt := 13) hx hb dX2_stocked_72 (by decide) ?_
        exact hk13 _ _ _ h ho1 _ _ _ hH (lv_sub hl [1, 2, 0] rfl)
      · replace h := tF hc47 h
        exact wX2_stocked_50 C h hH (lv_sub hl [] rfl)
set_option maxHeartbeats 2000000 in
set_option maxRecDepth 20000 in
theorem wX2_stocked_13 (C : Cx D ca A p s m args meth c cX2_stocked RX2 3 (some .boolean)) {q : Int32 × Mm} : ∀ (N : Nat) (v1 : Nat) (v2 : Int32) (mm : Mm), DX2_stocked_13 N v1 v2 mm = some q → isSh v1 → ∀ (H : Heap) (locs : List Loc) (ls : Array Slot), Hx WN ad ca WS D A s.heap mm H locs → lv_has ls 3 [(0, .ref (ad 19)), (1, .ref (ad v1)), (2, .int v2)] → W p l e (rmk 5) s m args below meth c H locs 0 0 (MQ below (QcI WN ad ca WS D A pzZ q) args s 0 0 A) (F0 m 13 ls []) := by
  intro N
  induction N with
  | zero =>
    intro v1 v2 mm h
    have h2 : (none : Option (Int32 × Mm)) = some q := h
    cases h2
  | succ N ih =>
    intro v1 v2 mm h ho1 H locs ls hH hl
    exact wbX2_stocked_13 C ih ho1 h hH hl
set_option maxHeartbeats 2000000 in
set_option maxRecDepth 20000 in
theorem mX2_stocked (l : Launch) {D : va_G} {ca : Nat → ClassId} {A : Nat → Prop} {ad : Nat → Nat} {v1 : Nat} {mm : Mm} {q : Int32 × Mm} (h : dX2_stocked v1 mm = some q) : Met l yX2_stocked (wsOf yX2_stocked cX2_stocked 3 (some .boolean)) (rmk 5) (PcX WN ad ca WS D A [.ref (ad 19), .ref (ad v1)] mm) (QcI WN ad ca WS D A pzZ q) 0 0 A := by
  unfold dX2_stocked at h
  refine ent (by decide) (Nat.le_of_ble_eq_true rfl) (fun p e s m args below meth c hargs C hH ls hl => ?_)
  have hx := C.1
  have hb := C.2.1
  have hl : lv_has ls 3 [(0, .ref (ad 19)), (1, .ref (ad v1))] := hl
  obtain ⟨ho1, h⟩ := tC h
  refine lv_aload_n hx hb dX2_stocked_0 rfl (lv_at hl 1 rfl) ?_
  refine rgI C hH (fiSH_RX2_94 ho1) dX2_stocked_1 ?_
  refine lv_bipush (v := 6) hx hb dX2_stocked_4 (by decide) ?_
  refine lv_icmp_eq (tgt := 11) hx hb dX2_stocked_6 (by decide) (fun hc6 => ?_) (fun hc6 => ?_)
  · replace h := tT hc6 h
    refine lv_iconst (v := 0) hx hb dX2_stocked_11 (by decide) ?_
    refine lv_istore_n (lv' := [(2, .int 0), (0, .ref (ad 19)), (1, .ref (ad v1))]) hx hb dX2_stocked_12 rfl hl (by decide) rfl (fun ls hl => ?_)
    exact wX2_stocked_13 C FU _ _ _ h ho1 _ _ _ hH (lv_sub hl [1, 2, 0] rfl)
  · replace h := tF hc6 h
    refine lv_iconst (v := 0) hx hb dX2_stocked_9 (by decide) ?_
    have h := Option.some.inj h
    subst h
    exact retZ C hH (Or.inl rfl) dX2_stocked_10
set_option maxHeartbeats 2000000 in
set_option maxRecDepth 20000 in
theorem wX2_tied_32 (C : Cx D ca A p s m args meth c cX2_tied RX2 3 (some .int)) {q : Int32 × Mm} {k4 : Int32 → Int32 → Mm → Option (Int32 × Mm)} (hk4 : ∀ (v1 : Int32) (v2 : Int32) (mm : Mm), k4 v1 v2 mm = some q → ∀ (H : Heap) (locs : List Loc) (ls : Array Slot), Hx WN ad ca WS D A s.heap mm H locs → lv_has ls 3 [(0, .ref (ad 19)), (1, .int v1), (2, .int v2)] → W p l e (rmk 4) s m args below meth c H locs 0 0 (MQ below (QcI WN ad ca WS D A pzT q) args s 0 0 A) (F0 m 4 ls [])) {v2 : Int32} {s0 : Int32} {s1 : Int32} {mm : Mm} (h : DX2_tied_32 k4 v2 s0 s1 mm = some q) (hH : Hx WN ad ca WS D A s.heap mm H locs) (hl : lv_has ls 3 [(0, .ref (ad 19)), (2, .int v2)]) : W p l e (rmk 4) s m args below meth c H locs 0 0 (MQ below (QcI WN ad ca WS D A pzT q) args s 0 0 A) (F0 m 32 ls [.int s0, .int s1]) := by
  unfold DX2_tied_32 at h
  have hx := C.1
  have hb := C.2.1
  refine lv_iadd hx hb dX2_tied_32 ?_
  refine lv_istore_n (lv' := [(1, .int (s1 + s0)), (0, .ref (ad 19)), (2, .int v2)]) hx hb dX2_tied_33 rfl hl (by decide) rfl (fun ls hl => ?_)
  refine lv_iinc (v := (v2 + 1)) (lv' := [(2, .int (v2 + 1)), (1, .int (s1 + s0)), (0, .ref (ad 19))]) hx hb dX2_tied_34 hl (k := 2) rfl rfl (by decide) rfl (fun ls hl => ?_)
  refine lv_goto (tgt := 4) hx hb dX2_tied_37 (by decide) ?_
  exact hk4 _ _ _ h _ _ _ hH (lv_sub hl [2, 1, 0] rfl)
set_option maxHeartbeats 2000000 in
set_option maxRecDepth 20000 in
theorem wbX2_tied_4 (C : Cx D ca A p s m args meth c cX2_tied RX2 3 (some .int)) {q : Int32 × Mm} {k4 : Int32 → Int32 → Mm → Option (Int32 × Mm)} (hk4 : ∀ (v1 : Int32) (v2 : Int32) (mm : Mm), k4 v1 v2 mm = some q → ∀ (H : Heap) (locs : List Loc) (ls : Array Slot), Hx WN ad ca WS D A s.heap mm H locs → lv_has ls 3 [(0, .ref (ad 19)), (1, .int v1), (2, .int v2)] → W p l e (rmk 4) s m args below meth c H locs 0 0 (MQ below (QcI WN ad ca WS D A pzT q) args s 0 0 A) (F0 m 4 ls [])) {v1 : Int32} {v2 : Int32} {mm : Mm} (h : BX2_tied_4 k4 v1 v2 mm = some q) (hH : Hx WN ad ca WS D A s.heap mm H locs) (hl : lv_has ls 3 [(0, .ref (ad 19)), (1, .int v1), (2, .int v2)]) : W p l e (rmk 4) s m args below meth c H locs 0 0 (MQ below (QcI WN ad ca WS D A pzT q) args s 0 0 A) (F0 m 4 ls []) := by
  unfold BX2_tied_4 at h
  have hx := C.1
  have hb := C.2.1
  refine lv_iload_n hx hb dX2_tied_4 rfl (lv_at hl 2 rfl) ?_
  refine lv_aload_n hx hb dX2_tied_5 rfl (lv_at hl 0 rfl) ?_
  refine rgS C hH fs_RX2_22_19 dX2_tied_6 ?_
  refine rgI C hH fi_RX2_68_1 dX2_tied_9 ?_
  refine lv_icmp_ge (tgt := 40) hx hb dX2_tied_12 (by decide) (fun hc12 => ?_) (fun hc12 => ?_)
  · replace h := tT hc12 h
    refine lv_iload_n hx hb dX2_tied_40 rfl (lv_at hl 1 rfl) ?_
    have h := Option.some.inj h
    subst h
    exact retI C hH trivial dX2_tied_41
  · replace h := tF hc12 h
    refine lv_iload_n hx hb dX2_tied_15 rfl (lv_at hl 1 rfl) ?_
    refine lv_aload_n hx hb dX2_tied_16 rfl (lv_at hl 0 rfl) ?_
    refine rgS C hH fs_RX2_22_19 dX2_tied_17 ?_
    refine lv_iload_n hx hb dX2_tied_20 rfl (lv_at hl 2 rfl) ?_
    obtain ⟨q21, e21, h⟩ := tB h
    refine rcI C hH hl.1 (mX7_isOpen l e21) cf_RX2_105 ro_1 (RR_of (by decide) (by decide)) rfl (rest := [.int v1]) rfl (Nat.le_of_ble_eq_true rfl) dX2_tied_21 ?_
    intro hz21 H locs hH
    refine lv_if_eq (tgt := 31) hx hb dX2_tied_24 (by decide) (fun hc24 => ?_) (fun hc24 => ?_)
    · replace h := tT hc24 h
      refine lv_iconst (v := 1) hx hb dX2_tied_31 (by decide) ?_
      exact wX2_tied_32 C hk4 h hH (lv_sub hl [0, 2] rfl)
    · replace h := tF hc24 h
      refine lv_iconst (v := 0) hx hb dX2_tied_27 (by decide) ?_
      refine lv_goto (tgt := 32) hx hb dX2_tied_28 (by decide) ?_
      exact wX2_tied_32 C hk4 h hH (lv_sub hl [0, 2] rfl)
set_option maxHeartbeats 2000000 in
set_option maxRecDepth 20000 in
theorem wX2_tied_4 (C : Cx D ca A p s m args meth c cX2_tied RX2 3 (some .int)) {q : Int32 × Mm} : ∀ (N : Nat) (v1 : Int32) (v2 : Int32) (mm : Mm), DX2_tied_4 N v1 v2 mm = some q → ∀ (H : Heap) (locs : List Loc) (ls : Array Slot), Hx WN ad ca WS D A s.heap mm H locs → lv_has ls 3 [(0, .ref (ad 19)), (1, .int v1), (2, .int v2)] → W p l e (rmk 4) s m args below meth c H locs 0 0 (MQ below (QcI WN ad ca WS D A pzT q) args s 0 0 A) (F0 m 4 ls []) := by
  intro N
  induction N with
  | zero =>
    intro v1 v2 mm h
    have h2 : (none : Option (Int32 × Mm)) = some q := h
    cases h2
  | succ N ih =>
    intro v1 v2 mm h H locs ls hH hl
    exact wbX2_tied_4 C ih h hH hl
set_option maxHeartbeats 2000000 in
set_option maxRecDepth 20000 in
theorem mX2_tied (l : Launch) {D : va_G} {ca : Nat → ClassId} {A : Nat → Prop} {ad : Nat → Nat} {mm : Mm} {q : Int32 × Mm} (h : dX2_tied mm = some q) : Met l yX2_tied (wsOf yX2_tied cX2_tied 3 (some .int)) (rmk 4) (PcX WN ad ca WS D A [.ref (ad 19)] mm) (QcI WN ad ca WS D A pzT q) 0 0 A := by
  unfold dX2_tied at h
  refine ent (by decide) (Nat.le_of_ble_eq_true rfl) (fun p e s m args below meth c hargs C hH ls hl => ?_)
  have hx := C.1
  have hb := C.2.1
  have hl : lv_has ls 3 [(0, .ref (ad 19))] := hl
  refine lv_iconst (v := 0) hx hb dX2_tied_0 (by decide) ?_
  refine lv_istore_n (lv' := [(1, .int 0), (0, .ref (ad 19))]) hx hb dX2_tied_1 rfl hl (by decide) rfl (fun ls hl => ?_)
  refine lv_iconst (v := 0) hx hb dX2_tied_2 (by decide) ?_
  refine lv_istore_n (lv' := [(2, .int 0), (1, .int 0), (0, .ref (ad 19))]) hx hb dX2_tied_3 rfl hl (by decide) rfl (fun ls hl => ?_)
  exact wX2_tied_4 C FU _ _ _ h _ _ _ hH (lv_sub hl [2, 1, 0] rfl)
set_option maxHeartbeats 2000000 in
set_option maxRecDepth 20000 in
theorem wX2_waysOf_37 (C : Cx D ca A p s m args meth c cX2_waysOf RX2 7 (some .long)) {q : Int64 × Mm} {mm : Mm} (h : DX2_waysOf_37 mm = some q) (hH : Hx WN ad ca WS D A s.heap mm H locs) (hl : lv_has ls 7 []) : W p l e (rmk 1) s m args below meth c H locs 0 0 (MQ below (QcL WN ad ca WS D A q) args s 0 0 A) (F0 m 37 ls []) := by
  unfold DX2_waysOf_37 at h
  have hx := C.1
  have hb := C.2.1
  refine lv_lconst (v := 0) hx hb dX2_waysOf_37 (by decide) ?_
  have h := Option.some.inj h
  subst h
  exact retL C hH dX2_waysOf_38
set_option maxHeartbeats 2000000 in
set_option maxRecDepth 20000 in
theorem wbX2_waysOf_42 (C : Cx D ca A p s m args meth c cX2_waysOf RX2 7 (some .long)) {q : Int64 × Mm} {k8 : Int64 → Int32 → Int32 → Mm → Option (Int64 × Mm)} (hk8 : ∀ (v2 : Int64) (v4 : Int32) (v5 : Int32) (mm : Mm), k8 v2 v4 v5 mm = some q → ∀ (H : Heap) (locs : List Loc) (ls : Array Slot), Hx WN ad ca WS D A s.heap mm H locs → lv_has ls 7 [(0, .ref (ad 19)), (2, .long v2), (4, .int v4), (5, .int v5)] → W p l e (rmk 1) s m args below meth c H locs 0 0 (MQ below (QcL WN ad ca WS D A q) args s 0 0 A) (F0 m 8 ls [])) {k42 : Int64 → Int32 → Int32 → Int32 → Mm → Option (Int64 × Mm)} (hk42 : ∀ (v2 : Int64) (v4 : Int32) (v5 : Int32) (v6 : Int32) (mm : Mm), k42 v2 v4 v5 v6 mm = some q → ∀ (H : Heap) (locs : List Loc) (ls : Array Slot), Hx WN ad ca WS D A s.heap mm H locs → lv_has ls 7 [(0, .ref (ad 19)), (2, .long v2), (4, .int v4), (5, .int v5), (6, .int v6)] → W p l e (rmk 1) s m args below meth c H locs 0 0 (MQ below (QcL WN ad ca WS D A q) args s 0 0 A) (F0 m 42 ls [])) {v2 : Int64} {v4 : Int32} {v5 : Int32} {v6 : Int32} {mm : Mm} (h : BX2_waysOf_42 k8 k42 v2 v4 v5 v6 mm = some q) (hH : Hx WN ad ca WS D A s.heap mm H locs) (hl : lv_has ls 7 [(0, .ref (ad 19)), (2, .long v2), (4, .int v4), (5, .int v5), (6, .int v6)]) : W p l e (rmk 1) s m args below meth c H locs 0 0 (MQ below (QcL WN ad ca WS D A q) args s 0 0 A) (F0 m 42 ls []) := by
  unfold BX2_waysOf_42 at h
  have hx := C.1
  have hb := C.2.1
  refine lv_iload hx hb dX2_waysOf_42 (lv_at hl 4 rfl) ?_
  refine lv_aload_n hx hb dX2_waysOf_44 rfl (lv_at hl 0 rfl) ?_
  refine rgS C hH fs_RX2_19_19 dX2_waysOf_45 ?_
  refine lv_iload hx hb dX2_waysOf_48 (lv_at hl 3 rfl) ?_
  obtain ⟨hi50, h⟩ := tC h
  refine raI C hH (k := (Int32.toNatClampNeg v5)) (by decide) (show WS 22 = .inr (0, 6, 0) from rfl) hi50 rfl dX2_waysOf_50 ?_
  refine lv_icmp_gt (tgt := 75) hx hb dX2_waysOf_51 (by decide) (fun hc51 => ?_) (fun hc51 => ?_)
  · replace h := tT hc51 h
    refine lv_iload hx hb dX2_waysOf_75 (lv_at hl 2 rfl) ?_
    refine lv_aload_n hx hb dX2_waysOf_77 rfl (lv_at hl 0 rfl) ?_
    refine rgS C hH fs_RX2_19_19 dX2_waysOf_78 ?_
    refine lv_iload hx hb dX2_waysOf_81 (lv_at hl 3 rfl) ?_
    obtain ⟨hi83, h⟩ := tC h
    refine raI C hH (k := (Int32.toNatClampNeg v5)) (by decide) (show WS 22 = .inr (0, 6, 0) from rfl) hi83 rfl dX2_waysOf_83 ?_
    refine lv_isub hx hb dX2_waysOf_84 ?_
    refine lv_istore (lv' := [(4, .int (v4 - (gI mm 22 (Int32.toNatClampNeg v5)))), (0, .ref (ad 19)), (2, .long v2), (5, .int v5), (6, .int v6)]) hx hb dX2_waysOf_85 hl (by decide) rfl (fun ls hl => ?_)
    refine lv_iinc (v := (v5 + 1)) (lv' := [(5, .int (v5 + 1)), (4, .int (v4 - (gI mm 22 (Int32.toNatClampNeg v5)))), (0, .ref (ad 19)), (2, .long v2), (6, .int v6)]) hx hb dX2_waysOf_87 hl (k := 3) rfl rfl (by decide) rfl (fun ls hl => ?_)
    refine lv_goto (tgt := 8) hx hb dX2_waysOf_90 (by decide) ?_
    exact hk8 _ _ _ _ h _ _ _ hH (lv_sub hl [2, 3, 1, 0] rfl)
  · replace h := tF hc51 h
    refine lv_lload_n hx hb dX2_waysOf_54 rfl (lv_at hl 1 rfl) ?_
    refine lv_iload hx hb dX2_waysOf_55 (lv_at hl 2 rfl) ?_
    refine lv_iload hx hb dX2_waysOf_57 (lv_at hl 4 rfl) ?_
    refine lv_isub hx hb dX2_waysOf_59 ?_
    refine lv_iconst (v := 1) hx hb dX2_waysOf_60 (by decide) ?_
    refine lv_iadd hx hb dX2_waysOf_61 ?_
    refine lv_i2l' hx hb dX2_waysOf_62 ?_
    refine lv_lmul hx hb dX2_waysOf_63 ?_
    refine lv_iload hx hb dX2_waysOf_64 (lv_at hl 4 rfl) ?_
    refine lv_i2l' hx hb dX2_waysOf_66 ?_
    obtain ⟨hz67, h⟩ := tN h
    refine lv_ldiv hx hb dX2_waysOf_67 hz67 ?_
    refine lv_lstore_n (lv' := [(2, .long ((v2 * (Int32.toInt64 ((v4 - v6) + 1))) / (Int32.toInt64 v6))), (0, .ref (ad 19)), (4, .int v4), (5, .int v5), (6, .int v6)]) hx hb dX2_waysOf_68 rfl hl (by decide) rfl (fun ls hl => ?_)
    refine lv_iinc (v := (v6 + 1)) (lv' := [(6, .int (v6 + 1)), (2, .long ((v2 * (Int32.toInt64 ((v4 - v6) + 1))) / (Int32.toInt64 v6))), (0, .ref (ad 19)), (4, .int v4), (5, .int v5)]) hx hb dX2_waysOf_69 hl (k := 4) rfl rfl (by decide) rfl (fun ls hl => ?_)
    refine lv_goto (tgt := 42) hx hb dX2_waysOf_72 (by decide) ?_
    exact hk42 _ _ _ _ _ h _ _ _ hH (lv_sub hl [2, 1, 3, 4, 0] rfl)
set_option maxHeartbeats 2000000 in
set_option maxRecDepth 20000 in
theorem wX2_waysOf_42 (C : Cx D ca A p s m args meth c cX2_waysOf RX2 7 (some .long)) {q : Int64 × Mm} {k8 : Int64 → Int32 → Int32 → Mm → Option (Int64 × Mm)} (hk8 : ∀ (v2 : Int64) (v4 : Int32) (v5 : Int32) (mm : Mm), k8 v2 v4 v5 mm = some q → ∀ (H : Heap) (locs : List Loc) (ls : Array Slot), Hx WN ad ca WS D A s.heap mm H locs → lv_has ls 7 [(0, .ref (ad 19)), (2, .long v2), (4, .int v4), (5, .int v5)] → W p l e (rmk 1) s m args below meth c H locs 0 0 (MQ below (QcL WN ad ca WS D A q) args s 0 0 A) (F0 m 8 ls [])) : ∀ (N : Nat) (v2 : Int64) (v4 : Int32) (v5 : Int32) (v6 : Int32) (mm : Mm), DX2_waysOf_42 k8 N v2 v4 v5 v6 mm = some q → ∀ (H : Heap) (locs : List Loc) (ls : Array Slot), Hx WN ad ca WS D A s.heap mm H locs → lv_has ls 7 [(0, .ref (ad 19)), (2, .long v2), (4, .int v4), (5, .int v5), (6, .int v6)] → W p l e (rmk 1) s m args below meth c H locs 0 0 (MQ below (QcL WN ad ca WS D A q) args s 0 0 A) (F0 m 42 ls []) := by
  intro N
  induction N with
  | zero =>
    intro v2 v4 v5 v6 mm h
    have h2 : (none : Option (Int64 × Mm)) = some q := h
    cases h2
  | succ N ih =>
    intro v2 v4 v5 v6 mm h H locs ls hH hl
    exact wbX2_waysOf_42 C hk8 ih h hH hl
set_option maxHeartbeats 2000000 in
set_option maxRecDepth 20000 in
theorem wbX2_waysOf_8 (C : Cx D ca A p s m args meth c cX2_waysOf RX2 7 (some .long)) {q : Int64 × Mm} {k8 : Int64 → Int32 → Int32 → Mm → Option (Int64 × Mm)} (hk8 : ∀ (v2 : Int64) (v4 : Int32) (v5 : Int32) (mm : Mm), k8 v2 v4 v5 mm = some q → ∀ (H : Heap) (locs : List Loc) (ls : Array Slot), Hx WN ad ca WS D A s.heap mm H locs → lv_has ls 7 [(0, .ref (ad 19)), (2, .long v2), (4, .int v4), (5, .int v5)] → W p l e (rmk 1) s m args below meth c H locs 0 0 (MQ below (QcL WN ad ca WS D A q) args s 0 0 A) (F0 m 8 ls [])) {v2 : Int64} {v4 : Int32} {v5 : Int32} {mm : Mm} (h : BX2_waysOf_8 k8 v2 v4 v5 mm = some q) (hH : Hx WN ad ca WS D A s.heap mm H locs) (hl : lv_has ls 7 [(0, .ref (ad 19)), (2, .long v2), (4, .int v4), (5, .int v5)]) : W p l e (rmk 1) s m args below meth c H locs 0 0 (MQ below (QcL WN ad ca WS D A q) args s 0 0 A) (F0 m 8 ls []) := by
  unfold BX2_waysOf_8 at h
  have hx := C.1
  have hb := C.2.1
  refine lv_iload hx hb dX2_waysOf_8 (lv_at hl 3 rfl) ?_
  refine lv_bipush (v := 6) hx hb dX2_waysOf_10 (by decide) ?_
  refine lv_icmp_ge (tgt := 93) hx hb dX2_waysOf_12 (by decide) (fun hc12 => ?_) (fun hc12 => ?_)
  · replace h := tT hc12 h
    refine lv_iload hx hb dX2_waysOf_93 (lv_at hl 2 rfl) ?_
    refine lv_if_ne (tgt := 102) hx hb dX2_waysOf_95 (by decide) (fun hc95 => ?_) (fun hc95 => ?_)
    · replace h := tF hc95 h
      refine lv_lconst (v := 0) hx hb dX2_waysOf_102 (by decide) ?_
      have h := Option.some.inj h
      subst h
      exact retL C hH dX2_waysOf_103
    · replace h := tT hc95 h
      refine lv_lload_n hx hb dX2_waysOf_98 rfl (lv_at hl 1 rfl) ?_
      refine lv_goto (tgt := 103) hx hb dX2_waysOf_99 (by decide) ?_
      have h := Option.some.inj h
      subst h
      exact retL C hH dX2_waysOf_103
  · replace h := tF hc12 h
    refine lv_aload_n hx hb dX2_waysOf_15 rfl (lv_at hl 0 rfl) ?_
    refine rgS C hH fs_RX2_19_19 dX2_waysOf_16 ?_
    refine lv_iload hx hb dX2_waysOf_19 (lv_at hl 3 rfl) ?_
    obtain ⟨hi21, h⟩ := tC h
    refine raI C hH (k := (Int32.toNatClampNeg v5)) (by decide) (show WS 22 = .inr (0, 6, 0) from rfl) hi21 rfl dX2_waysOf_21 ?_
    refine lv_if_lt (tgt := 37) hx hb dX2_waysOf_22 (by decide) (fun hc22 => ?_) (fun hc22 => ?_)
    · replace h := tT hc22 h
      exact wX2_waysOf_37 C h hH (lv_sub hl [] rfl)
    · replace h := tF hc22 h
      refine lv_aload_n hx hb dX2_waysOf_25 rfl (lv_at hl 0 rfl) ?_
      refine rgS C hH fs_RX2_19_19 dX2_waysOf_26 ?_
      refine lv_iload hx hb dX2_waysOf_29 (lv_at hl 3 rfl) ?_
      obtain ⟨hi31, h⟩ := tC h
      refine raI C hH (k := (Int32.toNatClampNeg v5)) (by decide) (show WS 22 = .inr (0, 6, 0) from rfl) hi31 rfl dX2_waysOf_31 ?_
      refine lv_iload hx hb dX2_waysOf_32 (lv_at hl 2 rfl) ?_
      refine lv_icmp_le (tgt := 39) hx hb dX2_waysOf_34 (by decide) (fun hc34 => ?_) (fun hc34 => ?_)
      · replace h := tT hc34 h
        refine lv_iconst (v := 1) hx hb dX2_waysOf_39 (by decide) ?_
        refine lv_istore (lv' := [(6, .int 1), (0, .ref (ad 19)), (2, .long v2), (4, .int v4), (5, .int v5)]) hx hb dX2_waysOf_40 hl (by decide) rfl (fun ls hl => ?_)
        exact wX2_waysOf_42 C hk8 FU _ _ _ _ _ h _ _ _ hH (lv_sub hl [1, 2, 3, 4, 0] rfl)
      · replace h := tF hc34 h
        exact wX2_waysOf_37 C h hH (lv_sub hl [] rfl)
set_option maxHeartbeats 2000000 in
set_option maxRecDepth 20000 in
theorem wX2_waysOf_8 (C : Cx D ca A p s m args meth c cX2_waysOf RX2 7 (some .long)) {q : Int64 × Mm} : ∀ (N : Nat) (v2 : Int64) (v4 : Int32) (v5 : Int32) (mm : Mm), DX2_waysOf_8 N v2 v4 v5 mm = some q → ∀ (H : Heap) (locs : List Loc) (ls : Array Slot), Hx WN ad ca WS D A s.heap mm H locs → lv_has ls 7 [(0, .ref (ad 19)), (2, .long v2), (4, .int v4), (5, .int v5)] → W p l e (rmk 1) s m args below meth c H locs 0 0 (MQ below (QcL WN ad ca WS D A q) args s 0 0 A) (F0 m 8 ls []) := by
  intro N
  induction N with
  | zero =>
    intro v2 v4 v5 mm h
    have h2 : (none : Option (Int64 × Mm)) = some q := h
    cases h2
  | succ N ih =>
    intro v2 v4 v5 mm h H locs ls hH hl
    exact wbX2_waysOf_8 C ih h hH hl
set_option maxHeartbeats 2000000 in
set_option maxRecDepth 20000 in
theorem mX2_waysOf (l : Launch) {D : va_G} {ca : Nat → ClassId} {A : Nat → Prop} {ad : Nat → Nat} {v1 : Int32} {mm : Mm} {q : Int64 × Mm} (h : dX2_waysOf v1 mm = some q) : Met l yX2_waysOf (wsOf yX2_waysOf cX2_waysOf 7 (some .long)) (rmk 1) (PcX WN ad ca WS D A [.ref (ad 19), .int v1] mm) (QcL WN ad ca WS D A q) 0 0 A := by
  unfold dX2_waysOf at h
  refine ent (by decide) (Nat.le_of_ble_eq_true rfl) (fun p e s m args below meth c hargs C hH ls hl => ?_)
  have hx := C.1
  have hb := C.2.1
  have hl : lv_has ls 7 [(0, .ref (ad 19)), (1, .int v1)] := hl
  refine lv_lconst (v := 1) hx hb dX2_waysOf_0 (by decide) ?_
  refine lv_lstore_n (lv' := [(2, .long 1), (0, .ref (ad 19)), (1, .int v1)]) hx hb dX2_waysOf_1 rfl hl (by decide) rfl (fun ls hl => ?_)
  refine lv_iload_n hx hb dX2_waysOf_2 rfl (lv_at hl 2 rfl) ?_
  refine lv_istore (lv' := [(4, .int v1), (2, .long 1), (0, .ref (ad 19)), (1, .int v1)]) hx hb dX2_waysOf_3 hl (by decide) rfl (fun ls hl => ?_)
  refine lv_iconst (v := 0) hx hb dX2_waysOf_5 (by decide) ?_
  refine lv_istore (lv' := [(5, .int 0), (4, .int v1), (2, .long 1), (0, .ref (ad 19)), (1, .int v1)]) hx hb dX2_waysOf_6 hl (by decide) rfl (fun ls hl => ?_)
  exact wX2_waysOf_8 C FU _ _ _ _ h _ _ _ hH (lv_sub hl [3, 2, 1, 0] rfl)
set_option maxHeartbeats 2000000 in
set_option maxRecDepth 20000 in
theorem mX2_ways (l : Launch) {D : va_G} {ca : Nat → ClassId} {A : Nat → Prop} {ad : Nat → Nat} {mm : Mm} {q : Int64 × Mm} (h : dX2_ways mm = some q) : Met l yX2_ways (wsOf yX2_ways cX2_ways 1 (some .long)) (rmk 5) (PcX WN ad ca WS D A [.ref (ad 19)] mm) (QcL WN ad ca WS D A q) 0 0 A := by
  unfold dX2_ways at h
  refine ent (by decide) (Nat.le_of_ble_eq_true rfl) (fun p e s m args below meth c hargs C hH ls hl => ?_)
  have hx := C.1
  have hb := C.2.1
  have hl : lv_has ls 1 [(0, .ref (ad 19))] := hl
  refine lv_aload_n hx hb dX2_ways_0 rfl (lv_at hl 0 rfl) ?_
  refine lv_aload_n hx hb dX2_ways_1 rfl (lv_at hl 0 rfl) ?_
  obtain ⟨q2, e2, h⟩ := tB h
  refine rcI C hH hl.1 (mX2_tied l e2) cf_RX2_108 ro_19 (RR_of (by decide) (by decide)) rfl (rest := [.ref (ad 19)]) rfl (Nat.le_of_ble_eq_true rfl) dX2_ways_2 ?_
  intro hz2 H locs hH
  obtain ⟨q5, e5, h⟩ := tB h
  refine rcL C hH hl.1 (mX2_waysOf l e5) cf_RX2_112 ro_19 (RR_of (by decide) (by decide)) rfl (rest := []) rfl (Nat.le_of_ble_eq_true rfl) dX2_ways_5 ?_
  intro H locs hH
  have h := Option.some.inj h
  subst h
  exact retL C hH dX2_ways_8
set_option maxHeartbeats 2000000 in
set_option maxRecDepth 20000 in
theorem mX2_waysWith (l : Launch) {D : va_G} {ca : Nat → ClassId} {A : Nat → Prop} {ad : Nat → Nat} {v1 : Int32} {v2 : Int32} {mm : Mm} {q : Int64 × Mm} (h : dX2_waysWith v1 v2 mm = some q) : Met l yX2_waysWith (wsOf yX2_waysWith cX2_waysWith 3 (some .long)) (rmk 6) (PcX WN ad ca WS D A [.ref (ad 19), .int v1, .int v2] mm) (QcL WN ad ca WS D A q) 0 0 A := by
  unfold dX2_waysWith at h
  refine ent (by decide) (Nat.le_of_ble_eq_true rfl) (fun p e s m args below meth c hargs C hH ls hl => ?_)
  have hx := C.1
  have hb := C.2.1
  have hl : lv_has ls 3 [(0, .ref (ad 19)), (1, .int v1), (2, .int v2)] := hl
  refine lv_aload_n hx hb dX2_waysWith_0 rfl (lv_at hl 0 rfl) ?_
  refine rgS C hH fs_RX2_22_19 dX2_waysWith_1 ?_
  refine lv_iload_n hx hb dX2_waysWith_4 rfl (lv_at hl 1 rfl) ?_
  obtain ⟨q5, e5, h⟩ := tB h
  refine rcI C hH hl.1 (mX7_isOpen l e5) cf_RX2_105 ro_1 (RR_of (by decide) (by decide)) rfl (rest := []) rfl (Nat.le_of_ble_eq_true rfl) dX2_waysWith_5 ?_
  intro hz5 H locs hH
  refine lv_if_eq (tgt := 33) hx hb dX2_waysWith_8 (by decide) (fun hc8 => ?_) (fun hc8 => ?_)
  · replace h := tT hc8 h
    refine lv_aload_n hx hb dX2_waysWith_33 rfl (lv_at hl 0 rfl) ?_
    refine rgS C hH fs_RX2_19_19 dX2_waysWith_34 ?_
    refine lv_iload_n hx hb dX2_waysWith_37 rfl (lv_at hl 2 rfl) ?_
    refine lv_dup2_11 hx hb dX2_waysWith_38 rfl rfl ?_
    obtain ⟨hi39, h⟩ := tC h
    refine raI C hH (k := (Int32.toNatClampNeg v2)) (by decide) (show WS 22 = .inr (0, 6, 0) from rfl) hi39 rfl dX2_waysWith_39 ?_
    refine lv_iconst (v := 1) hx hb dX2_waysWith_40 (by decide) ?_
    refine lv_isub hx hb dX2_waysWith_41 ?_
    obtain ⟨hi42, h⟩ := tC h
    refine rwI C hH (k := (Int32.toNatClampNeg v2)) (by decide) (show WS 22 = .inr (0, 6, 0) from rfl) hi42 rfl dX2_waysWith_42 (fun H locs hH => ?_)
    refine lv_aload_n hx hb dX2_waysWith_43 rfl (lv_at hl 0 rfl) ?_
    refine lv_aload_n hx hb dX2_waysWith_44 rfl (lv_at hl 0 rfl) ?_
    obtain ⟨q45, e45, h⟩ := tB h
    refine rcI C hH hl.1 (mX2_tied l e45) cf_RX2_108 ro_19 (RR_of (by decide) (by decide)) rfl (rest := [.ref (ad 19)]) rfl (Nat.le_of_ble_eq_true rfl) dX2_waysWith_45 ?_
    intro hz45 H locs hH
    refine lv_iconst (v := 1) hx hb dX2_waysWith_48 (by decide) ?_
    refine lv_isub hx hb dX2_waysWith_49 ?_
    obtain ⟨q50, e50, h⟩ := tB h
    refine rcL C hH hl.1 (mX2_waysOf l e50) cf_RX2_112 ro_19 (RR_of (by decide) (by decide)) rfl (rest := []) rfl (Nat.le_of_ble_eq_true rfl) dX2_waysWith_50 ?_
    intro H locs hH
    have h := Option.some.inj h
    subst h
    exact retL C hH dX2_waysWith_53
  · replace h := tF hc8 h
    refine lv_aload_n hx hb dX2_waysWith_11 rfl (lv_at hl 0 rfl) ?_
    refine rgS C hH fs_RX2_22_19 dX2_waysWith_12 ?_
    refine lv_iconst (v := 4) hx hb dX2_waysWith_15 (by decide) ?_
    refine lv_iload_n hx hb dX2_waysWith_16 rfl (lv_at hl 1 rfl) ?_
    obtain ⟨q17, e17, h⟩ := tB h
    refine rcI C hH hl.1 (mX7_told l e17) cf_RX2_38 ro_1 (RR_of (by decide) (by decide)) rfl (rest := []) rfl (Nat.le_of_ble_eq_true rfl) dX2_waysWith_17 ?_
    intro hz17 H locs hH
    refine lv_iload_n hx hb dX2_waysWith_20 rfl (lv_at hl 2 rfl) ?_
    refine lv_icmp_ne (tgt := 31) hx hb dX2_waysWith_21 (by decide) (fun hc21 => ?_) (fun hc21 => ?_)
    · replace h := tF hc21 h
      refine lv_lconst (v := 0) hx hb dX2_waysWith_31 (by decide) ?_
      have h := Option.some.inj h
      subst h
      exact retL C hH dX2_waysWith_32
    · replace h := tT hc21 h
      refine lv_aload_n hx hb dX2_waysWith_24 rfl (lv_at hl 0 rfl) ?_
      obtain ⟨q25, e25, h⟩ := tB h
      refine rcL C hH hl.1 (mX2_ways l e25) cf_RX2_116 ro_19 (RR_of (by decide) (by decide)) rfl (rest := []) rfl (Nat.le_of_ble_eq_true rfl) dX2_waysWith_25 ?_
      intro H locs hH
      refine lv_goto (tgt := 32) hx hb dX2_waysWith_28 (by decide) ?_
      have h := Option.some.inj h
      subst h
      exact retL C hH dX2_waysWith_32
set_option maxHeartbeats 2000000 in
set_option maxRecDepth 20000 in
theorem wX9_stock_20 (C : Cx D ca A p s m args meth c cX9_stock RX9 3 (some .long)) {q : Int64 × Mm} {mm : Mm} (h : DX9_stock_20 mm = some q) (hH : Hx WN ad ca WS D A s.heap mm H locs) (hl : lv_has ls 3 []) : W p l e (rmk 7) s m args below meth c H locs 0 0 (MQ below (QcL WN ad ca WS D A q) args s 0 0 A) (F0 m 20 ls []) := by
  unfold DX9_stock_20 at h
  have hx := C.1
  have hb := C.2.1
  refine rldc2 C (v := (-9223372036854775808)) k_RX9_138 dX9_stock_20 ?_
  have h := Option.some.inj h
  subst h
  exact retL C hH dX9_stock_23
set_option maxHeartbeats 2000000 in
set_option maxRecDepth 20000 in
theorem wX9_stock_52 (C : Cx D ca A p s m args meth c cX9_stock RX9 3 (some .long)) {q : Int64 × Mm} {mm : Mm} (h : DX9_stock_52 mm = some q) (hH : Hx WN ad ca WS D A s.heap mm H locs) (hl : lv_has ls 3 []) : W p l e (rmk 7) s m args below meth c H locs 0 0 (MQ below (QcL WN ad ca WS D A q) args s 0 0 A) (F0 m 52 ls []) := by
  unfold DX9_stock_52 at h
  have hx := C.1
  have hb := C.2.1
  refine rldc2 C (v := (-9223372036854775808)) k_RX9_138 dX9_stock_52 ?_
  have h := Option.some.inj h
  subst h
  exact retL C hH dX9_stock_55
set_option maxHeartbeats 2000000 in
set_option maxRecDepth 20000 in
theorem wX9_stock_24 (C : Cx D ca A p s m args meth c cX9_stock RX9 3 (some .long)) {q : Int64 × Mm} {v1 : Int32} {v2 : Int32} {mm : Mm} (h : DX9_stock_24 v1 v2 mm = some q) (hH : Hx WN ad ca WS D A s.heap mm H locs) (hl : lv_has ls 3 [(0, .ref (ad 0)), (1, .int v1), (2, .int v2)]) : W p l e (rmk 7) s m args below meth c H locs 0 0 (MQ below (QcL WN ad ca WS D A q) args s 0 0 A) (F0 m 24 ls []) := by
  unfold DX9_stock_24 at h
  have hx := C.1
  have hb := C.2.1
  refine lv_aload_n hx hb dX9_stock_24 rfl (lv_at hl 0 rfl) ?_
  refine rgS C hH fs_RX9_62_0 dX9_stock_25 ?_
  refine lv_iload_n hx hb dX9_stock_28 rfl (lv_at hl 1 rfl) ?_
  obtain ⟨hi29, h⟩ := tC h
  refine raS C hH (o := 37) (k := (Int32.toNatClampNeg v1)) (by decide) (show WS 37 = .inr (4, 6, 38) from rfl) hi29 rfl dX9_stock_29 ?_
  obtain ⟨q30, e30, h⟩ := tB h
  refine rcI C hH hl.1 (mX8_bytesRefusal l e30) cf_RX9_79 (ro_sh (sh_of hi29)) (RR_of (by decide) (by decide)) rfl (rest := []) rfl (Nat.le_of_ble_eq_true rfl) dX9_stock_30 ?_
  intro hz30 H locs hH
  refine lv_if_ne (tgt := 52) hx hb dX9_stock_33 (by decide) (fun hc33 => ?_) (fun hc33 => ?_)
  · replace h := tF hc33 h
    exact wX9_stock_52 C h hH (lv_sub hl [] rfl)
  · replace h := tT hc33 h
    refine lv_aload_n hx hb dX9_stock_36 rfl (lv_at hl 0 rfl) ?_
    refine rgS C hH fs_RX9_35_0 dX9_stock_37 ?_
    refine lv_aload_n hx hb dX9_stock_40 rfl (lv_at hl 0 rfl) ?_
    refine rgS C hH fs_RX9_62_0 dX9_stock_41 ?_
    refine lv_iload_n hx hb dX9_stock_44 rfl (lv_at hl 1 rfl) ?_
    obtain ⟨hi45, h⟩ := tC h
    refine raS C hH (o := 37) (k := (Int32.toNatClampNeg v1)) (by decide) (show WS 37 = .inr (4, 6, 38) from rfl) hi45 rfl dX9_stock_45 ?_
    obtain ⟨q46, e46, h⟩ := tB h
    refine rcI C hH hl.1 (mX2_stocked l e46) cf_RX9_216 ro_19 (RR_of (by decide) (by decide)) rfl (rest := []) rfl (Nat.le_of_ble_eq_true rfl) dX9_stock_46 ?_
    intro hz46 H locs hH
    refine lv_if_ne (tgt := 56) hx hb dX9_stock_49 (by decide) (fun hc49 => ?_) (fun hc49 => ?_)
    · replace h := tF hc49 h
      refine lv_iload_n hx hb dX9_stock_56 rfl (lv_at hl 2 rfl) ?_
      refine lv_iconst (v := (-1)) hx hb dX9_stock_57 (by decide) ?_
      refine lv_icmp_ne (tgt := 71) hx hb dX9_stock_58 (by decide) (fun hc58 => ?_) (fun hc58 => ?_)
      · replace h := tF hc58 h
        refine lv_aload_n hx hb dX9_stock_71 rfl (lv_at hl 0 rfl) ?_
        refine rgS C hH fs_RX9_35_0 dX9_stock_72 ?_
        refine lv_iload_n hx hb dX9_stock_75 rfl (lv_at hl 2 rfl) ?_
        refine lv_bipush (v := 10) hx hb dX9_stock_76 (by decide) ?_
        refine lv_idiv hx hb dX9_stock_78 (by decide) ?_
        refine lv_iload_n hx hb dX9_stock_79 rfl (lv_at hl 2 rfl) ?_
        refine lv_bipush (v := 10) hx hb dX9_stock_80 (by decide) ?_
        refine lv_irem' hx hb dX9_stock_82 (by decide) ?_
        obtain ⟨q83, e83, h⟩ := tB h
        refine rcL C hH hl.1 (mX2_waysWith l e83) cf_RX9_223 ro_19 (RR_of (by decide) (by decide)) rfl (rest := []) rfl (Nat.le_of_ble_eq_true rfl) dX9_stock_83 ?_
        intro H locs hH
        have h := Option.some.inj h
        subst h
        exact retL C hH dX9_stock_86
      · replace h := tT hc58 h
        refine lv_aload_n hx hb dX9_stock_61 rfl (lv_at hl 0 rfl) ?_
        refine rgS C hH fs_RX9_35_0 dX9_stock_62 ?_
        obtain ⟨q65, e65, h⟩ := tB h
        refine rcL C hH hl.1 (mX2_ways l e65) cf_RX9_220 ro_19 (RR_of (by decide) (by decide)) rfl (rest := []) rfl (Nat.le_of_ble_eq_true rfl) dX9_stock_65 ?_
        intro H locs hH
        refine lv_goto (tgt := 86) hx hb dX9_stock_68 (by decide) ?_
        have h := Option.some.inj h
        subst h
        exact retL C hH dX9_stock_86
    · replace h := tT hc49 h
      exact wX9_stock_52 C h hH (lv_sub hl [] rfl)
set_option maxHeartbeats 2000000 in
set_option maxRecDepth 20000 in
theorem mX9_stock (l : Launch) {D : va_G} {ca : Nat → ClassId} {A : Nat → Prop} {ad : Nat → Nat} {v1 : Int32} {v2 : Int32} {mm : Mm} {q : Int64 × Mm} (h : dX9_stock v1 v2 mm = some q) : Met l yX9_stock (wsOf yX9_stock cX9_stock 3 (some .long)) (rmk 7) (PcX WN ad ca WS D A [.ref (ad 0), .int v1, .int v2] mm) (QcL WN ad ca WS D A q) 0 0 A := by
  unfold dX9_stock at h
  refine ent (by decide) (Nat.le_of_ble_eq_true rfl) (fun p e s m args below meth c hargs C hH ls hl => ?_)
  have hx := C.1
  have hb := C.2.1
  have hl : lv_has ls 3 [(0, .ref (ad 0)), (1, .int v1), (2, .int v2)] := hl
  refine lv_iload_n hx hb dX9_stock_0 rfl (lv_at hl 1 rfl) ?_
  obtain ⟨q1, e1, h⟩ := tB h
  refine rsI C hH hl.1 (mX9_isShelf l e1) cs_RX9_75 (RR_of (by decide) (by decide)) rfl (rest := []) rfl (Nat.le_of_ble_eq_true rfl) dX9_stock_1 ?_
  intro hz1 H locs hH
  refine lv_if_eq (tgt := 20) hx hb dX9_stock_4 (by decide) (fun hc4 => ?_) (fun hc4 => ?_)
  · replace h := tT hc4 h
    exact wX9_stock_20 C h hH (lv_sub hl [] rfl)
  · replace h := tF hc4 h
    refine lv_iload_n hx hb dX9_stock_7 rfl (lv_at hl 2 rfl) ?_
    refine lv_iconst (v := (-1)) hx hb dX9_stock_8 (by decide) ?_
    refine lv_icmp_eq (tgt := 24) hx hb dX9_stock_9 (by decide) (fun hc9 => ?_) (fun hc9 => ?_)
    · replace h := tT hc9 h
      exact wX9_stock_24 C h hH (lv_sub hl [0, 1, 2] rfl)
    · replace h := tF hc9 h
      refine lv_aload_n hx hb dX9_stock_12 rfl (lv_at hl 0 rfl) ?_
      refine lv_iload_n hx hb dX9_stock_13 rfl (lv_at hl 2 rfl) ?_
      obtain ⟨q14, e14, h⟩ := tB h
      refine rcI C hH hl.1 (mX9_isSackAndGood l e14) cf_RX9_123 ro_0 (RR_of (by decide) (by decide)) rfl (rest := []) rfl (Nat.le_of_ble_eq_true rfl) dX9_stock_14 ?_
      intro hz14 H locs hH
      refine lv_if_ne (tgt := 24) hx hb dX9_stock_17 (by decide) (fun hc17 => ?_) (fun hc17 => ?_)
      · replace h := tF hc17 h
        exact wX9_stock_24 C h hH (lv_sub hl [0, 1, 2] rfl)
      · replace h := tT hc17 h
        exact wX9_stock_20 C h hH (lv_sub hl [] rfl)
set_option maxHeartbeats 2000000 in
set_option maxRecDepth 20000 in
theorem wX10_stock_51 (C : Cx D ca A p s m args meth c cX10_stock RX10 10 (some .long)) {q : Int64 × Mm} {mm : Mm} (h : DX10_stock_51 mm = some q) (hH : Hx WN ad ca WS D A s.heap mm H locs) (hl : lv_has ls 10 []) : W p l e (rmk 4) s m args below meth c H locs 0 0 (MQ below (QcL WN ad ca WS D A q) args s 0 0 A) (F0 m 51 ls []) := by
  unfold DX10_stock_51 at h
  have hx := C.1
  have hb := C.2.1
  refine rldc2 C (v := (-9223372036854775808)) k_RX10_225 dX10_stock_51 ?_
  have h := Option.some.inj h
  subst h
  exact retL C hH dX10_stock_54
set_option maxHeartbeats 2000000 in
set_option maxRecDepth 20000 in
theorem wbX10_stock_258 (C : Cx D ca A p s m args meth c cX10_stock RX10 10 (some .long)) {q : Int64 × Mm} {k248 : Int32 → Int32 → Int64 → Int32 → Int32 → Mm → Option (Int64 × Mm)} (hk248 : ∀ (v2 : Int32) (v4 : Int32) (v5 : Int64) (v7 : Int32) (v8 : Int32) (mm : Mm), k248 v2 v4 v5 v7 v8 mm = some q → ∀ (H : Heap) (locs : List Loc) (ls : Array Slot), Hx WN ad ca WS D A s.heap mm H locs → lv_has ls 10 [(0, .ref (ad 58)), (2, .int v2), (4, .int v4), (5, .long v5), (7, .int v7), (8, .int v8)] → W p l e (rmk 4) s m args below meth c H locs 0 0 (MQ below (QcL WN ad ca WS D A q) args s 0 0 A) (F0 m 248 ls [])) {k258 : Int32 → Int32 → Int64 → Int32 → Int32 → Int32 → Mm → Option (Int64 × Mm)} (hk258 : ∀ (v2 : Int32) (v4 : Int32) (v5 : Int64) (v7 : Int32) (v8 : Int32) (v9 : Int32) (mm : Mm), k258 v2 v4 v5 v7 v8 v9 mm = some q → ∀ (H : Heap) (locs : List Loc) (ls : Array Slot), Hx WN ad ca WS D A s.heap mm H locs → lv_has ls 10 [(0, .ref (ad 58)), (2, .int v2), (4, .int v4), (5, .long v5), (7, .int v7), (8, .int v8), (9, .int v9)] → W p l e (rmk 4) s m args below meth c H locs 0 0 (MQ below (QcL WN ad ca WS D A q) args s 0 0 A) (F0 m 258 ls [])) {v2 : Int32} {v4 : Int32} {v5 : Int64} {v7 : Int32} {v8 : Int32} {v9 : Int32} {mm : Mm} (h : BX10_stock_258 k248 k258 v2 v4 v5 v7 v8 v9 mm = some q) (hH : Hx WN ad ca WS D A s.heap mm H locs) (hl : lv_has ls 10 [(0, .ref (ad 58)), (2, .int v2), (4, .int v4), (5, .long v5), (7, .int v7), (8, .int v8), (9, .int v9)]) : W p l e (rmk 4) s m args below meth c H locs 0 0 (MQ below (QcL WN ad ca WS D A q) args s 0 0 A) (F0 m 258 ls []) := by
  unfold BX10_stock_258 at h
  have hx := C.1
  have hb := C.2.1
  refine lv_iload hx hb dX10_stock_258 (lv_at hl 6 rfl) ?_
  refine lv_aload_n hx hb dX10_stock_260 rfl (lv_at hl 0 rfl) ?_
  refine rgS C hH fs_RX10_48_58 dX10_stock_261 ?_
  refine lv_iload hx hb dX10_stock_264 (lv_at hl 5 rfl) ?_
  obtain ⟨hi266, h⟩ := tC h
  refine raI C hH (k := (Int32.toNatClampNeg v8)) (by decide) (show WS 71 = .inr (0, 6, 0) from rfl) hi266 rfl dX10_stock_266 ?_
  refine lv_icmp_gt (tgt := 291) hx hb dX10_stock_267 (by decide) (fun hc267 => ?_) (fun hc267 => ?_)
  · replace h := tT hc267 h
    refine lv_iinc (v := (v8 + 1)) (lv' := [(8, .int (v8 + 1)), (0, .ref (ad 58)), (2, .int v2), (4, .int v4), (5, .long v5), (7, .int v7), (9, .int v9)]) hx hb dX10_stock_291 hl (k := 5) rfl rfl (by decide) rfl (fun ls hl => ?_)
    refine lv_goto (tgt := 248) hx hb dX10_stock_294 (by decide) ?_
    exact hk248 _ _ _ _ _ _ h _ _ _ hH (lv_sub hl [1, 2, 3, 4, 5, 0] rfl)
  · replace h := tF hc267 h
    refine lv_iinc (v := (v7 + 1)) (lv' := [(7, .int (v7 + 1)), (0, .ref (ad 58)), (2, .int v2), (4, .int v4), (5, .long v5), (8, .int v8), (9, .int v9)]) hx hb dX10_stock_270 hl (k := 4) rfl rfl (by decide) rfl (fun ls hl => ?_)
    refine lv_lload hx hb dX10_stock_273 (lv_at hl 4 rfl) ?_
    refine lv_iload hx hb dX10_stock_275 (lv_at hl 0 rfl) ?_
    refine lv_i2l' hx hb dX10_stock_277 ?_
    refine lv_lmul hx hb dX10_stock_278 ?_
    refine lv_iload hx hb dX10_stock_279 (lv_at hl 6 rfl) ?_
    refine lv_i2l' hx hb dX10_stock_281 ?_
    obtain ⟨hz282, h⟩ := tN h
    refine lv_ldiv hx hb dX10_stock_282 hz282 ?_
    refine lv_lstore (lv' := [(5, .long ((v5 * (Int32.toInt64 (v7 + 1))) / (Int32.toInt64 v9))), (7, .int (v7 + 1)), (0, .ref (ad 58)), (2, .int v2), (4, .int v4), (8, .int v8), (9, .int v9)]) hx hb dX10_stock_283 hl (by decide) rfl (fun ls hl => ?_)
    refine lv_iinc (v := (v9 + 1)) (lv' := [(9, .int (v9 + 1)), (5, .long ((v5 * (Int32.toInt64 (v7 + 1))) / (Int32.toInt64 v9))), (7, .int (v7 + 1)), (0, .ref (ad 58)), (2, .int v2), (4, .int v4), (8, .int v8)]) hx hb dX10_stock_285 hl (k := 6) rfl rfl (by decide) rfl (fun ls hl => ?_)
    refine lv_goto (tgt := 258) hx hb dX10_stock_288 (by decide) ?_
    exact hk258 _ _ _ _ _ _ _ h _ _ _ hH (lv_sub hl [3, 4, 5, 1, 2, 6, 0] rfl)
set_option maxHeartbeats 2000000 in
set_option maxRecDepth 20000 in
theorem wX10_stock_258 (C : Cx D ca A p s m args meth c cX10_stock RX10 10 (some .long)) {q : Int64 × Mm} {k248 : Int32 → Int32 → Int64 → Int32 → Int32 → Mm → Option (Int64 × Mm)} (hk248 : ∀ (v2 : Int32) (v4 : Int32) (v5 : Int64) (v7 : Int32) (v8 : Int32) (mm : Mm), k248 v2 v4 v5 v7 v8 mm = some q → ∀ (H : Heap) (locs : List Loc) (ls : Array Slot), Hx WN ad ca WS D A s.heap mm H locs → lv_has ls 10 [(0, .ref (ad 58)), (2, .int v2), (4, .int v4), (5, .long v5), (7, .int v7), (8, .int v8)] → W p l e (rmk 4) s m args below meth c H locs 0 0 (MQ below (QcL WN ad ca WS D A q) args s 0 0 A) (F0 m 248 ls [])) : ∀ (N : Nat) (v2 : Int32) (v4 : Int32) (v5 : Int64) (v7 : Int32) (v8 : Int32) (v9 : Int32) (mm : Mm), DX10_stock_258 k248 N v2 v4 v5 v7 v8 v9 mm = some q → ∀ (H : Heap) (locs : List Loc) (ls : Array Slot), Hx WN ad ca WS D A s.heap mm H locs → lv_has ls 10 [(0, .ref (ad 58)), (2, .int v2), (4, .int v4), (5, .long v5), (7, .int v7), (8, .int v8), (9, .int v9)] → W p l e (rmk 4) s m args below meth c H locs 0 0 (MQ below (QcL WN ad ca WS D A q) args s 0 0 A) (F0 m 258 ls []) := by
  intro N
  induction N with
  | zero =>
    intro v2 v4 v5 v7 v8 v9 mm h
    have h2 : (none : Option (Int64 × Mm)) = some q := h
    cases h2
  | succ N ih =>
    intro v2 v4 v5 v7 v8 v9 mm h H locs ls hH hl
    exact wbX10_stock_258 C hk248 ih h hH hl
set_option maxHeartbeats 2000000 in
set_option maxRecDepth 20000 in
theorem wbX10_stock_248 (C : Cx D ca A p s m args meth c cX10_stock RX10 10 (some .long)) {q : Int64 × Mm} {k248 : Int32 → Int32 → Int64 → Int32 → Int32 → Mm → Option (Int64 × Mm)} (hk248 : ∀ (v2 : Int32) (v4 : Int32) (v5 : Int64) (v7 : Int32) (v8 : Int32) (mm : Mm), k248 v2 v4 v5 v7 v8 mm = some q → ∀ (H : Heap) (locs : List Loc) (ls : Array Slot), Hx WN ad ca WS D A s.heap mm H locs → lv_has ls 10 [(0, .ref (ad 58)), (2, .int v2), (4, .int v4), (5, .long v5), (7, .int v7), (8, .int v8)] → W p l e (rmk 4) s m args below meth c H locs 0 0 (MQ below (QcL WN ad ca WS D A q) args s 0 0 A) (F0 m 248 ls [])) {v2 : Int32} {v4 : Int32} {v5 : Int64} {v7 : Int32} {v8 : Int32} {mm : Mm} (h : BX10_stock_248 k248 v2 v4 v5 v7 v8 mm = some q) (hH : Hx WN ad ca WS D A s.heap mm H locs) (hl : lv_has ls 10 [(0, .ref (ad 58)), (2, .int v2), (4, .int v4), (5, .long v5), (7, .int v7), (8, .int v8)]) : W p l e (rmk 4) s m args below meth c H locs 0 0 (MQ below (QcL WN ad ca WS D A q) args s 0 0 A) (F0 m 248 ls []) := by
  unfold BX10_stock_248 at h
  have hx := C.1
  have hb := C.2.1
  refine lv_iload hx hb dX10_stock_248 (lv_at hl 5 rfl) ?_
  refine lv_bipush (v := 6) hx hb dX10_stock_250 (by decide) ?_
  refine lv_icmp_ge (tgt := 297) hx hb dX10_stock_252 (by decide) (fun hc252 => ?_) (fun hc252 => ?_)
  · replace h := tT hc252 h
    refine lv_iload_n hx hb dX10_stock_297 rfl (lv_at hl 1 rfl) ?_
    refine lv_iconst (v := (-1)) hx hb dX10_stock_298 (by decide) ?_
    refine lv_icmp_ne (tgt := 305) hx hb dX10_stock_299 (by decide) (fun hc299 => ?_) (fun hc299 => ?_)
    · replace h := tF hc299 h
      refine lv_aload_n hx hb dX10_stock_305 rfl (lv_at hl 0 rfl) ?_
      refine rgS C hH fs_RX10_25_58 dX10_stock_306 ?_
      refine lv_iload_n hx hb dX10_stock_309 rfl (lv_at hl 1 rfl) ?_
      refine lv_bipush (v := 10) hx hb dX10_stock_310 (by decide) ?_
      refine lv_idiv hx hb dX10_stock_312 (by decide) ?_
      obtain ⟨hi313, h⟩ := tC h
      refine raZ C hH (k := (Int32.toNatClampNeg (v2 / 10))) (by decide) (show WS 64 = .inr (2, 10, 0) from rfl) hi313 rfl dX10_stock_313 ?_
      refine lv_if_eq (tgt := 343) hx hb dX10_stock_314 (by decide) (fun hc314 => ?_) (fun hc314 => ?_)
      · replace h := tT hc314 h
        refine lv_lload hx hb dX10_stock_343 (lv_at hl 3 rfl) ?_
        refine lv_aload_n hx hb dX10_stock_345 rfl (lv_at hl 0 rfl) ?_
        refine rgS C hH fs_RX10_48_58 dX10_stock_346 ?_
        refine lv_iload_n hx hb dX10_stock_349 rfl (lv_at hl 1 rfl) ?_
        refine lv_bipush (v := 10) hx hb dX10_stock_350 (by decide) ?_
        refine lv_irem' hx hb dX10_stock_352 (by decide) ?_
        obtain ⟨hi353, h⟩ := tC h
        refine raI C hH (k := (Int32.toNatClampNeg (iRem v2 10))) (by decide) (show WS 71 = .inr (0, 6, 0) from rfl) hi353 rfl dX10_stock_353 ?_
        refine lv_i2l' hx hb dX10_stock_354 ?_
        refine lv_lmul hx hb dX10_stock_355 ?_
        refine lv_iload hx hb dX10_stock_356 (lv_at hl 2 rfl) ?_
        refine lv_i2l' hx hb dX10_stock_358 ?_
        obtain ⟨hz359, h⟩ := tN h
        refine lv_ldiv hx hb dX10_stock_359 hz359 ?_
        have h := Option.some.inj h
        subst h
        exact retL C hH dX10_stock_360
      · replace h := tF hc314 h
        refine lv_aload_n hx hb dX10_stock_317 rfl (lv_at hl 0 rfl) ?_
        refine rgS C hH fs_RX10_9_58 dX10_stock_318 ?_
        refine lv_bipush (v := 24) hx hb dX10_stock_321 (by decide) ?_
        refine lv_iload_n hx hb dX10_stock_323 rfl (lv_at hl 1 rfl) ?_
        refine lv_bipush (v := 10) hx hb dX10_stock_324 (by decide) ?_
        refine lv_idiv hx hb dX10_stock_326 (by decide) ?_
        refine lv_iadd hx hb dX10_stock_327 ?_
        obtain ⟨hi328, h⟩ := tC h
        refine raI C hH (k := (Int32.toNatClampNeg (24 + (v2 / 10)))) (by decide) (show WS 59 = .inr (0, 62, 0) from rfl) hi328 rfl dX10_stock_328 ?_
        refine lv_iload_n hx hb dX10_stock_329 rfl (lv_at hl 1 rfl) ?_
        refine lv_bipush (v := 10) hx hb dX10_stock_330 (by decide) ?_
        refine lv_irem' hx hb dX10_stock_332 (by decide) ?_
        refine lv_icmp_ne (tgt := 341) hx hb dX10_stock_333 (by decide) (fun hc333 => ?_) (fun hc333 => ?_)
        · replace h := tF hc333 h
          refine lv_lconst (v := 0) hx hb dX10_stock_341 (by decide) ?_
          have h := Option.some.inj h
          subst h
          exact retL C hH dX10_stock_342
        · replace h := tT hc333 h
          refine lv_lload hx hb dX10_stock_336 (lv_at hl 3 rfl) ?_
          refine lv_goto (tgt := 342) hx hb dX10_stock_338 (by decide) ?_
          have h := Option.some.inj h
          subst h
          exact retL C hH dX10_stock_342
    · replace h := tT hc299 h
      refine lv_lload hx hb dX10_stock_302 (lv_at hl 3 rfl) ?_
      have h := Option.some.inj h
      subst h
      exact retL C hH dX10_stock_304
  · replace h := tF hc252 h
    refine lv_iconst (v := 1) hx hb dX10_stock_255 (by decide) ?_
    refine lv_istore (lv' := [(9, .int 1), (0, .ref (ad 58)), (2, .int v2), (4, .int v4), (5, .long v5), (7, .int v7), (8, .int v8)]) hx hb dX10_stock_256 hl (by decide) rfl (fun ls hl => ?_)
    exact wX10_stock_258 C hk248 FU _ _ _ _ _ _ _ h _ _ _ hH (lv_sub hl [1, 2, 3, 4, 5, 6, 0] rfl)
set_option maxHeartbeats 2000000 in
set_option maxRecDepth 20000 in
theorem wX10_stock_248 (C : Cx D ca A p s m args meth c cX10_stock RX10 10 (some .long)) {q : Int64 × Mm} : ∀ (N : Nat) (v2 : Int32) (v4 : Int32) (v5 : Int64) (v7 : Int32) (v8 : Int32) (mm : Mm), DX10_stock_248 N v2 v4 v5 v7 v8 mm = some q → ∀ (H : Heap) (locs : List Loc) (ls : Array Slot), Hx WN ad ca WS D A s.heap mm H locs → lv_has ls 10 [(0, .ref (ad 58)), (2, .int v2), (4, .int v4), (5, .long v5), (7, .int v7), (8, .int v8)] → W p l e (rmk 4) s m args below meth c H locs 0 0 (MQ below (QcL WN ad ca WS D A q) args s 0 0 A) (F0 m 248 ls []) := by
  intro N
  induction N with
  | zero =>
    intro v2 v4 v5 v7 v8 mm h
    have h2 : (none : Option (Int64 × Mm)) = some q := h
    cases h2
  | succ N ih =>
    intro v2 v4 v5 v7 v8 mm h H locs ls hH hl
    exact wbX10_stock_248 C ih h hH hl
set_option maxHeartbeats 2000000 in
set_option maxRecDepth 20000 in
theorem wbX10_stock_196 (C : Cx D ca A p s m args meth c cX10_stock RX10 10 (some .long)) {q : Int64 × Mm} {k196 : Int32 → Int32 → Int32 → Int32 → Mm → Option (Int64 × Mm)} (hk196 : ∀ (v2 : Int32) (v3 : Int32) (v4 : Int32) (v5 : Int32) (mm : Mm), k196 v2 v3 v4 v5 mm = some q → ∀ (H : Heap) (locs : List Loc) (ls : Array Slot), Hx WN ad ca WS D A s.heap mm H locs → lv_has ls 10 [(0, .ref (ad 58)), (2, .int v2), (3, .int v3), (4, .int v4), (5, .int v5)] → W p l e (rmk 4) s m args below meth c H locs 0 0 (MQ below (QcL WN ad ca WS D A q) args s 0 0 A) (F0 m 196 ls [])) {v2 : Int32} {v3 : Int32} {v4 : Int32} {v5 : Int32} {mm : Mm} (h : BX10_stock_196 k196 v2 v3 v4 v5 mm = some q) (hH : Hx WN ad ca WS D A s.heap mm H locs) (hl : lv_has ls 10 [(0, .ref (ad 58)), (2, .int v2), (3, .int v3), (4, .int v4), (5, .int v5)]) : W p l e (rmk 4) s m args below meth c H locs 0 0 (MQ below (QcL WN ad ca WS D A q) args s 0 0 A) (F0 m 196 ls []) := by
  unfold BX10_stock_196 at h
  have hx := C.1
  have hb := C.2.1
  refine lv_iload hx hb dX10_stock_196 (lv_at hl 4 rfl) ?_
  refine lv_bipush (v := 6) hx hb dX10_stock_198 (by decide) ?_
  refine lv_icmp_ge (tgt := 231) hx hb dX10_stock_200 (by decide) (fun hc200 => ?_) (fun hc200 => ?_)
  · replace h := tT hc200 h
    refine lv_iload_n hx hb dX10_stock_231 rfl (lv_at hl 2 rfl) ?_
    refine lv_iload hx hb dX10_stock_232 (lv_at hl 3 rfl) ?_
    refine lv_icmp_eq (tgt := 239) hx hb dX10_stock_234 (by decide) (fun hc234 => ?_) (fun hc234 => ?_)
    · replace h := tT hc234 h
      refine lv_lconst (v := 1) hx hb dX10_stock_239 (by decide) ?_
      refine lv_lstore (lv' := [(5, .long 1), (0, .ref (ad 58)), (2, .int v2), (3, .int v3), (4, .int v4)]) hx hb dX10_stock_240 hl (by decide) rfl (fun ls hl => ?_)
      refine lv_iconst (v := 0) hx hb dX10_stock_242 (by decide) ?_
      refine lv_istore (lv' := [(7, .int 0), (5, .long 1), (0, .ref (ad 58)), (2, .int v2), (3, .int v3), (4, .int v4)]) hx hb dX10_stock_243 hl (by decide) rfl (fun ls hl => ?_)
      refine lv_iconst (v := 0) hx hb dX10_stock_245 (by decide) ?_
      refine lv_istore (lv' := [(8, .int 0), (7, .int 0), (5, .long 1), (0, .ref (ad 58)), (2, .int v2), (3, .int v3), (4, .int v4)]) hx hb dX10_stock_246 hl (by decide) rfl (fun ls hl => ?_)
      exact wX10_stock_248 C FU _ _ _ _ _ _ h _ _ _ hH (lv_sub hl [3, 4, 6, 2, 1, 0] rfl)
    · replace h := tF hc234 h
      refine lv_lconst (v := 0) hx hb dX10_stock_237 (by decide) ?_
      have h := Option.some.inj h
      subst h
      exact retL C hH dX10_stock_238
  · replace h := tF hc200 h
    refine lv_iload_n hx hb dX10_stock_203 rfl (lv_at hl 2 rfl) ?_
    refine lv_aload_n hx hb dX10_stock_204 rfl (lv_at hl 0 rfl) ?_
    refine rgS C hH fs_RX10_48_58 dX10_stock_205 ?_
    refine lv_iload hx hb dX10_stock_208 (lv_at hl 4 rfl) ?_
    obtain ⟨hi210, h⟩ := tC h
    refine raI C hH (k := (Int32.toNatClampNeg v5)) (by decide) (show WS 71 = .inr (0, 6, 0) from rfl) hi210 rfl dX10_stock_210 ?_
    refine lv_iadd hx hb dX10_stock_211 ?_
    refine lv_istore_n (lv' := [(3, .int (v3 + (gI mm 71 (Int32.toNatClampNeg v5)))), (0, .ref (ad 58)), (2, .int v2), (4, .int v4), (5, .int v5)]) hx hb dX10_stock_212 rfl hl (by decide) rfl (fun ls hl => ?_)
    refine lv_aload_n hx hb dX10_stock_213 rfl (lv_at hl 1 rfl) ?_
    refine rgS C hH fs_RX10_48_58 dX10_stock_214 ?_
    refine lv_iload hx hb dX10_stock_217 (lv_at hl 4 rfl) ?_
    obtain ⟨hi219, h⟩ := tC h
    refine raI C hH (k := (Int32.toNatClampNeg v5)) (by decide) (show WS 71 = .inr (0, 6, 0) from rfl) hi219 rfl dX10_stock_219 ?_
    refine lv_if_ge (tgt := 225) hx hb dX10_stock_220 (by decide) (fun hc220 => ?_) (fun hc220 => ?_)
    · replace h := tT hc220 h
      refine lv_iinc (v := (v5 + 1)) (lv' := [(5, .int (v5 + 1)), (3, .int (v3 + (gI mm 71 (Int32.toNatClampNeg v5)))), (0, .ref (ad 58)), (2, .int v2), (4, .int v4)]) hx hb dX10_stock_225 hl (k := 4) rfl rfl (by decide) rfl (fun ls hl => ?_)
      refine lv_goto (tgt := 196) hx hb dX10_stock_228 (by decide) ?_
      exact hk196 _ _ _ _ _ h _ _ _ hH (lv_sub hl [2, 3, 1, 4, 0] rfl)
    · replace h := tF hc220 h
      refine lv_lconst (v := 0) hx hb dX10_stock_223 (by decide) ?_
      have h := Option.some.inj h
      subst h
      exact retL C hH dX10_stock_224
set_option maxHeartbeats 2000000 in
set_option maxRecDepth 20000 in
theorem wX10_stock_196 (C : Cx D ca A p s m args meth c cX10_stock RX10 10 (some .long)) {q : Int64 × Mm} : ∀ (N : Nat) (v2 : Int32) (v3 : Int32) (v4 : Int32) (v5 : Int32) (mm : Mm), DX10_stock_196 N v2 v3 v4 v5 mm = some q → ∀ (H : Heap) (locs : List Loc) (ls : Array Slot), Hx WN ad ca WS D A s.heap mm H locs → lv_has ls 10 [(0, .ref (ad 58)), (2, .int v2), (3, .int v3), (4, .int v4), (5, .int v5)] → W p l e (rmk 4) s m args below meth c H locs 0 0 (MQ below (QcL WN ad ca WS D A q) args s 0 0 A) (F0 m 196 ls []) := by
  intro N
  induction N with
  | zero =>
    intro v2 v3 v4 v5 mm h
    have h2 : (none : Option (Int64 × Mm)) = some q := h
    cases h2
  | succ N ih =>
    intro v2 v3 v4 v5 mm h H locs ls hH hl
    exact wbX10_stock_196 C ih h hH hl
set_option maxHeartbeats 2000000 in
set_option maxRecDepth 20000 in
theorem wX10_stock_184 (C : Cx D ca A p s m args meth c cX10_stock RX10 10 (some .long)) {q : Int64 × Mm} {k125 : Int32 → Int32 → Int32 → Int32 → Mm → Option (Int64 × Mm)} (hk125 : ∀ (v2 : Int32) (v3 : Int32) (v4 : Int32) (v5 : Int32) (mm : Mm), k125 v2 v3 v4 v5 mm = some q → ∀ (H : Heap) (locs : List Loc) (ls : Array Slot), Hx WN ad ca WS D A s.heap mm H locs → lv_has ls 10 [(0, .ref (ad 58)), (2, .int v2), (3, .int v3), (4, .int v4), (5, .int v5)] → W p l e (rmk 4) s m args below meth c H locs 0 0 (MQ below (QcL WN ad ca WS D A q) args s 0 0 A) (F0 m 125 ls [])) {v2 : Int32} {v3 : Int32} {v5 : Int32} {s0 : Int32} {s1 : Int32} {mm : Mm} (h : DX10_stock_184 k125 v2 v3 v5 s0 s1 mm = some q) (hH : Hx WN ad ca WS D A s.heap mm H locs) (hl : lv_has ls 10 [(0, .ref (ad 58)), (2, .int v2), (3, .int v3), (5, .int v5)]) : W p l e (rmk 4) s m args below meth c H locs 0 0 (MQ below (QcL WN ad ca WS D A q) args s 0 0 A) (F0 m 184 ls [.int s0, .int s1]) := by
  unfold DX10_stock_184 at h
  have hx := C.1
  have hb := C.2.1
  refine lv_iadd hx hb dX10_stock_184 ?_
  refine lv_istore (lv' := [(4, .int (s1 + s0)), (0, .ref (ad 58)), (2, .int v2), (3, .int v3), (5, .int v5)]) hx hb dX10_stock_185 hl (by decide) rfl (fun ls hl => ?_)
  refine lv_iinc (v := (v5 + 1)) (lv' := [(5, .int (v5 + 1)), (4, .int (s1 + s0)), (0, .ref (ad 58)), (2, .int v2), (3, .int v3)]) hx hb dX10_stock_187 hl (k := 4) rfl rfl (by decide) rfl (fun ls hl => ?_)
  refine lv_goto (tgt := 125) hx hb dX10_stock_190 (by decide) ?_
  exact hk125 _ _ _ _ _ h _ _ _ hH (lv_sub hl [2, 3, 4, 1, 0] rfl)
set_option maxHeartbeats 2000000 in
set_option maxRecDepth 20000 in
theorem wX10_stock_165 (C : Cx D ca A p s m args meth c cX10_stock RX10 10 (some .long)) {q : Int64 × Mm} {k125 : Int32 → Int32 → Int32 → Int32 → Mm → Option (Int64 × Mm)} (hk125 : ∀ (v2 : Int32) (v3 : Int32) (v4 : Int32) (v5 : Int32) (mm : Mm), k125 v2 v3 v4 v5 mm = some q → ∀ (H : Heap) (locs : List Loc) (ls : Array Slot), Hx WN ad ca WS D A s.heap mm H locs → lv_has ls 10 [(0, .ref (ad 58)), (2, .int v2), (3, .int v3), (4, .int v4), (5, .int v5)] → W p l e (rmk 4) s m args below meth c H locs 0 0 (MQ below (QcL WN ad ca WS D A q) args s 0 0 A) (F0 m 125 ls [])) {v2 : Int32} {v3 : Int32} {v4 : Int32} {v5 : Int32} {s0 : Int32} {s1 : Int32} {s2 : Int32} {mm : Mm} (h : DX10_stock_165 k125 v2 v3 v4 v5 s0 s1 s2 mm = some q) (hH : Hx WN ad ca WS D A s.heap mm H locs) (hl : lv_has ls 10 [(0, .ref (ad 58)), (2, .int v2), (3, .int v3), (4, .int v4), (5, .int v5)]) : W p l e (rmk 4) s m args below meth c H locs 0 0 (MQ below (QcL WN ad ca WS D A q) args s 0 0 A) (F0 m 165 ls [.int s0, .int s1, .int s2, .ref (ad 71)]) := by
  unfold DX10_stock_165 at h
  have hx := C.1
  have hb := C.2.1
  refine lv_isub hx hb dX10_stock_165 ?_
  obtain ⟨hi166, h⟩ := tC h
  refine rwI C hH (k := (Int32.toNatClampNeg s2)) (by decide) (show WS 71 = .inr (0, 6, 0) from rfl) hi166 rfl dX10_stock_166 (fun H locs hH => ?_)
  refine lv_iload hx hb dX10_stock_167 (lv_at hl 3 rfl) ?_
  refine lv_aload_n hx hb dX10_stock_169 rfl (lv_at hl 0 rfl) ?_
  refine rgS C hH fs_RX10_25_58 dX10_stock_170 ?_
  refine lv_iload hx hb dX10_stock_173 (lv_at hl 4 rfl) ?_
  obtain ⟨hi175, h⟩ := tC h
  refine raZ C hH (k := (Int32.toNatClampNeg v5)) (by decide) (show WS 64 = .inr (2, 10, 0) from rfl) hi175 rfl dX10_stock_175 ?_
  refine lv_if_eq (tgt := 183) hx hb dX10_stock_176 (by decide) (fun hc176 => ?_) (fun hc176 => ?_)
  · replace h := tT hc176 h
    refine lv_iconst (v := 1) hx hb dX10_stock_183 (by decide) ?_
    exact wX10_stock_184 C hk125 h hH (lv_sub hl [0, 1, 2, 4] rfl)
  · replace h := tF hc176 h
    refine lv_iconst (v := 0) hx hb dX10_stock_179 (by decide) ?_
    refine lv_goto (tgt := 184) hx hb dX10_stock_180 (by decide) ?_
    exact wX10_stock_184 C hk125 h hH (lv_sub hl [0, 1, 2, 4] rfl)
set_option maxHeartbeats 2000000 in
set_option maxRecDepth 20000 in
theorem wbX10_stock_125 (C : Cx D ca A p s m args meth c cX10_stock RX10 10 (some .long)) {q : Int64 × Mm} {k125 : Int32 → Int32 → Int32 → Int32 → Mm → Option (Int64 × Mm)} (hk125 : ∀ (v2 : Int32) (v3 : Int32) (v4 : Int32) (v5 : Int32) (mm : Mm), k125 v2 v3 v4 v5 mm = some q → ∀ (H : Heap) (locs : List Loc) (ls : Array Slot), Hx WN ad ca WS D A s.heap mm H locs → lv_has ls 10 [(0, .ref (ad 58)), (2, .int v2), (3, .int v3), (4, .int v4), (5, .int v5)] → W p l e (rmk 4) s m args below meth c H locs 0 0 (MQ below (QcL WN ad ca WS D A q) args s 0 0 A) (F0 m 125 ls [])) {v2 : Int32} {v3 : Int32} {v4 : Int32} {v5 : Int32} {mm : Mm} (h : BX10_stock_125 k125 v2 v3 v4 v5 mm = some q) (hH : Hx WN ad ca WS D A s.heap mm H locs) (hl : lv_has ls 10 [(0, .ref (ad 58)), (2, .int v2), (3, .int v3), (4, .int v4), (5, .int v5)]) : W p l e (rmk 4) s m args below meth c H locs 0 0 (MQ below (QcL WN ad ca WS D A q) args s 0 0 A) (F0 m 125 ls []) := by
  unfold BX10_stock_125 at h
  have hx := C.1
  have hb := C.2.1
  refine lv_iload hx hb dX10_stock_125 (lv_at hl 4 rfl) ?_
  refine lv_aload_n hx hb dX10_stock_127 rfl (lv_at hl 0 rfl) ?_
  refine rgI C hH fi_RX10_100_58 dX10_stock_128 ?_
  refine lv_icmp_ge (tgt := 193) hx hb dX10_stock_131 (by decide) (fun hc131 => ?_) (fun hc131 => ?_)
  · replace h := tT hc131 h
    refine lv_iconst (v := 0) hx hb dX10_stock_193 (by decide) ?_
    refine lv_istore (lv' := [(5, .int 0), (0, .ref (ad 58)), (2, .int v2), (3, .int v3), (4, .int v4)]) hx hb dX10_stock_194 hl (by decide) rfl (fun ls hl => ?_)
    exact wX10_stock_196 C FU _ _ _ _ _ h _ _ _ hH (lv_sub hl [1, 2, 3, 4, 0] rfl)
  · replace h := tF hc131 h
    refine lv_aload_n hx hb dX10_stock_134 rfl (lv_at hl 0 rfl) ?_
    refine rgS C hH fs_RX10_48_58 dX10_stock_135 ?_
    refine lv_aload_n hx hb dX10_stock_138 rfl (lv_at hl 0 rfl) ?_
    refine rgS C hH fs_RX10_9_58 dX10_stock_139 ?_
    refine lv_bipush (v := 24) hx hb dX10_stock_142 (by decide) ?_
    refine lv_iload hx hb dX10_stock_144 (lv_at hl 4 rfl) ?_
    refine lv_iadd hx hb dX10_stock_146 ?_
    obtain ⟨hi147, h⟩ := tC h
    refine raI C hH (k := (Int32.toNatClampNeg (24 + v5))) (by decide) (show WS 59 = .inr (0, 62, 0) from rfl) hi147 rfl dX10_stock_147 ?_
    refine lv_dup2_11 hx hb dX10_stock_148 rfl rfl ?_
    obtain ⟨hi149, h⟩ := tC h
    refine raI C hH (k := (Int32.toNatClampNeg (gI mm 59 (Int32.toNatClampNeg (24 + v5))))) (by decide) (show WS 71 = .inr (0, 6, 0) from rfl) hi149 rfl dX10_stock_149 ?_
    refine lv_aload_n hx hb dX10_stock_150 rfl (lv_at hl 0 rfl) ?_
    refine rgS C hH fs_RX10_25_58 dX10_stock_151 ?_
    refine lv_iload hx hb dX10_stock_154 (lv_at hl 4 rfl) ?_
    obtain ⟨hi156, h⟩ := tC h
    refine raZ C hH (k := (Int32.toNatClampNeg v5)) (by decide) (show WS 64 = .inr (2, 10, 0) from rfl) hi156 rfl dX10_stock_156 ?_
    refine lv_if_eq (tgt := 164) hx hb dX10_stock_157 (by decide) (fun hc157 => ?_) (fun hc157 => ?_)
    · replace h := tT hc157 h
      refine lv_iconst (v := 0) hx hb dX10_stock_164 (by decide) ?_
      exact wX10_stock_165 C hk125 h hH (lv_sub hl [0, 1, 2, 3, 4] rfl)
    · replace h := tF hc157 h
      refine lv_iconst (v := 1) hx hb dX10_stock_160 (by decide) ?_
      refine lv_goto (tgt := 165) hx hb dX10_stock_161 (by decide) ?_
      exact wX10_stock_165 C hk125 h hH (lv_sub hl [0, 1, 2, 3, 4] rfl)
set_option maxHeartbeats 2000000 in
set_option maxRecDepth 20000 in
theorem wX10_stock_125 (C : Cx D ca A p s m args meth c cX10_stock RX10 10 (some .long)) {q : Int64 × Mm} : ∀ (N : Nat) (v2 : Int32) (v3 : Int32) (v4 : Int32) (v5 : Int32) (mm : Mm), DX10_stock_125 N v2 v3 v4 v5 mm = some q → ∀ (H : Heap) (locs : List Loc) (ls : Array Slot), Hx WN ad ca WS D A s.heap mm H locs → lv_has ls 10 [(0, .ref (ad 58)), (2, .int v2), (3, .int v3), (4, .int v4), (5, .int v5)] → W p l e (rmk 4) s m args below meth c H locs 0 0 (MQ below (QcL WN ad ca WS D A q) args s 0 0 A) (F0 m 125 ls []) := by
  intro N
  induction N with
  | zero =>
    intro v2 v3 v4 v5 mm h
    have h2 : (none : Option (Int64 × Mm)) = some q := h
    cases h2
  | succ N ih =>
    intro v2 v3 v4 v5 mm h H locs ls hH hl
    exact wbX10_stock_125 C ih h hH hl
set_option maxHeartbeats 2000000 in
set_option maxRecDepth 20000 in
theorem wbX10_stock_60 (C : Cx D ca A p s m args meth c cX10_stock RX10 10 (some .long)) {q : Int64 × Mm} {k60 : Int32 → Int32 → Int32 → Int32 → Mm → Option (Int64 × Mm)} (hk60 : ∀ (v1 : Int32) (v2 : Int32) (v3 : Int32) (v4 : Int32) (mm : Mm), k60 v1 v2 v3 v4 mm = some q → ∀ (H : Heap) (locs : List Loc) (ls : Array Slot), Hx WN ad ca WS D A s.heap mm H locs → lv_has ls 10 [(0, .ref (ad 58)), (1, .int v1), (2, .int v2), (3, .int v3), (4, .int v4)] → W p l e (rmk 4) s m args below meth c H locs 0 0 (MQ below (QcL WN ad ca WS D A q) args s 0 0 A) (F0 m 60 ls [])) {v1 : Int32} {v2 : Int32} {v3 : Int32} {v4 : Int32} {mm : Mm} (h : BX10_stock_60 k60 v1 v2 v3 v4 mm = some q) (hH : Hx WN ad ca WS D A s.heap mm H locs) (hl : lv_has ls 10 [(0, .ref (ad 58)), (1, .int v1), (2, .int v2), (3, .int v3), (4, .int v4)]) : W p l e (rmk 4) s m args below meth c H locs 0 0 (MQ below (QcL WN ad ca WS D A q) args s 0 0 A) (F0 m 60 ls []) := by
  unfold BX10_stock_60 at h
  have hx := C.1
  have hb := C.2.1
  refine lv_iload hx hb dX10_stock_60 (lv_at hl 4 rfl) ?_
  refine lv_bipush (v := 6) hx hb dX10_stock_62 (by decide) ?_
  refine lv_icmp_ge (tgt := 119) hx hb dX10_stock_64 (by decide) (fun hc64 => ?_) (fun hc64 => ?_)
  · replace h := tT hc64 h
    refine lv_iconst (v := 0) hx hb dX10_stock_119 (by decide) ?_
    refine lv_istore (lv' := [(4, .int 0), (0, .ref (ad 58)), (1, .int v1), (2, .int v2), (3, .int v3)]) hx hb dX10_stock_120 hl (by decide) rfl (fun ls hl => ?_)
    refine lv_iconst (v := 0) hx hb dX10_stock_122 (by decide) ?_
    refine lv_istore (lv' := [(5, .int 0), (4, .int 0), (0, .ref (ad 58)), (1, .int v1), (2, .int v2), (3, .int v3)]) hx hb dX10_stock_123 hl (by decide) rfl (fun ls hl => ?_)
    exact wX10_stock_125 C FU _ _ _ _ _ h _ _ _ hH (lv_sub hl [2, 4, 5, 1, 0] rfl)
  · replace h := tF hc64 h
    refine lv_aload_n hx hb dX10_stock_67 rfl (lv_at hl 0 rfl) ?_
    refine rgS C hH fs_RX10_78_58 dX10_stock_68 ?_
    refine lv_bipush (v := 60) hx hb dX10_stock_71 (by decide) ?_
    refine lv_iload_n hx hb dX10_stock_73 rfl (lv_at hl 1 rfl) ?_
    refine lv_imul hx hb dX10_stock_74 ?_
    refine lv_iload hx hb dX10_stock_75 (lv_at hl 4 rfl) ?_
    refine lv_iadd hx hb dX10_stock_77 ?_
    obtain ⟨hi78, h⟩ := tC h
    refine raL C hH (k := (Int32.toNatClampNeg ((60 * v1) + v4))) (by decide) (show WS 81 = .inr (3, 360, 0) from rfl) hi78 rfl dX10_stock_78 ?_
    refine lv_lconst (v := 0) hx hb dX10_stock_79 (by decide) ?_
    refine rldc2 C (v := 9) k_RX10_270 dX10_stock_80 ?_
    obtain ⟨q83, e83, h⟩ := tB h
    refine rsI C hH hl.1 (mX10_within l e83) cs_RX10_96 (RR_of (by decide) (by decide)) rfl (rest := []) rfl (Nat.le_of_ble_eq_true rfl) dX10_stock_83 ?_
    intro hz83 H locs hH
    refine lv_if_ne (tgt := 93) hx hb dX10_stock_86 (by decide) (fun hc86 => ?_) (fun hc86 => ?_)
    · replace h := tF hc86 h
      refine lv_aload_n hx hb dX10_stock_93 rfl (lv_at hl 0 rfl) ?_
      refine rgS C hH fs_RX10_48_58 dX10_stock_94 ?_
      refine lv_iload hx hb dX10_stock_97 (lv_at hl 4 rfl) ?_
      refine lv_aload_n hx hb dX10_stock_99 rfl (lv_at hl 0 rfl) ?_
      refine rgS C hH fs_RX10_78_58 dX10_stock_100 ?_
      refine lv_bipush (v := 60) hx hb dX10_stock_103 (by decide) ?_
      refine lv_iload_n hx hb dX10_stock_105 rfl (lv_at hl 1 rfl) ?_
      refine lv_imul hx hb dX10_stock_106 ?_
      refine lv_iload hx hb dX10_stock_107 (lv_at hl 4 rfl) ?_
      refine lv_iadd hx hb dX10_stock_109 ?_
      obtain ⟨hi110, h⟩ := tC h
      refine raL C hH (k := (Int32.toNatClampNeg ((60 * v1) + v4))) (by decide) (show WS 81 = .inr (3, 360, 0) from rfl) hi110 rfl dX10_stock_110 ?_
      refine lv_l2i' hx hb dX10_stock_111 ?_
      obtain ⟨hi112, h⟩ := tC h
      refine rwI C hH (k := (Int32.toNatClampNeg v4)) (by decide) (show WS 71 = .inr (0, 6, 0) from rfl) hi112 rfl dX10_stock_112 (fun H locs hH => ?_)
      refine lv_iinc (v := (v4 + 1)) (lv' := [(4, .int (v4 + 1)), (0, .ref (ad 58)), (1, .int v1), (2, .int v2), (3, .int v3)]) hx hb dX10_stock_113 hl (k := 4) rfl rfl (by decide) rfl (fun ls hl => ?_)
      refine lv_goto (tgt := 60) hx hb dX10_stock_116 (by decide) ?_
      exact hk60 _ _ _ _ _ h _ _ _ hH (lv_sub hl [1, 2, 3, 4, 0] rfl)
    · replace h := tT hc86 h
      refine rldc2 C (v := (-9223372036854775808)) k_RX10_225 dX10_stock_89 ?_
      have h := Option.some.inj h
      subst h
      exact retL C hH dX10_stock_92
set_option maxHeartbeats 2000000 in
set_option maxRecDepth 20000 in
theorem wX10_stock_60 (C : Cx D ca A p s m args meth c cX10_stock RX10 10 (some .long)) {q : Int64 × Mm} : ∀ (N : Nat) (v1 : Int32) (v2 : Int32) (v3 : Int32) (v4 : Int32) (mm : Mm), DX10_stock_60 N v1 v2 v3 v4 mm = some q → ∀ (H : Heap) (locs : List Loc) (ls : Array Slot), Hx WN ad ca WS D A s.heap mm H locs → lv_has ls 10 [(0, .ref (ad 58)), (1, .int v1), (2, .int v2), (3, .int v3), (4, .int v4)] → W p l e (rmk 4) s m args below meth c H locs 0 0 (MQ below (QcL WN ad ca WS D A q) args s 0 0 A) (F0 m 60 ls []) := by
  intro N
  induction N with
  | zero =>
    intro v1 v2 v3 v4 mm h
    have h2 : (none : Option (Int64 × Mm)) = some q := h
    cases h2
  | succ N ih =>
    intro v1 v2 v3 v4 mm h H locs ls hH hl
    exact wbX10_stock_60 C ih h hH hl
set_option maxHeartbeats 2000000 in
set_option maxRecDepth 20000 in
theorem wX10_stock_55 (C : Cx D ca A p s m args meth c cX10_stock RX10 10 (some .long)) {q : Int64 × Mm} {v1 : Int32} {v2 : Int32} {mm : Mm} (h : DX10_stock_55 v1 v2 mm = some q) (hH : Hx WN ad ca WS D A s.heap mm H locs) (hl : lv_has ls 10 [(0, .ref (ad 58)), (1, .int v1), (2, .int v2)]) : W p l e (rmk 4) s m args below meth c H locs 0 0 (MQ below (QcL WN ad ca WS D A q) args s 0 0 A) (F0 m 55 ls []) := by
  unfold DX10_stock_55 at h
  have hx := C.1
  have hb := C.2.1
  refine lv_iconst (v := 0) hx hb dX10_stock_55 (by decide) ?_
  refine lv_istore_n (lv' := [(3, .int 0), (0, .ref (ad 58)), (1, .int v1), (2, .int v2)]) hx hb dX10_stock_56 rfl hl (by decide) rfl (fun ls hl => ?_)
  refine lv_iconst (v := 0) hx hb dX10_stock_57 (by decide) ?_
  refine lv_istore (lv' := [(4, .int 0), (3, .int 0), (0, .ref (ad 58)), (1, .int v1), (2, .int v2)]) hx hb dX10_stock_58 hl (by decide) rfl (fun ls hl => ?_)
  exact wX10_stock_60 C FU _ _ _ _ _ h _ _ _ hH (lv_sub hl [2, 3, 4, 1, 0] rfl)
set_option maxHeartbeats 2000000 in
set_option maxRecDepth 20000 in
theorem mX10_stock (l : Launch) {D : va_G} {ca : Nat → ClassId} {A : Nat → Prop} {ad : Nat → Nat} {v1 : Int32} {v2 : Int32} {mm : Mm} {q : Int64 × Mm} (h : dX10_stock v1 v2 mm = some q) : Met l yX10_stock (wsOf yX10_stock cX10_stock 10 (some .long)) (rmk 4) (PcX WN ad ca WS D A [.ref (ad 58), .int v1, .int v2] mm) (QcL WN ad ca WS D A q) 0 0 A := by
  unfold dX10_stock at h
  refine ent (by decide) (Nat.le_of_ble_eq_true rfl) (fun p e s m args below meth c hargs C hH ls hl => ?_)
  have hx := C.1
  have hb := C.2.1
  have hl : lv_has ls 10 [(0, .ref (ad 58)), (1, .int v1), (2, .int v2)] := hl
  refine lv_aload_n hx hb dX10_stock_0 rfl (lv_at hl 0 rfl) ?_
  refine lv_iload_n hx hb dX10_stock_1 rfl (lv_at hl 1 rfl) ?_
  obtain ⟨q2, e2, h⟩ := tB h
  refine rcI C hH hl.1 (mX10_bytesIs l e2) cf_RX10_217 ro_58 (RR_of (by decide) (by decide)) rfl (rest := []) rfl (Nat.le_of_ble_eq_true rfl) dX10_stock_2 ?_
  intro hz2 H locs hH
  refine lv_if_lt (tgt := 51) hx hb dX10_stock_5 (by decide) (fun hc5 => ?_) (fun hc5 => ?_)
  · replace h := tT hc5 h
    exact wX10_stock_51 C h hH (lv_sub hl [] rfl)
  · replace h := tF hc5 h
    refine lv_aload_n hx hb dX10_stock_8 rfl (lv_at hl 0 rfl) ?_
    refine rgS C hH fs_RX10_75_58 dX10_stock_9 ?_
    refine lv_iload_n hx hb dX10_stock_12 rfl (lv_at hl 1 rfl) ?_
    obtain ⟨hi13, h⟩ := tC h
    refine raI C hH (k := (Int32.toNatClampNeg v1)) (by decide) (show WS 80 = .inr (0, 6, 0) from rfl) hi13 rfl dX10_stock_13 ?_
    refine lv_bipush (v := 6) hx hb dX10_stock_14 (by decide) ?_
    refine lv_icmp_ne (tgt := 51) hx hb dX10_stock_16 (by decide) (fun hc16 => ?_) (fun hc16 => ?_)
    · replace h := tF hc16 h
      exact wX10_stock_51 C h hH (lv_sub hl [] rfl)
    · replace h := tT hc16 h
      refine lv_iload_n hx hb dX10_stock_19 rfl (lv_at hl 2 rfl) ?_
      refine lv_iconst (v := (-1)) hx hb dX10_stock_20 (by decide) ?_
      refine lv_icmp_eq (tgt := 55) hx hb dX10_stock_21 (by decide) (fun hc21 => ?_) (fun hc21 => ?_)
      · replace h := tT hc21 h
        exact wX10_stock_55 C h hH (lv_sub hl [0, 1, 2] rfl)
      · replace h := tF hc21 h
        refine lv_iload_n hx hb dX10_stock_24 rfl (lv_at hl 2 rfl) ?_
        refine lv_if_lt (tgt := 51) hx hb dX10_stock_25 (by decide) (fun hc25 => ?_) (fun hc25 => ?_)
        · replace h := tT hc25 h
          exact wX10_stock_51 C h hH (lv_sub hl [] rfl)
        · replace h := tF hc25 h
          refine lv_aload_n hx hb dX10_stock_28 rfl (lv_at hl 0 rfl) ?_
          refine lv_iload_n hx hb dX10_stock_29 rfl (lv_at hl 2 rfl) ?_
          refine lv_bipush (v := 10) hx hb dX10_stock_30 (by decide) ?_
          refine lv_idiv hx hb dX10_stock_32 (by decide) ?_
          refine lv_i2l' hx hb dX10_stock_33 ?_
          obtain ⟨q34, e34, h⟩ := tB h
          refine rcI C hH hl.1 (mX10_isSack l e34) cf_RX10_130 ro_58 (RR_of (by decide) (by decide)) rfl (rest := []) rfl (Nat.le_of_ble_eq_true rfl) dX10_stock_34 ?_
          intro hz34 H locs hH
          refine lv_if_eq (tgt := 51) hx hb dX10_stock_37 (by decide) (fun hc37 => ?_) (fun hc37 => ?_)
          · replace h := tT hc37 h
            exact wX10_stock_51 C h hH (lv_sub hl [] rfl)
          · replace h := tF hc37 h
            refine lv_iload_n hx hb dX10_stock_40 rfl (lv_at hl 2 rfl) ?_
            refine lv_bipush (v := 10) hx hb dX10_stock_41 (by decide) ?_
            refine lv_irem' hx hb dX10_stock_43 (by decide) ?_
            refine lv_i2l' hx hb dX10_stock_44 ?_
            obtain ⟨q45, e45, h⟩ := tB h
            refine rsI C hH hl.1 (mX10_isGood l e45) cs_RX10_106 (RR_of (by decide) (by decide)) rfl (rest := []) rfl (Nat.le_of_ble_eq_true rfl) dX10_stock_45 ?_
            intro hz45 H locs hH
            refine lv_if_ne (tgt := 55) hx hb dX10_stock_48 (by decide) (fun hc48 => ?_) (fun hc48 => ?_)
            · replace h := tF hc48 h
              exact wX10_stock_55 C h hH (lv_sub hl [0, 1, 2] rfl)
            · replace h := tT hc48 h
              exact wX10_stock_51 C h hH (lv_sub hl [] rfl)
set_option maxHeartbeats 2000000 in
set_option maxRecDepth 20000 in
theorem wX7_sameBy_42 (C : Cx D ca A p s m args meth c cX7_sameBy RX7 5 (some .boolean)) {q : Int32 × Mm} {k3 : Int32 → Int32 → Int32 → Int32 → Mm → Option (Int32 × Mm)} (hk3 : ∀ (v1 : Int32) (v2 : Int32) (v3 : Int32) (v4 : Int32) (mm : Mm), k3 v1 v2 v3 v4 mm = some q → ∀ (H : Heap) (locs : List Loc) (ls : Array Slot), Hx WN ad ca WS D A s.heap mm H locs → lv_has ls 5 [(0, .ref (ad 1)), (1, .int v1), (2, .int v2), (3, .int v3), (4, .int v4)] → W p l e (rmk 3) s m args below meth c H locs 0 0 (MQ below (QcI WN ad ca WS D A pzZ q) args s 0 0 A) (F0 m 3 ls [])) {v1 : Int32} {v2 : Int32} {v3 : Int32} {v4 : Int32} {mm : Mm} (h : DX7_sameBy_42 k3 v1 v2 v3 v4 mm = some q) (hH : Hx WN ad ca WS D A s.heap mm H locs) (hl : lv_has ls 5 [(0, .ref (ad 1)), (1, .int v1), (2, .int v2), (3, .int v3), (4, .int v4)]) : W p l e (rmk 3) s m args below meth c H locs 0 0 (MQ below (QcI WN ad ca WS D A pzZ q) args s 0 0 A) (F0 m 42 ls []) := by
  unfold DX7_sameBy_42 at h
  have hx := C.1
  have hb := C.2.1
  refine lv_iinc (v := (v4 + 1)) (lv' := [(4, .int (v4 + 1)), (0, .ref (ad 1)), (1, .int v1), (2, .int v2), (3, .int v3)]) hx hb dX7_sameBy_42 hl (k := 4) rfl rfl (by decide) rfl (fun ls hl => ?_)
  refine lv_goto (tgt := 3) hx hb dX7_sameBy_45 (by decide) ?_
  exact hk3 _ _ _ _ _ h _ _ _ hH (lv_sub hl [1, 2, 3, 4, 0] rfl)
set_option maxHeartbeats 2000000 in
set_option maxRecDepth 20000 in
theorem wbX7_sameBy_3 (C : Cx D ca A p s m args meth c cX7_sameBy RX7 5 (some .boolean)) {q : Int32 × Mm} {k3 : Int32 → Int32 → Int32 → Int32 → Mm → Option (Int32 × Mm)} (hk3 : ∀ (v1 : Int32) (v2 : Int32) (v3 : Int32) (v4 : Int32) (mm : Mm), k3 v1 v2 v3 v4 mm = some q → ∀ (H : Heap) (locs : List Loc) (ls : Array Slot), Hx WN ad ca WS D A s.heap mm H locs → lv_has ls 5 [(0, .ref (ad 1)), (1, .int v1), (2, .int v2), (3, .int v3), (4, .int v4)] → W p l e (rmk 3) s m args below meth c H locs 0 0 (MQ below (QcI WN ad ca WS D A pzZ q) args s 0 0 A) (F0 m 3 ls [])) {v1 : Int32} {v2 : Int32} {v3 : Int32} {v4 : Int32} {mm : Mm} (h : BX7_sameBy_3 k3 v1 v2 v3 v4 mm = some q) (hH : Hx WN ad ca WS D A s.heap mm H locs) (hl : lv_has ls 5 [(0, .ref (ad 1)), (1, .int v1), (2, .int v2), (3, .int v3), (4, .int v4)]) : W p l e (rmk 3) s m args below meth c H locs 0 0 (MQ below (QcI WN ad ca WS D A pzZ q) args s 0 0 A) (F0 m 3 ls []) := by
  unfold BX7_sameBy_3 at h
  have hx := C.1
  have hb := C.2.1
  refine lv_iload hx hb dX7_sameBy_3 (lv_at hl 4 rfl) ?_
  refine lv_iconst (v := 3) hx hb dX7_sameBy_5 (by decide) ?_
  refine lv_icmp_ge (tgt := 48) hx hb dX7_sameBy_6 (by decide) (fun hc6 => ?_) (fun hc6 => ?_)
  · replace h := tT hc6 h
    refine lv_iconst (v := 1) hx hb dX7_sameBy_48 (by decide) ?_
    have h := Option.some.inj h
    subst h
    exact retZ C hH (Or.inr rfl) dX7_sameBy_49
  · replace h := tF hc6 h
    refine lv_iload_n hx hb dX7_sameBy_9 rfl (lv_at hl 1 rfl) ?_
    refine lv_iload hx hb dX7_sameBy_10 (lv_at hl 4 rfl) ?_
    refine lv_ishr' hx hb dX7_sameBy_12 ?_
    refine lv_iconst (v := 1) hx hb dX7_sameBy_13 (by decide) ?_
    refine lv_iand hx hb dX7_sameBy_14 ?_
    refine lv_iconst (v := 1) hx hb dX7_sameBy_15 (by decide) ?_
    refine lv_icmp_ne (tgt := 42) hx hb dX7_sameBy_16 (by decide) (fun hc16 => ?_) (fun hc16 => ?_)
    · replace h := tF hc16 h
      exact wX7_sameBy_42 C hk3 h hH (lv_sub hl [0, 1, 2, 3, 4] rfl)
    · replace h := tT hc16 h
      refine lv_aload_n hx hb dX7_sameBy_19 rfl (lv_at hl 0 rfl) ?_
      refine lv_iconst (v := 1) hx hb dX7_sameBy_20 (by decide) ?_
      refine lv_iload hx hb dX7_sameBy_21 (lv_at hl 4 rfl) ?_
      refine lv_iadd hx hb dX7_sameBy_23 ?_
      refine lv_iload_n hx hb dX7_sameBy_24 rfl (lv_at hl 2 rfl) ?_
      obtain ⟨q25, e25, h⟩ := tB h
      refine rcI C hH hl.1 (mX7_told l e25) cf_RX7_38 ro_1 (RR_of (by decide) (by decide)) rfl (rest := []) rfl (Nat.le_of_ble_eq_true rfl) dX7_sameBy_25 ?_
      intro hz25 H locs hH
      refine lv_aload_n hx hb dX7_sameBy_28 rfl (lv_at hl 0 rfl) ?_
      refine lv_iconst (v := 1) hx hb dX7_sameBy_29 (by decide) ?_
      refine lv_iload hx hb dX7_sameBy_30 (lv_at hl 4 rfl) ?_
      refine lv_iadd hx hb dX7_sameBy_32 ?_
      refine lv_iload_n hx hb dX7_sameBy_33 rfl (lv_at hl 3 rfl) ?_
      obtain ⟨q34, e34, h⟩ := tB h
      refine rcI C hH hl.1 (mX7_told l e34) cf_RX7_38 ro_1 (RR_of (by decide) (by decide)) rfl (rest := [.int q25.1]) rfl (Nat.le_of_ble_eq_true rfl) dX7_sameBy_34 ?_
      intro hz34 H locs hH
      refine lv_icmp_eq (tgt := 42) hx hb dX7_sameBy_37 (by decide) (fun hc37 => ?_) (fun hc37 => ?_)
      · replace h := tT hc37 h
        exact wX7_sameBy_42 C hk3 h hH (lv_sub hl [0, 1, 2, 3, 4] rfl)
      · replace h := tF hc37 h
        refine lv_iconst (v := 0) hx hb dX7_sameBy_40 (by decide) ?_
        have h := Option.some.inj h
        subst h
        exact retZ C hH (Or.inl rfl) dX7_sameBy_41
set_option maxHeartbeats 2000000 in
set_option maxRecDepth 20000 in
theorem wX7_sameBy_3 (C : Cx D ca A p s m args meth c cX7_sameBy RX7 5 (some .boolean)) {q : Int32 × Mm} : ∀ (N : Nat) (v1 : Int32) (v2 : Int32) (v3 : Int32) (v4 : Int32) (mm : Mm), DX7_sameBy_3 N v1 v2 v3 v4 mm = some q → ∀ (H : Heap) (locs : List Loc) (ls : Array Slot), Hx WN ad ca WS D A s.heap mm H locs → lv_has ls 5 [(0, .ref (ad 1)), (1, .int v1), (2, .int v2), (3, .int v3), (4, .int v4)] → W p l e (rmk 3) s m args below meth c H locs 0 0 (MQ below (QcI WN ad ca WS D A pzZ q) args s 0 0 A) (F0 m 3 ls []) := by
  intro N
  induction N with
  | zero =>
    intro v1 v2 v3 v4 mm h
    have h2 : (none : Option (Int32 × Mm)) = some q := h
    cases h2
  | succ N ih =>
    intro v1 v2 v3 v4 mm h H locs ls hH hl
    exact wbX7_sameBy_3 C ih h hH hl
set_option maxHeartbeats 2000000 in
set_option maxRecDepth 20000 in
theorem mX7_sameBy (l : Launch) {D : va_G} {ca : Nat → ClassId} {A : Nat → Prop} {ad : Nat → Nat} {v1 : Int32} {v2 : Int32} {v3 : Int32} {mm : Mm} {q : Int32 × Mm} (h : dX7_sameBy v1 v2 v3 mm = some q) : Met l yX7_sameBy (wsOf yX7_sameBy cX7_sameBy 5 (some .boolean)) (rmk 3) (PcX WN ad ca WS D A [.ref (ad 1), .int v1, .int v2, .int v3] mm) (QcI WN ad ca WS D A pzZ q) 0 0 A := by
  unfold dX7_sameBy at h
  refine ent (by decide) (Nat.le_of_ble_eq_true rfl) (fun p e s m args below meth c hargs C hH ls hl => ?_)
  have hx := C.1
  have hb := C.2.1
  have hl : lv_has ls 5 [(0, .ref (ad 1)), (1, .int v1), (2, .int v2), (3, .int v3)] := hl
  refine lv_iconst (v := 0) hx hb dX7_sameBy_0 (by decide) ?_
  refine lv_istore (lv' := [(4, .int 0), (0, .ref (ad 1)), (1, .int v1), (2, .int v2), (3, .int v3)]) hx hb dX7_sameBy_1 hl (by decide) rfl (fun ls hl => ?_)
  exact wX7_sameBy_3 C FU _ _ _ _ _ h _ _ _ hH (lv_sub hl [1, 2, 3, 4, 0] rfl)
set_option maxHeartbeats 2000000 in
set_option maxRecDepth 20000 in
theorem wX7_alike_67 (C : Cx D ca A p s m args meth c cX7_alike RX7 6 (some .int)) {q : Int32 × Mm} {k4 : Int32 → Int32 → Int32 → Mm → Option (Int32 × Mm)} (hk4 : ∀ (v1 : Int32) (v2 : Int32) (v3 : Int32) (mm : Mm), k4 v1 v2 v3 mm = some q → ∀ (H : Heap) (locs : List Loc) (ls : Array Slot), Hx WN ad ca WS D A s.heap mm H locs → lv_has ls 6 [(0, .ref (ad 1)), (1, .int v1), (2, .int v2), (3, .int v3)] → W p l e (rmk 4) s m args below meth c H locs 0 0 (MQ below (QcI WN ad ca WS D A pzT q) args s 0 0 A) (F0 m 4 ls [])) {v1 : Int32} {v3 : Int32} {s0 : Int32} {s1 : Int32} {mm : Mm} (h : DX7_alike_67 k4 v1 v3 s0 s1 mm = some q) (hH : Hx WN ad ca WS D A s.heap mm H locs) (hl : lv_has ls 6 [(0, .ref (ad 1)), (1, .int v1), (3, .int v3)]) : W p l e (rmk 4) s m args below meth c H locs 0 0 (MQ below (QcI WN ad ca WS D A pzT q) args s 0 0 A) (F0 m 67 ls [.int s0, .int s1]) := by
  unfold DX7_alike_67 at h
  have hx := C.1
  have hb := C.2.1
  refine lv_iadd hx hb dX7_alike_67 ?_
  refine lv_istore_n (lv' := [(2, .int (s1 + s0)), (0, .ref (ad 1)), (1, .int v1), (3, .int v3)]) hx hb dX7_alike_68 rfl hl (by decide) rfl (fun ls hl => ?_)
  refine lv_iinc (v := (v3 + 1)) (lv' := [(3, .int (v3 + 1)), (2, .int (s1 + s0)), (0, .ref (ad 1)), (1, .int v1)]) hx hb dX7_alike_69 hl (k := 3) rfl rfl (by decide) rfl (fun ls hl => ?_)
  refine lv_goto (tgt := 4) hx hb dX7_alike_72 (by decide) ?_
  exact hk4 _ _ _ _ h _ _ _ hH (lv_sub hl [2, 3, 1, 0] rfl)
set_option maxHeartbeats 2000000 in
set_option maxRecDepth 20000 in
theorem wX7_alike_47 (C : Cx D ca A p s m args meth c cX7_alike RX7 6 (some .int)) {q : Int32 × Mm} {k4 : Int32 → Int32 → Int32 → Mm → Option (Int32 × Mm)} (hk4 : ∀ (v1 : Int32) (v2 : Int32) (v3 : Int32) (mm : Mm), k4 v1 v2 v3 mm = some q → ∀ (H : Heap) (locs : List Loc) (ls : Array Slot), Hx WN ad ca WS D A s.heap mm H locs → lv_has ls 6 [(0, .ref (ad 1)), (1, .int v1), (2, .int v2), (3, .int v3)] → W p l e (rmk 4) s m args below meth c H locs 0 0 (MQ below (QcI WN ad ca WS D A pzT q) args s 0 0 A) (F0 m 4 ls [])) {k16 : Int32 → Int32 → Int32 → Int32 → Int32 → Mm → Option (Int32 × Mm)} (hk16 : ∀ (v1 : Int32) (v2 : Int32) (v3 : Int32) (v4 : Int32) (v5 : Int32) (mm : Mm), k16 v1 v2 v3 v4 v5 mm = some q → ∀ (H : Heap) (locs : List Loc) (ls : Array Slot), Hx WN ad ca WS D A s.heap mm H locs → lv_has ls 6 [(0, .ref (ad 1)), (1, .int v1), (2, .int v2), (3, .int v3), (4, .int v4), (5, .int v5)] → W p l e (rmk 4) s m args below meth c H locs 0 0 (MQ below (QcI WN ad ca WS D A pzT q) args s 0 0 A) (F0 m 16 ls [])) {v1 : Int32} {v2 : Int32} {v3 : Int32} {v5 : Int32} {s0 : Int32} {s1 : Int32} {mm : Mm} (h : DX7_alike_47 k4 k16 v1 v2 v3 v5 s0 s1 mm = some q) (hH : Hx WN ad ca WS D A s.heap mm H locs) (hl : lv_has ls 6 [(0, .ref (ad 1)), (1, .int v1), (2, .int v2), (3, .int v3), (5, .int v5)]) : W p l e (rmk 4) s m args below meth c H locs 0 0 (MQ below (QcI WN ad ca WS D A pzT q) args s 0 0 A) (F0 m 47 ls [.int s0, .int s1]) := by
  unfold DX7_alike_47 at h
  have hx := C.1
  have hb := C.2.1
  refine lv_ior hx hb dX7_alike_47 ?_
  refine lv_istore (lv' := [(4, .int (s1 ||| s0)), (0, .ref (ad 1)), (1, .int v1), (2, .int v2), (3, .int v3), (5, .int v5)]) hx hb dX7_alike_48 hl (by decide) rfl (fun ls hl => ?_)
  refine lv_iinc (v := (v5 + 1)) (lv' := [(5, .int (v5 + 1)), (4, .int (s1 ||| s0)), (0, .ref (ad 1)), (1, .int v1), (2, .int v2), (3, .int v3)]) hx hb dX7_alike_50 hl (k := 5) rfl rfl (by decide) rfl (fun ls hl => ?_)
  refine lv_goto (tgt := 16) hx hb dX7_alike_53 (by decide) ?_
  exact hk16 _ _ _ _ _ _ h _ _ _ hH (lv_sub hl [2, 3, 4, 5, 1, 0] rfl)
set_option maxHeartbeats 2000000 in
set_option maxRecDepth 20000 in
theorem wX7_alike_46 (C : Cx D ca A p s m args meth c cX7_alike RX7 6 (some .int)) {q : Int32 × Mm} {k4 : Int32 → Int32 → Int32 → Mm → Option (Int32 × Mm)} (hk4 : ∀ (v1 : Int32) (v2 : Int32) (v3 : Int32) (mm : Mm), k4 v1 v2 v3 mm = some q → ∀ (H : Heap) (locs : List Loc) (ls : Array Slot), Hx WN ad ca WS D A s.heap mm H locs → lv_has ls 6 [(0, .ref (ad 1)), (1, .int v1), (2, .int v2), (3, .int v3)] → W p l e (rmk 4) s m args below meth c H locs 0 0 (MQ below (QcI WN ad ca WS D A pzT q) args s 0 0 A) (F0 m 4 ls [])) {k16 : Int32 → Int32 → Int32 → Int32 → Int32 → Mm → Option (Int32 × Mm)} (hk16 : ∀ (v1 : Int32) (v2 : Int32) (v3 : Int32) (v4 : Int32) (v5 : Int32) (mm : Mm), k16 v1 v2 v3 v4 v5 mm = some q → ∀ (H : Heap) (locs : List Loc) (ls : Array Slot), Hx WN ad ca WS D A s.heap mm H locs → lv_has ls 6 [(0, .ref (ad 1)), (1, .int v1), (2, .int v2), (3, .int v3), (4, .int v4), (5, .int v5)] → W p l e (rmk 4) s m args below meth c H locs 0 0 (MQ below (QcI WN ad ca WS D A pzT q) args s 0 0 A) (F0 m 16 ls [])) {v1 : Int32} {v2 : Int32} {v3 : Int32} {v5 : Int32} {s0 : Int32} {mm : Mm} (h : DX7_alike_46 k4 k16 v1 v2 v3 v5 s0 mm = some q) (hH : Hx WN ad ca WS D A s.heap mm H locs) (hl : lv_has ls 6 [(0, .ref (ad 1)), (1, .int v1), (2, .int v2), (3, .int v3), (5, .int v5)]) : W p l e (rmk 4) s m args below meth c H locs 0 0 (MQ below (QcI WN ad ca WS D A pzT q) args s 0 0 A) (F0 m 46 ls [.int s0]) := by
  unfold DX7_alike_46 at h
  have hx := C.1
  have hb := C.2.1
  refine lv_iconst (v := 0) hx hb dX7_alike_46 (by decide) ?_
  exact wX7_alike_47 C hk4 hk16 h hH (lv_sub hl [0, 1, 2, 3, 4] rfl)
set_option maxHeartbeats 2000000 in
set_option maxRecDepth 20000 in
theorem wbX7_alike_16 (C : Cx D ca A p s m args meth c cX7_alike RX7 6 (some .int)) {q : Int32 × Mm} {k4 : Int32 → Int32 → Int32 → Mm → Option (Int32 × Mm)} (hk4 : ∀ (v1 : Int32) (v2 : Int32) (v3 : Int32) (mm : Mm), k4 v1 v2 v3 mm = some q → ∀ (H : Heap) (locs : List Loc) (ls : Array Slot), Hx WN ad ca WS D A s.heap mm H locs → lv_has ls 6 [(0, .ref (ad 1)), (1, .int v1), (2, .int v2), (3, .int v3)] → W p l e (rmk 4) s m args below meth c H locs 0 0 (MQ below (QcI WN ad ca WS D A pzT q) args s 0 0 A) (F0 m 4 ls [])) {k16 : Int32 → Int32 → Int32 → Int32 → Int32 → Mm → Option (Int32 × Mm)} (hk16 : ∀ (v1 : Int32) (v2 : Int32) (v3 : Int32) (v4 : Int32) (v5 : Int32) (mm : Mm), k16 v1 v2 v3 v4 v5 mm = some q → ∀ (H : Heap) (locs : List Loc) (ls : Array Slot), Hx WN ad ca WS D A s.heap mm H locs → lv_has ls 6 [(0, .ref (ad 1)), (1, .int v1), (2, .int v2), (3, .int v3), (4, .int v4), (5, .int v5)] → W p l e (rmk 4) s m args below meth c H locs 0 0 (MQ below (QcI WN ad ca WS D A pzT q) args s 0 0 A) (F0 m 16 ls [])) {v1 : Int32} {v2 : Int32} {v3 : Int32} {v4 : Int32} {v5 : Int32} {mm : Mm} (h : BX7_alike_16 k4 k16 v1 v2 v3 v4 v5 mm = some q) (hH : Hx WN ad ca WS D A s.heap mm H locs) (hl : lv_has ls 6 [(0, .ref (ad 1)), (1, .int v1), (2, .int v2), (3, .int v3), (4, .int v4), (5, .int v5)]) : W p l e (rmk 4) s m args below meth c H locs 0 0 (MQ below (QcI WN ad ca WS D A pzT q) args s 0 0 A) (F0 m 16 ls []) := by
  unfold BX7_alike_16 at h
  have hx := C.1
  have hb := C.2.1
  refine lv_iload hx hb dX7_alike_16 (lv_at hl 5 rfl) ?_
  refine lv_bipush (v := 6) hx hb dX7_alike_18 (by decide) ?_
  refine lv_icmp_ge (tgt := 56) hx hb dX7_alike_20 (by decide) (fun hc20 => ?_) (fun hc20 => ?_)
  · replace h := tT hc20 h
    refine lv_iload_n hx hb dX7_alike_56 rfl (lv_at hl 2 rfl) ?_
    refine lv_iload hx hb dX7_alike_57 (lv_at hl 4 rfl) ?_
    refine lv_if_eq (tgt := 66) hx hb dX7_alike_59 (by decide) (fun hc59 => ?_) (fun hc59 => ?_)
    · replace h := tT hc59 h
      refine lv_iconst (v := 0) hx hb dX7_alike_66 (by decide) ?_
      exact wX7_alike_67 C hk4 h hH (lv_sub hl [0, 1, 3] rfl)
    · replace h := tF hc59 h
      refine lv_iconst (v := 1) hx hb dX7_alike_62 (by decide) ?_
      refine lv_goto (tgt := 67) hx hb dX7_alike_63 (by decide) ?_
      exact wX7_alike_67 C hk4 h hH (lv_sub hl [0, 1, 3] rfl)
  · replace h := tF hc20 h
    refine lv_iload hx hb dX7_alike_23 (lv_at hl 4 rfl) ?_
    refine lv_iload hx hb dX7_alike_25 (lv_at hl 5 rfl) ?_
    refine lv_iload_n hx hb dX7_alike_27 rfl (lv_at hl 3 rfl) ?_
    refine lv_icmp_eq (tgt := 46) hx hb dX7_alike_28 (by decide) (fun hc28 => ?_) (fun hc28 => ?_)
    · replace h := tT hc28 h
      exact wX7_alike_46 C hk4 hk16 h hH (lv_sub hl [0, 1, 2, 3, 5] rfl)
    · replace h := tF hc28 h
      refine lv_aload_n hx hb dX7_alike_31 rfl (lv_at hl 0 rfl) ?_
      refine lv_iload_n hx hb dX7_alike_32 rfl (lv_at hl 1 rfl) ?_
      refine lv_iload_n hx hb dX7_alike_33 rfl (lv_at hl 3 rfl) ?_
      refine lv_iload hx hb dX7_alike_34 (lv_at hl 5 rfl) ?_
      obtain ⟨q36, e36, h⟩ := tB h
      refine rcI C hH hl.1 (mX7_sameBy l e36) cf_RX7_70 ro_1 (RR_of (by decide) (by decide)) rfl (rest := [.int v4]) rfl (Nat.le_of_ble_eq_true rfl) dX7_alike_36 ?_
      intro hz36 H locs hH
      refine lv_if_eq (tgt := 46) hx hb dX7_alike_39 (by decide) (fun hc39 => ?_) (fun hc39 => ?_)
      · replace h := tT hc39 h
        exact wX7_alike_46 C hk4 hk16 h hH (lv_sub hl [0, 1, 2, 3, 5] rfl)
      · replace h := tF hc39 h
        refine lv_iconst (v := 1) hx hb dX7_alike_42 (by decide) ?_
        refine lv_goto (tgt := 47) hx hb dX7_alike_43 (by decide) ?_
        exact wX7_alike_47 C hk4 hk16 h hH (lv_sub hl [0, 1, 2, 3, 5] rfl)
set_option maxHeartbeats 2000000 in
set_option maxRecDepth 20000 in
theorem wX7_alike_16 (C : Cx D ca A p s m args meth c cX7_alike RX7 6 (some .int)) {q : Int32 × Mm} {k4 : Int32 → Int32 → Int32 → Mm → Option (Int32 × Mm)} (hk4 : ∀ (v1 : Int32) (v2 : Int32) (v3 : Int32) (mm : Mm), k4 v1 v2 v3 mm = some q → ∀ (H : Heap) (locs : List Loc) (ls : Array Slot), Hx WN ad ca WS D A s.heap mm H locs → lv_has ls 6 [(0, .ref (ad 1)), (1, .int v1), (2, .int v2), (3, .int v3)] → W p l e (rmk 4) s m args below meth c H locs 0 0 (MQ below (QcI WN ad ca WS D A pzT q) args s 0 0 A) (F0 m 4 ls [])) : ∀ (N : Nat) (v1 : Int32) (v2 : Int32) (v3 : Int32) (v4 : Int32) (v5 : Int32) (mm : Mm), DX7_alike_16 k4 N v1 v2 v3 v4 v5 mm = some q → ∀ (H : Heap) (locs : List Loc) (ls : Array Slot), Hx WN ad ca WS D A s.heap mm H locs → lv_has ls 6 [(0, .ref (ad 1)), (1, .int v1), (2, .int v2), (3, .int v3), (4, .int v4), (5, .int v5)] → W p l e (rmk 4) s m args below meth c H locs 0 0 (MQ below (QcI WN ad ca WS D A pzT q) args s 0 0 A) (F0 m 16 ls []) := by
  intro N
  induction N with
  | zero =>
    intro v1 v2 v3 v4 v5 mm h
    have h2 : (none : Option (Int32 × Mm)) = some q := h
    cases h2
  | succ N ih =>
    intro v1 v2 v3 v4 v5 mm h H locs ls hH hl
    exact wbX7_alike_16 C hk4 ih h hH hl
set_option maxHeartbeats 2000000 in
set_option maxRecDepth 20000 in
theorem wbX7_alike_4 (C : Cx D ca A p s m args meth c cX7_alike RX7 6 (some .int)) {q : Int32 × Mm} {k4 : Int32 → Int32 → Int32 → Mm → Option (Int32 × Mm)} (hk4 : ∀ (v1 : Int32) (v2 : Int32) (v3 : Int32) (mm : Mm), k4 v1 v2 v3 mm = some q → ∀ (H : Heap) (locs : List Loc) (ls : Array Slot), Hx WN ad ca WS D A s.heap mm H locs → lv_has ls 6 [(0, .ref (ad 1)), (1, .int v1), (2, .int v2), (3, .int v3)] → W p l e (rmk 4) s m args below meth c H locs 0 0 (MQ below (QcI WN ad ca WS D A pzT q) args s 0 0 A) (F0 m 4 ls [])) {v1 : Int32} {v2 : Int32} {v3 : Int32} {mm : Mm} (h : BX7_alike_4 k4 v1 v2 v3 mm = some q) (hH : Hx WN ad ca WS D A s.heap mm H locs) (hl : lv_has ls 6 [(0, .ref (ad 1)), (1, .int v1), (2, .int v2), (3, .int v3)]) : W p l e (rmk 4) s m args below meth c H locs 0 0 (MQ below (QcI WN ad ca WS D A pzT q) args s 0 0 A) (F0 m 4 ls []) := by
  unfold BX7_alike_4 at h
  have hx := C.1
  have hb := C.2.1
  refine lv_iload_n hx hb dX7_alike_4 rfl (lv_at hl 3 rfl) ?_
  refine lv_bipush (v := 6) hx hb dX7_alike_5 (by decide) ?_
  refine lv_icmp_ge (tgt := 75) hx hb dX7_alike_7 (by decide) (fun hc7 => ?_) (fun hc7 => ?_)
  · replace h := tT hc7 h
    refine lv_iload_n hx hb dX7_alike_75 rfl (lv_at hl 2 rfl) ?_
    have h := Option.some.inj h
    subst h
    exact retI C hH trivial dX7_alike_76
  · replace h := tF hc7 h
    refine lv_iconst (v := 0) hx hb dX7_alike_10 (by decide) ?_
    refine lv_istore (lv' := [(4, .int 0), (0, .ref (ad 1)), (1, .int v1), (2, .int v2), (3, .int v3)]) hx hb dX7_alike_11 hl (by decide) rfl (fun ls hl => ?_)
    refine lv_iconst (v := 0) hx hb dX7_alike_13 (by decide) ?_
    refine lv_istore (lv' := [(5, .int 0), (4, .int 0), (0, .ref (ad 1)), (1, .int v1), (2, .int v2), (3, .int v3)]) hx hb dX7_alike_14 hl (by decide) rfl (fun ls hl => ?_)
    exact wX7_alike_16 C hk4 FU _ _ _ _ _ _ h _ _ _ hH (lv_sub hl [2, 3, 4, 5, 1, 0] rfl)
set_option maxHeartbeats 2000000 in
set_option maxRecDepth 20000 in
theorem wX7_alike_4 (C : Cx D ca A p s m args meth c cX7_alike RX7 6 (some .int)) {q : Int32 × Mm} : ∀ (N : Nat) (v1 : Int32) (v2 : Int32) (v3 : Int32) (mm : Mm), DX7_alike_4 N v1 v2 v3 mm = some q → ∀ (H : Heap) (locs : List Loc) (ls : Array Slot), Hx WN ad ca WS D A s.heap mm H locs → lv_has ls 6 [(0, .ref (ad 1)), (1, .int v1), (2, .int v2), (3, .int v3)] → W p l e (rmk 4) s m args below meth c H locs 0 0 (MQ below (QcI WN ad ca WS D A pzT q) args s 0 0 A) (F0 m 4 ls []) := by
  intro N
  induction N with
  | zero =>
    intro v1 v2 v3 mm h
    have h2 : (none : Option (Int32 × Mm)) = some q := h
    cases h2
  | succ N ih =>
    intro v1 v2 v3 mm h H locs ls hH hl
    exact wbX7_alike_4 C ih h hH hl
set_option maxHeartbeats 2000000 in
set_option maxRecDepth 20000 in
theorem mX7_alike (l : Launch) {D : va_G} {ca : Nat → ClassId} {A : Nat → Prop} {ad : Nat → Nat} {v1 : Int32} {mm : Mm} {q : Int32 × Mm} (h : dX7_alike v1 mm = some q) : Met l yX7_alike (wsOf yX7_alike cX7_alike 6 (some .int)) (rmk 4) (PcX WN ad ca WS D A [.ref (ad 1), .int v1] mm) (QcI WN ad ca WS D A pzT q) 0 0 A := by
  unfold dX7_alike at h
  refine ent (by decide) (Nat.le_of_ble_eq_true rfl) (fun p e s m args below meth c hargs C hH ls hl => ?_)
  have hx := C.1
  have hb := C.2.1
  have hl : lv_has ls 6 [(0, .ref (ad 1)), (1, .int v1)] := hl
  refine lv_iconst (v := 0) hx hb dX7_alike_0 (by decide) ?_
  refine lv_istore_n (lv' := [(2, .int 0), (0, .ref (ad 1)), (1, .int v1)]) hx hb dX7_alike_1 rfl hl (by decide) rfl (fun ls hl => ?_)
  refine lv_iconst (v := 0) hx hb dX7_alike_2 (by decide) ?_
  refine lv_istore_n (lv' := [(3, .int 0), (2, .int 0), (0, .ref (ad 1)), (1, .int v1)]) hx hb dX7_alike_3 rfl hl (by decide) rfl (fun ls hl => ?_)
  exact wX7_alike_4 C FU _ _ _ _ h _ _ _ hH (lv_sub hl [2, 3, 1, 0] rfl)
set_option maxHeartbeats 2000000 in
set_option maxRecDepth 20000 in
theorem wX7_tellingBits_36 (C : Cx D ca A p s m args meth c cX7_tellingBits RX7 3 (some .int)) {q : Int32 × Mm} {k5 : Int32 → Int32 → Mm → Option (Int32 × Mm)} (hk5 : ∀ (v1 : Int32) (v2 : Int32) (mm : Mm), k5 v1 v2 mm = some q → ∀ (H : Heap) (locs : List Loc) (ls : Array Slot), Hx WN ad ca WS D A s.heap mm H locs → lv_has ls 3 [(0, .ref (ad 1)), (1, .int v1), (2, .int v2)] → W p l e (rmk 5) s m args below meth c H locs 0 0 (MQ below (QcI WN ad ca WS D A pzT q) args s 0 0 A) (F0 m 5 ls [])) {v1 : Int32} {v2 : Int32} {mm : Mm} (h : DX7_tellingBits_36 k5 v1 v2 mm = some q) (hH : Hx WN ad ca WS D A s.heap mm H locs) (hl : lv_has ls 3 [(0, .ref (ad 1)), (1, .int v1), (2, .int v2)]) : W p l e (rmk 5) s m args below meth c H locs 0 0 (MQ below (QcI WN ad ca WS D A pzT q) args s 0 0 A) (F0 m 36 ls []) := by
  unfold DX7_tellingBits_36 at h
  have hx := C.1
  have hb := C.2.1
  refine lv_iinc (v := (v2 + 1)) (lv' := [(2, .int (v2 + 1)), (0, .ref (ad 1)), (1, .int v1)]) hx hb dX7_tellingBits_36 hl (k := 2) rfl rfl (by decide) rfl (fun ls hl => ?_)
  refine lv_goto (tgt := 5) hx hb dX7_tellingBits_39 (by decide) ?_
  exact hk5 _ _ _ h _ _ _ hH (lv_sub hl [1, 2, 0] rfl)
set_option maxHeartbeats 2000000 in
set_option maxRecDepth 20000 in
theorem wX7_tellingBits_34 (C : Cx D ca A p s m args meth c cX7_tellingBits RX7 3 (some .int)) {q : Int32 × Mm} {k5 : Int32 → Int32 → Mm → Option (Int32 × Mm)} (hk5 : ∀ (v1 : Int32) (v2 : Int32) (mm : Mm), k5 v1 v2 mm = some q → ∀ (H : Heap) (locs : List Loc) (ls : Array Slot), Hx WN ad ca WS D A s.heap mm H locs → lv_has ls 3 [(0, .ref (ad 1)), (1, .int v1), (2, .int v2)] → W p l e (rmk 5) s m args below meth c H locs 0 0 (MQ below (QcI WN ad ca WS D A pzT q) args s 0 0 A) (F0 m 5 ls [])) {v2 : Int32} {mm : Mm} (h : DX7_tellingBits_34 k5 v2 mm = some q) (hH : Hx WN ad ca WS D A s.heap mm H locs) (hl : lv_has ls 3 [(0, .ref (ad 1)), (2, .int v2)]) : W p l e (rmk 5) s m args below meth c H locs 0 0 (MQ below (QcI WN ad ca WS D A pzT q) args s 0 0 A) (F0 m 34 ls []) := by
  unfold DX7_tellingBits_34 at h
  have hx := C.1
  have hb := C.2.1
  refine lv_iload_n hx hb dX7_tellingBits_34 rfl (lv_at hl 1 rfl) ?_
  refine lv_istore_n (lv' := [(1, .int v2), (0, .ref (ad 1)), (2, .int v2)]) hx hb dX7_tellingBits_35 rfl hl (by decide) rfl (fun ls hl => ?_)
  exact wX7_tellingBits_36 C hk5 h hH (lv_sub hl [1, 0, 2] rfl)
set_option maxHeartbeats 2000000 in
set_option maxRecDepth 20000 in
theorem wbX7_tellingBits_5 (C : Cx D ca A p s m args meth c cX7_tellingBits RX7 3 (some .int)) {q : Int32 × Mm} {k5 : Int32 → Int32 → Mm → Option (Int32 × Mm)} (hk5 : ∀ (v1 : Int32) (v2 : Int32) (mm : Mm), k5 v1 v2 mm = some q → ∀ (H : Heap) (locs : List Loc) (ls : Array Slot), Hx WN ad ca WS D A s.heap mm H locs → lv_has ls 3 [(0, .ref (ad 1)), (1, .int v1), (2, .int v2)] → W p l e (rmk 5) s m args below meth c H locs 0 0 (MQ below (QcI WN ad ca WS D A pzT q) args s 0 0 A) (F0 m 5 ls [])) {v1 : Int32} {v2 : Int32} {mm : Mm} (h : BX7_tellingBits_5 k5 v1 v2 mm = some q) (hH : Hx WN ad ca WS D A s.heap mm H locs) (hl : lv_has ls 3 [(0, .ref (ad 1)), (1, .int v1), (2, .int v2)]) : W p l e (rmk 5) s m args below meth c H locs 0 0 (MQ below (QcI WN ad ca WS D A pzT q) args s 0 0 A) (F0 m 5 ls []) := by
  unfold BX7_tellingBits_5 at h
  have hx := C.1
  have hb := C.2.1
  refine lv_iload_n hx hb dX7_tellingBits_5 rfl (lv_at hl 2 rfl) ?_
  refine lv_bipush (v := 8) hx hb dX7_tellingBits_6 (by decide) ?_
  refine lv_icmp_ge (tgt := 42) hx hb dX7_tellingBits_8 (by decide) (fun hc8 => ?_) (fun hc8 => ?_)
  · replace h := tT hc8 h
    refine lv_iload_n hx hb dX7_tellingBits_42 rfl (lv_at hl 1 rfl) ?_
    have h := Option.some.inj h
    subst h
    exact retI C hH trivial dX7_tellingBits_43
  · replace h := tF hc8 h
    refine lv_aload_n hx hb dX7_tellingBits_11 rfl (lv_at hl 0 rfl) ?_
    refine lv_iload_n hx hb dX7_tellingBits_12 rfl (lv_at hl 2 rfl) ?_
    obtain ⟨q13, e13, h⟩ := tB h
    refine rcI C hH hl.1 (mX7_alike l e13) cf_RX7_74 ro_1 (RR_of (by decide) (by decide)) rfl (rest := []) rfl (Nat.le_of_ble_eq_true rfl) dX7_tellingBits_13 ?_
    intro hz13 H locs hH
    refine lv_if_ne (tgt := 36) hx hb dX7_tellingBits_16 (by decide) (fun hc16 => ?_) (fun hc16 => ?_)
    · replace h := tF hc16 h
      exact wX7_tellingBits_36 C hk5 h hH (lv_sub hl [0, 1, 2] rfl)
    · replace h := tT hc16 h
      refine lv_iload_n hx hb dX7_tellingBits_19 rfl (lv_at hl 1 rfl) ?_
      refine lv_if_lt (tgt := 34) hx hb dX7_tellingBits_20 (by decide) (fun hc20 => ?_) (fun hc20 => ?_)
      · replace h := tT hc20 h
        exact wX7_tellingBits_34 C hk5 h hH (lv_sub hl [0, 2] rfl)
      · replace h := tF hc20 h
        refine lv_iload_n hx hb dX7_tellingBits_23 rfl (lv_at hl 2 rfl) ?_
        obtain ⟨q24, e24, h⟩ := tB h
        refine rsI C hH hl.1 (mJ6_bitCount_0f7a4 l e24) cs_RX7_78 (RR_of (by decide) (by decide)) rfl (rest := []) rfl (Nat.le_of_ble_eq_true rfl) dX7_tellingBits_24 ?_
        intro hz24 H locs hH
        refine lv_iload_n hx hb dX7_tellingBits_27 rfl (lv_at hl 1 rfl) ?_
        obtain ⟨q28, e28, h⟩ := tB h
        refine rsI C hH hl.1 (mJ6_bitCount_0f7a4 l e28) cs_RX7_78 (RR_of (by decide) (by decide)) rfl (rest := [.int q24.1]) rfl (Nat.le_of_ble_eq_true rfl) dX7_tellingBits_28 ?_
        intro hz28 H locs hH
        refine lv_icmp_ge (tgt := 36) hx hb dX7_tellingBits_31 (by decide) (fun hc31 => ?_) (fun hc31 => ?_)
        · replace h := tT hc31 h
          exact wX7_tellingBits_36 C hk5 h hH (lv_sub hl [0, 1, 2] rfl)
        · replace h := tF hc31 h
          exact wX7_tellingBits_34 C hk5 h hH (lv_sub hl [0, 2] rfl)
set_option maxHeartbeats 2000000 in
set_option maxRecDepth 20000 in
theorem wX7_tellingBits_5 (C : Cx D ca A p s m args meth c cX7_tellingBits RX7 3 (some .int)) {q : Int32 × Mm} : ∀ (N : Nat) (v1 : Int32) (v2 : Int32) (mm : Mm), DX7_tellingBits_5 N v1 v2 mm = some q → ∀ (H : Heap) (locs : List Loc) (ls : Array Slot), Hx WN ad ca WS D A s.heap mm H locs → lv_has ls 3 [(0, .ref (ad 1)), (1, .int v1), (2, .int v2)] → W p l e (rmk 5) s m args below meth c H locs 0 0 (MQ below (QcI WN ad ca WS D A pzT q) args s 0 0 A) (F0 m 5 ls []) := by
  intro N
  induction N with
  | zero =>
    intro v1 v2 mm h
    have h2 : (none : Option (Int32 × Mm)) = some q := h
    cases h2
  | succ N ih =>
    intro v1 v2 mm h H locs ls hH hl
    exact wbX7_tellingBits_5 C ih h hH hl
set_option maxHeartbeats 2000000 in
set_option maxRecDepth 20000 in
theorem mX7_tellingBits (l : Launch) {D : va_G} {ca : Nat → ClassId} {A : Nat → Prop} {ad : Nat → Nat} {mm : Mm} {q : Int32 × Mm} (h : dX7_tellingBits mm = some q) : Met l yX7_tellingBits (wsOf yX7_tellingBits cX7_tellingBits 3 (some .int)) (rmk 5) (PcX WN ad ca WS D A [.ref (ad 1)] mm) (QcI WN ad ca WS D A pzT q) 0 0 A := by
  unfold dX7_tellingBits at h
  refine ent (by decide) (Nat.le_of_ble_eq_true rfl) (fun p e s m args below meth c hargs C hH ls hl => ?_)
  have hx := C.1
  have hb := C.2.1
  have hl : lv_has ls 3 [(0, .ref (ad 1))] := hl
  refine lv_bipush (v := (-2)) hx hb dX7_tellingBits_0 (by decide) ?_
  refine lv_istore_n (lv' := [(1, .int (-2)), (0, .ref (ad 1))]) hx hb dX7_tellingBits_2 rfl hl (by decide) rfl (fun ls hl => ?_)
  refine lv_iconst (v := 0) hx hb dX7_tellingBits_3 (by decide) ?_
  refine lv_istore_n (lv' := [(2, .int 0), (1, .int (-2)), (0, .ref (ad 1))]) hx hb dX7_tellingBits_4 rfl hl (by decide) rfl (fun ls hl => ?_)
  exact wX7_tellingBits_5 C FU _ _ _ h _ _ _ hH (lv_sub hl [2, 1, 0] rfl)
set_option maxHeartbeats 2000000 in
set_option maxRecDepth 20000 in
theorem mX9_tells (l : Launch) {D : va_G} {ca : Nat → ClassId} {A : Nat → Prop} {ad : Nat → Nat} {v1 : Int32} {mm : Mm} {q : Int32 × Mm} (h : dX9_tells v1 mm = some q) : Met l yX9_tells (wsOf yX9_tells cX9_tells 2 (some .int)) (rmk 6) (PcX WN ad ca WS D A [.ref (ad 0), .int v1] mm) (QcI WN ad ca WS D A pzT q) 0 0 A := by
  unfold dX9_tells at h
  refine ent (by decide) (Nat.le_of_ble_eq_true rfl) (fun p e s m args below meth c hargs C hH ls hl => ?_)
  have hx := C.1
  have hb := C.2.1
  have hl : lv_has ls 2 [(0, .ref (ad 0)), (1, .int v1)] := hl
  refine lv_iload_n hx hb dX9_tells_0 rfl (lv_at hl 1 rfl) ?_
  obtain ⟨q1, e1, h⟩ := tB h
  refine rsI C hH hl.1 (mX9_isPart l e1) cs_RX9_130 (RR_of (by decide) (by decide)) rfl (rest := []) rfl (Nat.le_of_ble_eq_true rfl) dX9_tells_1 ?_
  intro hz1 H locs hH
  refine lv_if_ne (tgt := 9) hx hb dX9_tells_4 (by decide) (fun hc4 => ?_) (fun hc4 => ?_)
  · replace h := tF hc4 h
    refine lv_iload_n hx hb dX9_tells_9 rfl (lv_at hl 1 rfl) ?_
    refine lv_if_ne (tgt := 25) hx hb dX9_tells_10 (by decide) (fun hc10 => ?_) (fun hc10 => ?_)
    · replace h := tF hc10 h
      refine lv_aload_n hx hb dX9_tells_25 rfl (lv_at hl 0 rfl) ?_
      refine rgS C hH fs_RX9_10_0 dX9_tells_26 ?_
      obtain ⟨q29, e29, h⟩ := tB h
      refine rcI C hH hl.1 (mX7_tellingBits l e29) cf_RX9_229 ro_1 (RR_of (by decide) (by decide)) rfl (rest := []) rfl (Nat.le_of_ble_eq_true rfl) dX9_tells_29 ?_
      intro hz29 H locs hH
      have h := Option.some.inj h
      subst h
      exact retI C hH trivial dX9_tells_32
    · replace h := tT hc10 h
      refine lv_aload_n hx hb dX9_tells_13 rfl (lv_at hl 0 rfl) ?_
      refine rgS C hH fs_RX9_10_0 dX9_tells_14 ?_
      refine lv_bipush (v := 7) hx hb dX9_tells_17 (by decide) ?_
      obtain ⟨q19, e19, h⟩ := tB h
      refine rcI C hH hl.1 (mX7_alike l e19) cf_RX9_226 ro_1 (RR_of (by decide) (by decide)) rfl (rest := []) rfl (Nat.le_of_ble_eq_true rfl) dX9_tells_19 ?_
      intro hz19 H locs hH
      refine lv_goto (tgt := 32) hx hb dX9_tells_22 (by decide) ?_
      have h := Option.some.inj h
      subst h
      exact retI C hH trivial dX9_tells_32
  · replace h := tT hc4 h
    refine lv_iconst (v := (-1)) hx hb dX9_tells_7 (by decide) ?_
    have h := Option.some.inj h
    subst h
    exact retI C hH trivial dX9_tells_8
set_option maxHeartbeats 2000000 in
set_option maxRecDepth 20000 in
theorem wX10_areAlike_64 (C : Cx D ca A p s m args meth c cX10_areAlike RX10 6 (some .boolean)) {q : Int32 × Mm} {k6 : Int32 → Int32 → Int32 → Int32 → Int32 → Mm → Option (Int32 × Mm)} (hk6 : ∀ (v1 : Int32) (v2 : Int32) (v3 : Int32) (v4 : Int32) (v5 : Int32) (mm : Mm), k6 v1 v2 v3 v4 v5 mm = some q → ∀ (H : Heap) (locs : List Loc) (ls : Array Slot), Hx WN ad ca WS D A s.heap mm H locs → lv_has ls 6 [(0, .ref (ad 58)), (1, .int v1), (2, .int v2), (3, .int v3), (4, .int v4), (5, .int v5)] → W p l e (rmk 2) s m args below meth c H locs 0 0 (MQ below (QcI WN ad ca WS D A pzZ q) args s 0 0 A) (F0 m 6 ls [])) {v1 : Int32} {v2 : Int32} {v3 : Int32} {v5 : Int32} {s0 : Int32} {mm : Mm} (h : DX10_areAlike_64 k6 v1 v2 v3 v5 s0 mm = some q) (hH : Hx WN ad ca WS D A s.heap mm H locs) (hl : lv_has ls 6 [(0, .ref (ad 58)), (1, .int v1), (2, .int v2), (3, .int v3), (5, .int v5)]) : W p l e (rmk 2) s m args below meth c H locs 0 0 (MQ below (QcI WN ad ca WS D A pzZ q) args s 0 0 A) (F0 m 64 ls [.int s0]) := by
  unfold DX10_areAlike_64 at h
  have hx := C.1
  have hb := C.2.1
  refine lv_istore (lv' := [(4, .int s0), (0, .ref (ad 58)), (1, .int v1), (2, .int v2), (3, .int v3), (5, .int v5)]) hx hb dX10_areAlike_64 hl (by decide) rfl (fun ls hl => ?_)
  refine lv_iinc (v := (v5 + 1)) (lv' := [(5, .int (v5 + 1)), (4, .int s0), (0, .ref (ad 58)), (1, .int v1), (2, .int v2), (3, .int v3)]) hx hb dX10_areAlike_66 hl (k := 5) rfl rfl (by decide) rfl (fun ls hl => ?_)
  refine lv_goto (tgt := 6) hx hb dX10_areAlike_69 (by decide) ?_
  exact hk6 _ _ _ _ _ _ h _ _ _ hH (lv_sub hl [2, 3, 4, 5, 1, 0] rfl)
set_option maxHeartbeats 2000000 in
set_option maxRecDepth 20000 in
theorem wX10_areAlike_63 (C : Cx D ca A p s m args meth c cX10_areAlike RX10 6 (some .boolean)) {q : Int32 × Mm} {k6 : Int32 → Int32 → Int32 → Int32 → Int32 → Mm → Option (Int32 × Mm)} (hk6 : ∀ (v1 : Int32) (v2 : Int32) (v3 : Int32) (v4 : Int32) (v5 : Int32) (mm : Mm), k6 v1 v2 v3 v4 v5 mm = some q → ∀ (H : Heap) (locs : List Loc) (ls : Array Slot), Hx WN ad ca WS D A s.heap mm H locs → lv_has ls 6 [(0, .ref (ad 58)), (1, .int v1), (2, .int v2), (3, .int v3), (4, .int v4), (5, .int v5)] → W p l e (rmk 2) s m args below meth c H locs 0 0 (MQ below (QcI WN ad ca WS D A pzZ q) args s 0 0 A) (F0 m 6 ls [])) {v1 : Int32} {v2 : Int32} {v3 : Int32} {v5 : Int32} {mm : Mm} (h : DX10_areAlike_63 k6 v1 v2 v3 v5 mm = some q) (hH : Hx WN ad ca WS D A s.heap mm H locs) (hl : lv_has ls 6 [(0, .ref (ad 58)), (1, .int v1), (2, .int v2), (3, .int v3), (5, .int v5)]) : W p l e (rmk 2) s m args below meth c H locs 0 0 (MQ below (QcI WN ad ca WS D A pzZ q) args s 0 0 A) (F0 m 63 ls []) := by
  unfold DX10_areAlike_63 at h
  have hx := C.1
  have hb := C.2.1
  refine lv_iconst (v := 0) hx hb dX10_areAlike_63 (by decide) ?_
  exact wX10_areAlike_64 C hk6 h hH (lv_sub hl [0, 1, 2, 3, 4] rfl)
set_option maxHeartbeats 2000000 in
set_option maxRecDepth 20000 in
theorem wX10_areAlike_59 (C : Cx D ca A p s m args meth c cX10_areAlike RX10 6 (some .boolean)) {q : Int32 × Mm} {k6 : Int32 → Int32 → Int32 → Int32 → Int32 → Mm → Option (Int32 × Mm)} (hk6 : ∀ (v1 : Int32) (v2 : Int32) (v3 : Int32) (v4 : Int32) (v5 : Int32) (mm : Mm), k6 v1 v2 v3 v4 v5 mm = some q → ∀ (H : Heap) (locs : List Loc) (ls : Array Slot), Hx WN ad ca WS D A s.heap mm H locs → lv_has ls 6 [(0, .ref (ad 58)), (1, .int v1), (2, .int v2), (3, .int v3), (4, .int v4), (5, .int v5)] → W p l e (rmk 2) s m args below meth c H locs 0 0 (MQ below (QcI WN ad ca WS D A pzZ q) args s 0 0 A) (F0 m 6 ls [])) {v1 : Int32} {v2 : Int32} {v3 : Int32} {v5 : Int32} {mm : Mm} (h : DX10_areAlike_59 k6 v1 v2 v3 v5 mm = some q) (hH : Hx WN ad ca WS D A s.heap mm H locs) (hl : lv_has ls 6 [(0, .ref (ad 58)), (1, .int v1), (2, .int v2), (3, .int v3), (5, .int v5)]) : W p l e (rmk 2) s m args below meth c H locs 0 0 (MQ below (QcI WN ad ca WS D A pzZ q) args s 0 0 A) (F0 m 59 ls []) := by
  unfold DX10_areAlike_59 at h
  have hx := C.1
  have hb := C.2.1
  refine lv_iconst (v := 1) hx hb dX10_areAlike_59 (by decide) ?_
  refine lv_goto (tgt := 64) hx hb dX10_areAlike_60 (by decide) ?_
  exact wX10_areAlike_64 C hk6 h hH (lv_sub hl [0, 1, 2, 3, 4] rfl)
set_option maxHeartbeats 2000000 in
set_option maxRecDepth 20000 in
theorem wbX10_areAlike_6 (C : Cx D ca A p s m args meth c cX10_areAlike RX10 6 (some .boolean)) {q : Int32 × Mm} {k6 : Int32 → Int32 → Int32 → Int32 → Int32 → Mm → Option (Int32 × Mm)} (hk6 : ∀ (v1 : Int32) (v2 : Int32) (v3 : Int32) (v4 : Int32) (v5 : Int32) (mm : Mm), k6 v1 v2 v3 v4 v5 mm = some q → ∀ (H : Heap) (locs : List Loc) (ls : Array Slot), Hx WN ad ca WS D A s.heap mm H locs → lv_has ls 6 [(0, .ref (ad 58)), (1, .int v1), (2, .int v2), (3, .int v3), (4, .int v4), (5, .int v5)] → W p l e (rmk 2) s m args below meth c H locs 0 0 (MQ below (QcI WN ad ca WS D A pzZ q) args s 0 0 A) (F0 m 6 ls [])) {v1 : Int32} {v2 : Int32} {v3 : Int32} {v4 : Int32} {v5 : Int32} {mm : Mm} (h : BX10_areAlike_6 k6 v1 v2 v3 v4 v5 mm = some q) (hH : Hx WN ad ca WS D A s.heap mm H locs) (hl : lv_has ls 6 [(0, .ref (ad 58)), (1, .int v1), (2, .int v2), (3, .int v3), (4, .int v4), (5, .int v5)]) : W p l e (rmk 2) s m args below meth c H locs 0 0 (MQ below (QcI WN ad ca WS D A pzZ q) args s 0 0 A) (F0 m 6 ls []) := by
  unfold BX10_areAlike_6 at h
  have hx := C.1
  have hb := C.2.1
  refine lv_iload hx hb dX10_areAlike_6 (lv_at hl 5 rfl) ?_
  refine lv_iconst (v := 3) hx hb dX10_areAlike_8 (by decide) ?_
  refine lv_icmp_ge (tgt := 72) hx hb dX10_areAlike_9 (by decide) (fun hc9 => ?_) (fun hc9 => ?_)
  · replace h := tT hc9 h
    refine lv_iload hx hb dX10_areAlike_72 (lv_at hl 4 rfl) ?_
    obtain ⟨hr74, h⟩ := tC h
    have h := Option.some.inj h
    subst h
    exact retZ C hH hr74 dX10_areAlike_74
  · replace h := tF hc9 h
    refine lv_iload hx hb dX10_areAlike_12 (lv_at hl 4 rfl) ?_
    refine lv_if_eq (tgt := 63) hx hb dX10_areAlike_14 (by decide) (fun hc14 => ?_) (fun hc14 => ?_)
    · replace h := tT hc14 h
      exact wX10_areAlike_63 C hk6 h hH (lv_sub hl [0, 1, 2, 3, 5] rfl)
    · replace h := tF hc14 h
      refine lv_iload_n hx hb dX10_areAlike_17 rfl (lv_at hl 3 rfl) ?_
      refine lv_iload hx hb dX10_areAlike_18 (lv_at hl 5 rfl) ?_
      obtain ⟨q20, e20, h⟩ := tB h
      refine rsI C hH hl.1 (mX10_isIn l e20) cs_RX10_258 (RR_of (by decide) (by decide)) rfl (rest := []) rfl (Nat.le_of_ble_eq_true rfl) dX10_areAlike_20 ?_
      intro hz20 H locs hH
      refine lv_if_eq (tgt := 59) hx hb dX10_areAlike_23 (by decide) (fun hc23 => ?_) (fun hc23 => ?_)
      · replace h := tT hc23 h
        exact wX10_areAlike_59 C hk6 h hH (lv_sub hl [0, 1, 2, 3, 5] rfl)
      · replace h := tF hc23 h
        refine lv_aload_n hx hb dX10_areAlike_26 rfl (lv_at hl 0 rfl) ?_
        refine rgS C hH fs_RX10_9_58 dX10_areAlike_27 ?_
        refine lv_bipush (v := 6) hx hb dX10_areAlike_30 (by decide) ?_
        refine lv_bipush (v := 6) hx hb dX10_areAlike_32 (by decide) ?_
        refine lv_iload hx hb dX10_areAlike_34 (lv_at hl 5 rfl) ?_
        refine lv_imul hx hb dX10_areAlike_36 ?_
        refine lv_iadd hx hb dX10_areAlike_37 ?_
        refine lv_iload_n hx hb dX10_areAlike_38 rfl (lv_at hl 1 rfl) ?_
        refine lv_iadd hx hb dX10_areAlike_39 ?_
        obtain ⟨hi40, h⟩ := tC h
        refine raI C hH (k := (Int32.toNatClampNeg ((6 + (6 * v5)) + v1))) (by decide) (show WS 59 = .inr (0, 62, 0) from rfl) hi40 rfl dX10_areAlike_40 ?_
        refine lv_aload_n hx hb dX10_areAlike_41 rfl (lv_at hl 0 rfl) ?_
        refine rgS C hH fs_RX10_9_58 dX10_areAlike_42 ?_
        refine lv_bipush (v := 6) hx hb dX10_areAlike_45 (by decide) ?_
        refine lv_bipush (v := 6) hx hb dX10_areAlike_47 (by decide) ?_
        refine lv_iload hx hb dX10_areAlike_49 (lv_at hl 5 rfl) ?_
        refine lv_imul hx hb dX10_areAlike_51 ?_
        refine lv_iadd hx hb dX10_areAlike_52 ?_
        refine lv_iload_n hx hb dX10_areAlike_53 rfl (lv_at hl 2 rfl) ?_
        refine lv_iadd hx hb dX10_areAlike_54 ?_
        obtain ⟨hi55, h⟩ := tC h
        refine raI C hH (k := (Int32.toNatClampNeg ((6 + (6 * v5)) + v2))) (by decide) (show WS 59 = .inr (0, 62, 0) from rfl) hi55 rfl dX10_areAlike_55 ?_
        refine lv_icmp_ne (tgt := 63) hx hb dX10_areAlike_56 (by decide) (fun hc56 => ?_) (fun hc56 => ?_)
        · replace h := tF hc56 h
          exact wX10_areAlike_63 C hk6 h hH (lv_sub hl [0, 1, 2, 3, 5] rfl)
        · replace h := tT hc56 h
          exact wX10_areAlike_59 C hk6 h hH (lv_sub hl [0, 1, 2, 3, 5] rfl)
set_option maxHeartbeats 2000000 in
set_option maxRecDepth 20000 in
theorem wX10_areAlike_6 (C : Cx D ca A p s m args meth c cX10_areAlike RX10 6 (some .boolean)) {q : Int32 × Mm} : ∀ (N : Nat) (v1 : Int32) (v2 : Int32) (v3 : Int32) (v4 : Int32) (v5 : Int32) (mm : Mm), DX10_areAlike_6 N v1 v2 v3 v4 v5 mm = some q → ∀ (H : Heap) (locs : List Loc) (ls : Array Slot), Hx WN ad ca WS D A s.heap mm H locs → lv_has ls 6 [(0, .ref (ad 58)), (1, .int v1), (2, .int v2), (3, .int v3), (4, .int v4), (5, .int v5)] → W p l e (rmk 2) s m args below meth c H locs 0 0 (MQ below (QcI WN ad ca WS D A pzZ q) args s 0 0 A) (F0 m 6 ls []) := by
  intro N
  induction N with
  | zero =>
    intro v1 v2 v3 v4 v5 mm h
    have h2 : (none : Option (Int32 × Mm)) = some q := h
    cases h2
  | succ N ih =>
    intro v1 v2 v3 v4 v5 mm h H locs ls hH hl
    exact wbX10_areAlike_6 C ih h hH hl
set_option maxHeartbeats 2000000 in
set_option maxRecDepth 20000 in
theorem mX10_areAlike (l : Launch) {D : va_G} {ca : Nat → ClassId} {A : Nat → Prop} {ad : Nat → Nat} {v1 : Int32} {v2 : Int32} {v3 : Int32} {mm : Mm} {q : Int32 × Mm} (h : dX10_areAlike v1 v2 v3 mm = some q) : Met l yX10_areAlike (wsOf yX10_areAlike cX10_areAlike 6 (some .boolean)) (rmk 2) (PcX WN ad ca WS D A [.ref (ad 58), .int v1, .int v2, .int v3] mm) (QcI WN ad ca WS D A pzZ q) 0 0 A := by
  unfold dX10_areAlike at h
  refine ent (by decide) (Nat.le_of_ble_eq_true rfl) (fun p e s m args below meth c hargs C hH ls hl => ?_)
  have hx := C.1
  have hb := C.2.1
  have hl : lv_has ls 6 [(0, .ref (ad 58)), (1, .int v1), (2, .int v2), (3, .int v3)] := hl
  refine lv_iconst (v := 1) hx hb dX10_areAlike_0 (by decide) ?_
  refine lv_istore (lv' := [(4, .int 1), (0, .ref (ad 58)), (1, .int v1), (2, .int v2), (3, .int v3)]) hx hb dX10_areAlike_1 hl (by decide) rfl (fun ls hl => ?_)
  refine lv_iconst (v := 0) hx hb dX10_areAlike_3 (by decide) ?_
  refine lv_istore (lv' := [(5, .int 0), (4, .int 1), (0, .ref (ad 58)), (1, .int v1), (2, .int v2), (3, .int v3)]) hx hb dX10_areAlike_4 hl (by decide) rfl (fun ls hl => ?_)
  exact wX10_areAlike_6 C FU _ _ _ _ _ _ h _ _ _ hH (lv_sub hl [2, 3, 4, 5, 1, 0] rfl)
set_option maxHeartbeats 2000000 in
set_option maxRecDepth 20000 in
theorem wX10_alikeBy_69 (C : Cx D ca A p s m args meth c cX10_alikeBy RX10 6 (some .int)) {q : Int32 × Mm} {k4 : Int32 → Int32 → Int32 → Mm → Option (Int32 × Mm)} (hk4 : ∀ (v1 : Int32) (v2 : Int32) (v3 : Int32) (mm : Mm), k4 v1 v2 v3 mm = some q → ∀ (H : Heap) (locs : List Loc) (ls : Array Slot), Hx WN ad ca WS D A s.heap mm H locs → lv_has ls 6 [(0, .ref (ad 58)), (1, .int v1), (2, .int v2), (3, .int v3)] → W p l e (rmk 3) s m args below meth c H locs 0 0 (MQ below (QcI WN ad ca WS D A pzT q) args s 0 0 A) (F0 m 4 ls [])) {v1 : Int32} {v3 : Int32} {s0 : Int32} {s1 : Int32} {mm : Mm} (h : DX10_alikeBy_69 k4 v1 v3 s0 s1 mm = some q) (hH : Hx WN ad ca WS D A s.heap mm H locs) (hl : lv_has ls 6 [(0, .ref (ad 58)), (1, .int v1), (3, .int v3)]) : W p l e (rmk 3) s m args below meth c H locs 0 0 (MQ below (QcI WN ad ca WS D A pzT q) args s 0 0 A) (F0 m 69 ls [.int s0, .int s1]) := by
  unfold DX10_alikeBy_69 at h
  have hx := C.1
  have hb := C.2.1
  refine lv_iadd hx hb dX10_alikeBy_69 ?_
  refine lv_istore_n (lv' := [(2, .int (s1 + s0)), (0, .ref (ad 58)), (1, .int v1), (3, .int v3)]) hx hb dX10_alikeBy_70 rfl hl (by decide) rfl (fun ls hl => ?_)
  refine lv_iinc (v := (v3 + 1)) (lv' := [(3, .int (v3 + 1)), (2, .int (s1 + s0)), (0, .ref (ad 58)), (1, .int v1)]) hx hb dX10_alikeBy_71 hl (k := 3) rfl rfl (by decide) rfl (fun ls hl => ?_)
  refine lv_goto (tgt := 4) hx hb dX10_alikeBy_74 (by decide) ?_
  exact hk4 _ _ _ _ h _ _ _ hH (lv_sub hl [2, 3, 1, 0] rfl)
set_option maxHeartbeats 2000000 in
set_option maxRecDepth 20000 in
theorem wX10_alikeBy_50 (C : Cx D ca A p s m args meth c cX10_alikeBy RX10 6 (some .int)) {q : Int32 × Mm} {k4 : Int32 → Int32 → Int32 → Mm → Option (Int32 × Mm)} (hk4 : ∀ (v1 : Int32) (v2 : Int32) (v3 : Int32) (mm : Mm), k4 v1 v2 v3 mm = some q → ∀ (H : Heap) (locs : List Loc) (ls : Array Slot), Hx WN ad ca WS D A s.heap mm H locs → lv_has ls 6 [(0, .ref (ad 58)), (1, .int v1), (2, .int v2), (3, .int v3)] → W p l e (rmk 3) s m args below meth c H locs 0 0 (MQ below (QcI WN ad ca WS D A pzT q) args s 0 0 A) (F0 m 4 ls [])) {k16 : Int32 → Int32 → Int32 → Int32 → Int32 → Mm → Option (Int32 × Mm)} (hk16 : ∀ (v1 : Int32) (v2 : Int32) (v3 : Int32) (v4 : Int32) (v5 : Int32) (mm : Mm), k16 v1 v2 v3 v4 v5 mm = some q → ∀ (H : Heap) (locs : List Loc) (ls : Array Slot), Hx WN ad ca WS D A s.heap mm H locs → lv_has ls 6 [(0, .ref (ad 58)), (1, .int v1), (2, .int v2), (3, .int v3), (4, .int v4), (5, .int v5)] → W p l e (rmk 3) s m args below meth c H locs 0 0 (MQ below (QcI WN ad ca WS D A pzT q) args s 0 0 A) (F0 m 16 ls [])) {v1 : Int32} {v2 : Int32} {v3 : Int32} {v5 : Int32} {s0 : Int32} {mm : Mm} (h : DX10_alikeBy_50 k4 k16 v1 v2 v3 v5 s0 mm = some q) (hH : Hx WN ad ca WS D A s.heap mm H locs) (hl : lv_has ls 6 [(0, .ref (ad 58)), (1, .int v1), (2, .int v2), (3, .int v3), (5, .int v5)]) : W p l e (rmk 3) s m args below meth c H locs 0 0 (MQ below (QcI WN ad ca WS D A pzT q) args s 0 0 A) (F0 m 50 ls [.int s0]) := by
  unfold DX10_alikeBy_50 at h
  have hx := C.1
  have hb := C.2.1
  refine lv_istore (lv' := [(4, .int s0), (0, .ref (ad 58)), (1, .int v1), (2, .int v2), (3, .int v3), (5, .int v5)]) hx hb dX10_alikeBy_50 hl (by decide) rfl (fun ls hl => ?_)
  refine lv_iinc (v := (v5 + 1)) (lv' := [(5, .int (v5 + 1)), (4, .int s0), (0, .ref (ad 58)), (1, .int v1), (2, .int v2), (3, .int v3)]) hx hb dX10_alikeBy_52 hl (k := 5) rfl rfl (by decide) rfl (fun ls hl => ?_)
  refine lv_goto (tgt := 16) hx hb dX10_alikeBy_55 (by decide) ?_
  exact hk16 _ _ _ _ _ _ h _ _ _ hH (lv_sub hl [2, 3, 4, 5, 1, 0] rfl)
set_option maxHeartbeats 2000000 in
set_option maxRecDepth 20000 in
theorem wX10_alikeBy_45 (C : Cx D ca A p s m args meth c cX10_alikeBy RX10 6 (some .int)) {q : Int32 × Mm} {k4 : Int32 → Int32 → Int32 → Mm → Option (Int32 × Mm)} (hk4 : ∀ (v1 : Int32) (v2 : Int32) (v3 : Int32) (mm : Mm), k4 v1 v2 v3 mm = some q → ∀ (H : Heap) (locs : List Loc) (ls : Array Slot), Hx WN ad ca WS D A s.heap mm H locs → lv_has ls 6 [(0, .ref (ad 58)), (1, .int v1), (2, .int v2), (3, .int v3)] → W p l e (rmk 3) s m args below meth c H locs 0 0 (MQ below (QcI WN ad ca WS D A pzT q) args s 0 0 A) (F0 m 4 ls [])) {k16 : Int32 → Int32 → Int32 → Int32 → Int32 → Mm → Option (Int32 × Mm)} (hk16 : ∀ (v1 : Int32) (v2 : Int32) (v3 : Int32) (v4 : Int32) (v5 : Int32) (mm : Mm), k16 v1 v2 v3 v4 v5 mm = some q → ∀ (H : Heap) (locs : List Loc) (ls : Array Slot), Hx WN ad ca WS D A s.heap mm H locs → lv_has ls 6 [(0, .ref (ad 58)), (1, .int v1), (2, .int v2), (3, .int v3), (4, .int v4), (5, .int v5)] → W p l e (rmk 3) s m args below meth c H locs 0 0 (MQ below (QcI WN ad ca WS D A pzT q) args s 0 0 A) (F0 m 16 ls [])) {v1 : Int32} {v2 : Int32} {v3 : Int32} {v5 : Int32} {mm : Mm} (h : DX10_alikeBy_45 k4 k16 v1 v2 v3 v5 mm = some q) (hH : Hx WN ad ca WS D A s.heap mm H locs) (hl : lv_has ls 6 [(0, .ref (ad 58)), (1, .int v1), (2, .int v2), (3, .int v3), (5, .int v5)]) : W p l e (rmk 3) s m args below meth c H locs 0 0 (MQ below (QcI WN ad ca WS D A pzT q) args s 0 0 A) (F0 m 45 ls []) := by
  unfold DX10_alikeBy_45 at h
  have hx := C.1
  have hb := C.2.1
  refine lv_iconst (v := 1) hx hb dX10_alikeBy_45 (by decide) ?_
  refine lv_goto (tgt := 50) hx hb dX10_alikeBy_46 (by decide) ?_
  exact wX10_alikeBy_50 C hk4 hk16 h hH (lv_sub hl [0, 1, 2, 3, 4] rfl)
set_option maxHeartbeats 2000000 in
set_option maxRecDepth 20000 in
theorem wX10_alikeBy_49 (C : Cx D ca A p s m args meth c cX10_alikeBy RX10 6 (some .int)) {q : Int32 × Mm} {k4 : Int32 → Int32 → Int32 → Mm → Option (Int32 × Mm)} (hk4 : ∀ (v1 : Int32) (v2 : Int32) (v3 : Int32) (mm : Mm), k4 v1 v2 v3 mm = some q → ∀ (H : Heap) (locs : List Loc) (ls : Array Slot), Hx WN ad ca WS D A s.heap mm H locs → lv_has ls 6 [(0, .ref (ad 58)), (1, .int v1), (2, .int v2), (3, .int v3)] → W p l e (rmk 3) s m args below meth c H locs 0 0 (MQ below (QcI WN ad ca WS D A pzT q) args s 0 0 A) (F0 m 4 ls [])) {k16 : Int32 → Int32 → Int32 → Int32 → Int32 → Mm → Option (Int32 × Mm)} (hk16 : ∀ (v1 : Int32) (v2 : Int32) (v3 : Int32) (v4 : Int32) (v5 : Int32) (mm : Mm), k16 v1 v2 v3 v4 v5 mm = some q → ∀ (H : Heap) (locs : List Loc) (ls : Array Slot), Hx WN ad ca WS D A s.heap mm H locs → lv_has ls 6 [(0, .ref (ad 58)), (1, .int v1), (2, .int v2), (3, .int v3), (4, .int v4), (5, .int v5)] → W p l e (rmk 3) s m args below meth c H locs 0 0 (MQ below (QcI WN ad ca WS D A pzT q) args s 0 0 A) (F0 m 16 ls [])) {v1 : Int32} {v2 : Int32} {v3 : Int32} {v5 : Int32} {mm : Mm} (h : DX10_alikeBy_49 k4 k16 v1 v2 v3 v5 mm = some q) (hH : Hx WN ad ca WS D A s.heap mm H locs) (hl : lv_has ls 6 [(0, .ref (ad 58)), (1, .int v1), (2, .int v2), (3, .int v3), (5, .int v5)]) : W p l e (rmk 3) s m args below meth c H locs 0 0 (MQ below (QcI WN ad ca WS D A pzT q) args s 0 0 A) (F0 m 49 ls []) := by
  unfold DX10_alikeBy_49 at h
  have hx := C.1
  have hb := C.2.1
  refine lv_iconst (v := 0) hx hb dX10_alikeBy_49 (by decide) ?_
  exact wX10_alikeBy_50 C hk4 hk16 h hH (lv_sub hl [0, 1, 2, 3, 4] rfl)
set_option maxHeartbeats 2000000 in
set_option maxRecDepth 20000 in
theorem wbX10_alikeBy_16 (C : Cx D ca A p s m args meth c cX10_alikeBy RX10 6 (some .int)) {q : Int32 × Mm} {k4 : Int32 → Int32 → Int32 → Mm → Option (Int32 × Mm)} (hk4 : ∀ (v1 : Int32) (v2 : Int32) (v3 : Int32) (mm : Mm), k4 v1 v2 v3 mm = some q → ∀ (H : Heap) (locs : List Loc) (ls : Array Slot), Hx WN ad ca WS D A s.heap mm H locs → lv_has ls 6 [(0, .ref (ad 58)), (1, .int v1), (2, .int v2), (3, .int v3)] → W p l e (rmk 3) s m args below meth c H locs 0 0 (MQ below (QcI WN ad ca WS D A pzT q) args s 0 0 A) (F0 m 4 ls [])) {k16 : Int32 → Int32 → Int32 → Int32 → Int32 → Mm → Option (Int32 × Mm)} (hk16 : ∀ (v1 : Int32) (v2 : Int32) (v3 : Int32) (v4 : Int32) (v5 : Int32) (mm : Mm), k16 v1 v2 v3 v4 v5 mm = some q → ∀ (H : Heap) (locs : List Loc) (ls : Array Slot), Hx WN ad ca WS D A s.heap mm H locs → lv_has ls 6 [(0, .ref (ad 58)), (1, .int v1), (2, .int v2), (3, .int v3), (4, .int v4), (5, .int v5)] → W p l e (rmk 3) s m args below meth c H locs 0 0 (MQ below (QcI WN ad ca WS D A pzT q) args s 0 0 A) (F0 m 16 ls [])) {v1 : Int32} {v2 : Int32} {v3 : Int32} {v4 : Int32} {v5 : Int32} {mm : Mm} (h : BX10_alikeBy_16 k4 k16 v1 v2 v3 v4 v5 mm = some q) (hH : Hx WN ad ca WS D A s.heap mm H locs) (hl : lv_has ls 6 [(0, .ref (ad 58)), (1, .int v1), (2, .int v2), (3, .int v3), (4, .int v4), (5, .int v5)]) : W p l e (rmk 3) s m args below meth c H locs 0 0 (MQ below (QcI WN ad ca WS D A pzT q) args s 0 0 A) (F0 m 16 ls []) := by
  unfold BX10_alikeBy_16 at h
  have hx := C.1
  have hb := C.2.1
  refine lv_iload hx hb dX10_alikeBy_16 (lv_at hl 5 rfl) ?_
  refine lv_bipush (v := 6) hx hb dX10_alikeBy_18 (by decide) ?_
  refine lv_icmp_ge (tgt := 58) hx hb dX10_alikeBy_20 (by decide) (fun hc20 => ?_) (fun hc20 => ?_)
  · replace h := tT hc20 h
    refine lv_iload_n hx hb dX10_alikeBy_58 rfl (lv_at hl 2 rfl) ?_
    refine lv_iload hx hb dX10_alikeBy_59 (lv_at hl 4 rfl) ?_
    refine lv_if_eq (tgt := 68) hx hb dX10_alikeBy_61 (by decide) (fun hc61 => ?_) (fun hc61 => ?_)
    · replace h := tT hc61 h
      refine lv_iconst (v := 0) hx hb dX10_alikeBy_68 (by decide) ?_
      exact wX10_alikeBy_69 C hk4 h hH (lv_sub hl [0, 1, 3] rfl)
    · replace h := tF hc61 h
      refine lv_iconst (v := 1) hx hb dX10_alikeBy_64 (by decide) ?_
      refine lv_goto (tgt := 69) hx hb dX10_alikeBy_65 (by decide) ?_
      exact wX10_alikeBy_69 C hk4 h hH (lv_sub hl [0, 1, 3] rfl)
  · replace h := tF hc20 h
    refine lv_iload hx hb dX10_alikeBy_23 (lv_at hl 4 rfl) ?_
    refine lv_if_ne (tgt := 45) hx hb dX10_alikeBy_25 (by decide) (fun hc25 => ?_) (fun hc25 => ?_)
    · replace h := tF hc25 h
      exact wX10_alikeBy_45 C hk4 hk16 h hH (lv_sub hl [0, 1, 2, 3, 5] rfl)
    · replace h := tT hc25 h
      refine lv_iload hx hb dX10_alikeBy_28 (lv_at hl 5 rfl) ?_
      refine lv_iload_n hx hb dX10_alikeBy_30 rfl (lv_at hl 3 rfl) ?_
      refine lv_icmp_eq (tgt := 49) hx hb dX10_alikeBy_31 (by decide) (fun hc31 => ?_) (fun hc31 => ?_)
      · replace h := tT hc31 h
        exact wX10_alikeBy_49 C hk4 hk16 h hH (lv_sub hl [0, 1, 2, 3, 5] rfl)
      · replace h := tF hc31 h
        refine lv_aload_n hx hb dX10_alikeBy_34 rfl (lv_at hl 0 rfl) ?_
        refine lv_iload_n hx hb dX10_alikeBy_35 rfl (lv_at hl 3 rfl) ?_
        refine lv_iload hx hb dX10_alikeBy_36 (lv_at hl 5 rfl) ?_
        refine lv_iload_n hx hb dX10_alikeBy_38 rfl (lv_at hl 1 rfl) ?_
        obtain ⟨q39, e39, h⟩ := tB h
        refine rcI C hH hl.1 (mX10_areAlike l e39) cf_RX10_272 ro_58 (RR_of (by decide) (by decide)) rfl (rest := []) rfl (Nat.le_of_ble_eq_true rfl) dX10_alikeBy_39 ?_
        intro hz39 H locs hH
        refine lv_if_eq (tgt := 49) hx hb dX10_alikeBy_42 (by decide) (fun hc42 => ?_) (fun hc42 => ?_)
        · replace h := tT hc42 h
          exact wX10_alikeBy_49 C hk4 hk16 h hH (lv_sub hl [0, 1, 2, 3, 5] rfl)
        · replace h := tF hc42 h
          exact wX10_alikeBy_45 C hk4 hk16 h hH (lv_sub hl [0, 1, 2, 3, 5] rfl)
set_option maxHeartbeats 2000000 in
set_option maxRecDepth 20000 in
theorem wX10_alikeBy_16 (C : Cx D ca A p s m args meth c cX10_alikeBy RX10 6 (some .int)) {q : Int32 × Mm} {k4 : Int32 → Int32 → Int32 → Mm → Option (Int32 × Mm)} (hk4 : ∀ (v1 : Int32) (v2 : Int32) (v3 : Int32) (mm : Mm), k4 v1 v2 v3 mm = some q → ∀ (H : Heap) (locs : List Loc) (ls : Array Slot), Hx WN ad ca WS D A s.heap mm H locs → lv_has ls 6 [(0, .ref (ad 58)), (1, .int v1), (2, .int v2), (3, .int v3)] → W p l e (rmk 3) s m args below meth c H locs 0 0 (MQ below (QcI WN ad ca WS D A pzT q) args s 0 0 A) (F0 m 4 ls [])) : ∀ (N : Nat) (v1 : Int32) (v2 : Int32) (v3 : Int32) (v4 : Int32) (v5 : Int32) (mm : Mm), DX10_alikeBy_16 k4 N v1 v2 v3 v4 v5 mm = some q → ∀ (H : Heap) (locs : List Loc) (ls : Array Slot), Hx WN ad ca WS D A s.heap mm H locs → lv_has ls 6 [(0, .ref (ad 58)), (1, .int v1), (2, .int v2), (3, .int v3), (4, .int v4), (5, .int v5)] → W p l e (rmk 3) s m args below meth c H locs 0 0 (MQ below (QcI WN ad ca WS D A pzT q) args s 0 0 A) (F0 m 16 ls []) := by
  intro N
  induction N with
  | zero =>
    intro v1 v2 v3 v4 v5 mm h
    have h2 : (none : Option (Int32 × Mm)) = some q := h
    cases h2
  | succ N ih =>
    intro v1 v2 v3 v4 v5 mm h H locs ls hH hl
    exact wbX10_alikeBy_16 C hk4 ih h hH hl
set_option maxHeartbeats 2000000 in
set_option maxRecDepth 20000 in
theorem wbX10_alikeBy_4 (C : Cx D ca A p s m args meth c cX10_alikeBy RX10 6 (some .int)) {q : Int32 × Mm} {k4 : Int32 → Int32 → Int32 → Mm → Option (Int32 × Mm)} (hk4 : ∀ (v1 : Int32) (v2 : Int32) (v3 : Int32) (mm : Mm), k4 v1 v2 v3 mm = some q → ∀ (H : Heap) (locs : List Loc) (ls : Array Slot), Hx WN ad ca WS D A s.heap mm H locs → lv_has ls 6 [(0, .ref (ad 58)), (1, .int v1), (2, .int v2), (3, .int v3)] → W p l e (rmk 3) s m args below meth c H locs 0 0 (MQ below (QcI WN ad ca WS D A pzT q) args s 0 0 A) (F0 m 4 ls [])) {v1 : Int32} {v2 : Int32} {v3 : Int32} {mm : Mm} (h : BX10_alikeBy_4 k4 v1 v2 v3 mm = some q) (hH : Hx WN ad ca WS D A s.heap mm H locs) (hl : lv_has ls 6 [(0, .ref (ad 58)), (1, .int v1), (2, .int v2), (3, .int v3)]) : W p l e (rmk 3) s m args below meth c H locs 0 0 (MQ below (QcI WN ad ca WS D A pzT q) args s 0 0 A) (F0 m 4 ls []) := by
  unfold BX10_alikeBy_4 at h
  have hx := C.1
  have hb := C.2.1
  refine lv_iload_n hx hb dX10_alikeBy_4 rfl (lv_at hl 3 rfl) ?_
  refine lv_bipush (v := 6) hx hb dX10_alikeBy_5 (by decide) ?_
  refine lv_icmp_ge (tgt := 77) hx hb dX10_alikeBy_7 (by decide) (fun hc7 => ?_) (fun hc7 => ?_)
  · replace h := tT hc7 h
    refine lv_iload_n hx hb dX10_alikeBy_77 rfl (lv_at hl 2 rfl) ?_
    have h := Option.some.inj h
    subst h
    exact retI C hH trivial dX10_alikeBy_78
  · replace h := tF hc7 h
    refine lv_iconst (v := 0) hx hb dX10_alikeBy_10 (by decide) ?_
    refine lv_istore (lv' := [(4, .int 0), (0, .ref (ad 58)), (1, .int v1), (2, .int v2), (3, .int v3)]) hx hb dX10_alikeBy_11 hl (by decide) rfl (fun ls hl => ?_)
    refine lv_iconst (v := 0) hx hb dX10_alikeBy_13 (by decide) ?_
    refine lv_istore (lv' := [(5, .int 0), (4, .int 0), (0, .ref (ad 58)), (1, .int v1), (2, .int v2), (3, .int v3)]) hx hb dX10_alikeBy_14 hl (by decide) rfl (fun ls hl => ?_)
    exact wX10_alikeBy_16 C hk4 FU _ _ _ _ _ _ h _ _ _ hH (lv_sub hl [2, 3, 4, 5, 1, 0] rfl)
set_option maxHeartbeats 2000000 in
set_option maxRecDepth 20000 in
theorem wX10_alikeBy_4 (C : Cx D ca A p s m args meth c cX10_alikeBy RX10 6 (some .int)) {q : Int32 × Mm} : ∀ (N : Nat) (v1 : Int32) (v2 : Int32) (v3 : Int32) (mm : Mm), DX10_alikeBy_4 N v1 v2 v3 mm = some q → ∀ (H : Heap) (locs : List Loc) (ls : Array Slot), Hx WN ad ca WS D A s.heap mm H locs → lv_has ls 6 [(0, .ref (ad 58)), (1, .int v1), (2, .int v2), (3, .int v3)] → W p l e (rmk 3) s m args below meth c H locs 0 0 (MQ below (QcI WN ad ca WS D A pzT q) args s 0 0 A) (F0 m 4 ls []) := by
  intro N
  induction N with
  | zero =>
    intro v1 v2 v3 mm h
    have h2 : (none : Option (Int32 × Mm)) = some q := h
    cases h2
  | succ N ih =>
    intro v1 v2 v3 mm h H locs ls hH hl
    exact wbX10_alikeBy_4 C ih h hH hl
set_option maxHeartbeats 2000000 in
set_option maxRecDepth 20000 in
theorem mX10_alikeBy (l : Launch) {D : va_G} {ca : Nat → ClassId} {A : Nat → Prop} {ad : Nat → Nat} {v1 : Int32} {mm : Mm} {q : Int32 × Mm} (h : dX10_alikeBy v1 mm = some q) : Met l yX10_alikeBy (wsOf yX10_alikeBy cX10_alikeBy 6 (some .int)) (rmk 3) (PcX WN ad ca WS D A [.ref (ad 58), .int v1] mm) (QcI WN ad ca WS D A pzT q) 0 0 A := by
  unfold dX10_alikeBy at h
  refine ent (by decide) (Nat.le_of_ble_eq_true rfl) (fun p e s m args below meth c hargs C hH ls hl => ?_)
  have hx := C.1
  have hb := C.2.1
  have hl : lv_has ls 6 [(0, .ref (ad 58)), (1, .int v1)] := hl
  refine lv_iconst (v := 0) hx hb dX10_alikeBy_0 (by decide) ?_
  refine lv_istore_n (lv' := [(2, .int 0), (0, .ref (ad 58)), (1, .int v1)]) hx hb dX10_alikeBy_1 rfl hl (by decide) rfl (fun ls hl => ?_)
  refine lv_iconst (v := 0) hx hb dX10_alikeBy_2 (by decide) ?_
  refine lv_istore_n (lv' := [(3, .int 0), (2, .int 0), (0, .ref (ad 58)), (1, .int v1)]) hx hb dX10_alikeBy_3 rfl hl (by decide) rfl (fun ls hl => ?_)
  exact wX10_alikeBy_4 C FU _ _ _ _ h _ _ _ hH (lv_sub hl [2, 3, 1, 0] rfl)
set_option maxHeartbeats 2000000 in
set_option maxRecDepth 20000 in
theorem wX10_tells_62 (C : Cx D ca A p s m args meth c cX10_tells RX10 4 (some .int)) {q : Int32 × Mm} {k28 : Int32 → Int32 → Mm → Option (Int32 × Mm)} (hk28 : ∀ (v2 : Int32) (v3 : Int32) (mm : Mm), k28 v2 v3 mm = some q → ∀ (H : Heap) (locs : List Loc) (ls : Array Slot), Hx WN ad ca WS D A s.heap mm H locs → lv_has ls 4 [(0, .ref (ad 58)), (2, .int v2), (3, .int v3)] → W p l e (rmk 4) s m args below meth c H locs 0 0 (MQ below (QcI WN ad ca WS D A pzT q) args s 0 0 A) (F0 m 28 ls [])) {v3 : Int32} {s0 : Int32} {mm : Mm} (h : DX10_tells_62 k28 v3 s0 mm = some q) (hH : Hx WN ad ca WS D A s.heap mm H locs) (hl : lv_has ls 4 [(0, .ref (ad 58)), (3, .int v3)]) : W p l e (rmk 4) s m args below meth c H locs 0 0 (MQ below (QcI WN ad ca WS D A pzT q) args s 0 0 A) (F0 m 62 ls [.int s0]) := by
  unfold DX10_tells_62 at h
  have hx := C.1
  have hb := C.2.1
  refine lv_istore_n (lv' := [(2, .int s0), (0, .ref (ad 58)), (3, .int v3)]) hx hb dX10_tells_62 rfl hl (by decide) rfl (fun ls hl => ?_)
  refine lv_iinc (v := (v3 + 1)) (lv' := [(3, .int (v3 + 1)), (2, .int s0), (0, .ref (ad 58))]) hx hb dX10_tells_63 hl (k := 2) rfl rfl (by decide) rfl (fun ls hl => ?_)
  refine lv_goto (tgt := 28) hx hb dX10_tells_66 (by decide) ?_
  exact hk28 _ _ _ h _ _ _ hH (lv_sub hl [2, 1, 0] rfl)
set_option maxHeartbeats 2000000 in
set_option maxRecDepth 20000 in
theorem wX10_tells_61 (C : Cx D ca A p s m args meth c cX10_tells RX10 4 (some .int)) {q : Int32 × Mm} {k28 : Int32 → Int32 → Mm → Option (Int32 × Mm)} (hk28 : ∀ (v2 : Int32) (v3 : Int32) (mm : Mm), k28 v2 v3 mm = some q → ∀ (H : Heap) (locs : List Loc) (ls : Array Slot), Hx WN ad ca WS D A s.heap mm H locs → lv_has ls 4 [(0, .ref (ad 58)), (2, .int v2), (3, .int v3)] → W p l e (rmk 4) s m args below meth c H locs 0 0 (MQ below (QcI WN ad ca WS D A pzT q) args s 0 0 A) (F0 m 28 ls [])) {v2 : Int32} {v3 : Int32} {mm : Mm} (h : DX10_tells_61 k28 v2 v3 mm = some q) (hH : Hx WN ad ca WS D A s.heap mm H locs) (hl : lv_has ls 4 [(0, .ref (ad 58)), (2, .int v2), (3, .int v3)]) : W p l e (rmk 4) s m args below meth c H locs 0 0 (MQ below (QcI WN ad ca WS D A pzT q) args s 0 0 A) (F0 m 61 ls []) := by
  unfold DX10_tells_61 at h
  have hx := C.1
  have hb := C.2.1
  refine lv_iload_n hx hb dX10_tells_61 rfl (lv_at hl 1 rfl) ?_
  exact wX10_tells_62 C hk28 h hH (lv_sub hl [0, 2] rfl)
set_option maxHeartbeats 2000000 in
set_option maxRecDepth 20000 in
theorem wX10_tells_57 (C : Cx D ca A p s m args meth c cX10_tells RX10 4 (some .int)) {q : Int32 × Mm} {k28 : Int32 → Int32 → Mm → Option (Int32 × Mm)} (hk28 : ∀ (v2 : Int32) (v3 : Int32) (mm : Mm), k28 v2 v3 mm = some q → ∀ (H : Heap) (locs : List Loc) (ls : Array Slot), Hx WN ad ca WS D A s.heap mm H locs → lv_has ls 4 [(0, .ref (ad 58)), (2, .int v2), (3, .int v3)] → W p l e (rmk 4) s m args below meth c H locs 0 0 (MQ below (QcI WN ad ca WS D A pzT q) args s 0 0 A) (F0 m 28 ls [])) {v3 : Int32} {mm : Mm} (h : DX10_tells_57 k28 v3 mm = some q) (hH : Hx WN ad ca WS D A s.heap mm H locs) (hl : lv_has ls 4 [(0, .ref (ad 58)), (3, .int v3)]) : W p l e (rmk 4) s m args below meth c H locs 0 0 (MQ below (QcI WN ad ca WS D A pzT q) args s 0 0 A) (F0 m 57 ls []) := by
  unfold DX10_tells_57 at h
  have hx := C.1
  have hb := C.2.1
  refine lv_iload_n hx hb dX10_tells_57 rfl (lv_at hl 1 rfl) ?_
  refine lv_goto (tgt := 62) hx hb dX10_tells_58 (by decide) ?_
  exact wX10_tells_62 C hk28 h hH (lv_sub hl [0, 1] rfl)
set_option maxHeartbeats 2000000 in
set_option maxRecDepth 20000 in
theorem wbX10_tells_28 (C : Cx D ca A p s m args meth c cX10_tells RX10 4 (some .int)) {q : Int32 × Mm} {k28 : Int32 → Int32 → Mm → Option (Int32 × Mm)} (hk28 : ∀ (v2 : Int32) (v3 : Int32) (mm : Mm), k28 v2 v3 mm = some q → ∀ (H : Heap) (locs : List Loc) (ls : Array Slot), Hx WN ad ca WS D A s.heap mm H locs → lv_has ls 4 [(0, .ref (ad 58)), (2, .int v2), (3, .int v3)] → W p l e (rmk 4) s m args below meth c H locs 0 0 (MQ below (QcI WN ad ca WS D A pzT q) args s 0 0 A) (F0 m 28 ls [])) {v2 : Int32} {v3 : Int32} {mm : Mm} (h : BX10_tells_28 k28 v2 v3 mm = some q) (hH : Hx WN ad ca WS D A s.heap mm H locs) (hl : lv_has ls 4 [(0, .ref (ad 58)), (2, .int v2), (3, .int v3)]) : W p l e (rmk 4) s m args below meth c H locs 0 0 (MQ below (QcI WN ad ca WS D A pzT q) args s 0 0 A) (F0 m 28 ls []) := by
  unfold BX10_tells_28 at h
  have hx := C.1
  have hb := C.2.1
  refine lv_iload_n hx hb dX10_tells_28 rfl (lv_at hl 2 rfl) ?_
  refine lv_bipush (v := 8) hx hb dX10_tells_29 (by decide) ?_
  refine lv_icmp_ge (tgt := 69) hx hb dX10_tells_31 (by decide) (fun hc31 => ?_) (fun hc31 => ?_)
  · replace h := tT hc31 h
    refine lv_iload_n hx hb dX10_tells_69 rfl (lv_at hl 1 rfl) ?_
    have h := Option.some.inj h
    subst h
    exact retI C hH trivial dX10_tells_70
  · replace h := tF hc31 h
    refine lv_aload_n hx hb dX10_tells_34 rfl (lv_at hl 0 rfl) ?_
    refine lv_iload_n hx hb dX10_tells_35 rfl (lv_at hl 2 rfl) ?_
    obtain ⟨q36, e36, h⟩ := tB h
    refine rcI C hH hl.1 (mX10_alikeBy l e36) cf_RX10_276 ro_58 (RR_of (by decide) (by decide)) rfl (rest := []) rfl (Nat.le_of_ble_eq_true rfl) dX10_tells_36 ?_
    intro hz36 H locs hH
    refine lv_if_ne (tgt := 61) hx hb dX10_tells_39 (by decide) (fun hc39 => ?_) (fun hc39 => ?_)
    · replace h := tF hc39 h
      exact wX10_tells_61 C hk28 h hH (lv_sub hl [0, 1, 2] rfl)
    · replace h := tT hc39 h
      refine lv_iload_n hx hb dX10_tells_42 rfl (lv_at hl 1 rfl) ?_
      refine lv_if_lt (tgt := 57) hx hb dX10_tells_43 (by decide) (fun hc43 => ?_) (fun hc43 => ?_)
      · replace h := tT hc43 h
        exact wX10_tells_57 C hk28 h hH (lv_sub hl [0, 2] rfl)
      · replace h := tF hc43 h
        refine lv_iload_n hx hb dX10_tells_46 rfl (lv_at hl 2 rfl) ?_
        obtain ⟨q47, e47, h⟩ := tB h
        refine rsI C hH hl.1 (mX10_bitsOf l e47) cs_RX10_264 (RR_of (by decide) (by decide)) rfl (rest := []) rfl (Nat.le_of_ble_eq_true rfl) dX10_tells_47 ?_
        intro hz47 H locs hH
        refine lv_iload_n hx hb dX10_tells_50 rfl (lv_at hl 1 rfl) ?_
        obtain ⟨q51, e51, h⟩ := tB h
        refine rsI C hH hl.1 (mX10_bitsOf l e51) cs_RX10_264 (RR_of (by decide) (by decide)) rfl (rest := [.int q47.1]) rfl (Nat.le_of_ble_eq_true rfl) dX10_tells_51 ?_
        intro hz51 H locs hH
        refine lv_icmp_ge (tgt := 61) hx hb dX10_tells_54 (by decide) (fun hc54 => ?_) (fun hc54 => ?_)
        · replace h := tT hc54 h
          exact wX10_tells_61 C hk28 h hH (lv_sub hl [0, 1, 2] rfl)
        · replace h := tF hc54 h
          exact wX10_tells_57 C hk28 h hH (lv_sub hl [0, 2] rfl)
set_option maxHeartbeats 2000000 in
set_option maxRecDepth 20000 in
theorem wX10_tells_28 (C : Cx D ca A p s m args meth c cX10_tells RX10 4 (some .int)) {q : Int32 × Mm} : ∀ (N : Nat) (v2 : Int32) (v3 : Int32) (mm : Mm), DX10_tells_28 N v2 v3 mm = some q → ∀ (H : Heap) (locs : List Loc) (ls : Array Slot), Hx WN ad ca WS D A s.heap mm H locs → lv_has ls 4 [(0, .ref (ad 58)), (2, .int v2), (3, .int v3)] → W p l e (rmk 4) s m args below meth c H locs 0 0 (MQ below (QcI WN ad ca WS D A pzT q) args s 0 0 A) (F0 m 28 ls []) := by
  intro N
  induction N with
  | zero =>
    intro v2 v3 mm h
    have h2 : (none : Option (Int32 × Mm)) = some q := h
    cases h2
  | succ N ih =>
    intro v2 v3 mm h H locs ls hH hl
    exact wbX10_tells_28 C ih h hH hl
set_option maxHeartbeats 2000000 in
set_option maxRecDepth 20000 in
theorem mX10_tells (l : Launch) {D : va_G} {ca : Nat → ClassId} {A : Nat → Prop} {ad : Nat → Nat} {v1 : Int32} {mm : Mm} {q : Int32 × Mm} (h : dX10_tells v1 mm = some q) : Met l yX10_tells (wsOf yX10_tells cX10_tells 4 (some .int)) (rmk 4) (PcX WN ad ca WS D A [.ref (ad 58), .int v1] mm) (QcI WN ad ca WS D A pzT q) 0 0 A := by
  unfold dX10_tells at h
  refine ent (by decide) (Nat.le_of_ble_eq_true rfl) (fun p e s m args below meth c hargs C hH ls hl => ?_)
  have hx := C.1
  have hb := C.2.1
  have hl : lv_has ls 4 [(0, .ref (ad 58)), (1, .int v1)] := hl
  refine lv_iload_n hx hb dX10_tells_0 rfl (lv_at hl 1 rfl) ?_
  refine lv_i2l' hx hb dX10_tells_1 ?_
  refine lv_lconst (v := 0) hx hb dX10_tells_2 (by decide) ?_
  refine lv_lconst (v := 1) hx hb dX10_tells_3 (by decide) ?_
  obtain ⟨q4, e4, h⟩ := tB h
  refine rsI C hH hl.1 (mX10_within l e4) cs_RX10_96 (RR_of (by decide) (by decide)) rfl (rest := []) rfl (Nat.le_of_ble_eq_true rfl) dX10_tells_4 ?_
  intro hz4 H locs hH
  refine lv_if_ne (tgt := 12) hx hb dX10_tells_7 (by decide) (fun hc7 => ?_) (fun hc7 => ?_)
  · replace h := tF hc7 h
    refine lv_iload_n hx hb dX10_tells_12 rfl (lv_at hl 1 rfl) ?_
    refine lv_if_ne (tgt := 23) hx hb dX10_tells_13 (by decide) (fun hc13 => ?_) (fun hc13 => ?_)
    · replace h := tF hc13 h
      refine lv_bipush (v := (-2)) hx hb dX10_tells_23 (by decide) ?_
      refine lv_istore_n (lv' := [(2, .int (-2)), (0, .ref (ad 58)), (1, .int v1)]) hx hb dX10_tells_25 rfl hl (by decide) rfl (fun ls hl => ?_)
      refine lv_iconst (v := 0) hx hb dX10_tells_26 (by decide) ?_
      refine lv_istore_n (lv' := [(3, .int 0), (2, .int (-2)), (0, .ref (ad 58)), (1, .int v1)]) hx hb dX10_tells_27 rfl hl (by decide) rfl (fun ls hl => ?_)
      exact wX10_tells_28 C FU _ _ _ h _ _ _ hH (lv_sub hl [2, 1, 0] rfl)
    · replace h := tT hc13 h
      refine lv_aload_n hx hb dX10_tells_16 rfl (lv_at hl 0 rfl) ?_
      refine lv_bipush (v := 7) hx hb dX10_tells_17 (by decide) ?_
      obtain ⟨q19, e19, h⟩ := tB h
      refine rcI C hH hl.1 (mX10_alikeBy l e19) cf_RX10_276 ro_58 (RR_of (by decide) (by decide)) rfl (rest := []) rfl (Nat.le_of_ble_eq_true rfl) dX10_tells_19 ?_
      intro hz19 H locs hH
      have h := Option.some.inj h
      subst h
      exact retI C hH trivial dX10_tells_22
  · replace h := tT hc7 h
    refine lv_iconst (v := (-1)) hx hb dX10_tells_10 (by decide) ?_
    have h := Option.some.inj h
    subst h
    exact retI C hH trivial dX10_tells_11
set_option maxHeartbeats 2000000 in
set_option maxRecDepth 20000 in
theorem wX2_sale_41 (C : Cx D ca A p s m args meth c cX2_sale RX2 4 (some .int)) {q : Int32 × Mm} {mm : Mm} (h : DX2_sale_41 mm = some q) (hH : Hx WN ad ca WS D A s.heap mm H locs) (hl : lv_has ls 4 []) : W p l e (rmk 5) s m args below meth c H locs 0 0 (MQ below (QcI WN ad ca WS D A pzT q) args s 0 0 A) (F0 m 41 ls []) := by
  unfold DX2_sale_41 at h
  have hx := C.1
  have hb := C.2.1
  refine lv_iconst (v := 0) hx hb dX2_sale_41 (by decide) ?_
  have h := Option.some.inj h
  subst h
  exact retI C hH trivial dX2_sale_42
set_option maxHeartbeats 2000000 in
set_option maxRecDepth 20000 in
theorem mX2_sale (l : Launch) {D : va_G} {ca : Nat → ClassId} {A : Nat → Prop} {ad : Nat → Nat} {v1 : Int32} {v2 : Int32} {mm : Mm} {q : Int32 × Mm} (h : dX2_sale v1 v2 mm = some q) : Met l yX2_sale (wsOf yX2_sale cX2_sale 4 (some .int)) (rmk 5) (PcX WN ad ca WS D A [.ref (ad 19), .int v1, .int v2] mm) (QcI WN ad ca WS D A pzT q) 0 0 A := by
  unfold dX2_sale at h
  refine ent (by decide) (Nat.le_of_ble_eq_true rfl) (fun p e s m args below meth c hargs C hH ls hl => ?_)
  have hx := C.1
  have hb := C.2.1
  have hl : lv_has ls 4 [(0, .ref (ad 19)), (1, .int v1), (2, .int v2)] := hl
  refine lv_aload_n hx hb dX2_sale_0 rfl (lv_at hl 0 rfl) ?_
  refine rgS C hH fs_RX2_22_19 dX2_sale_1 ?_
  refine lv_iload_n hx hb dX2_sale_4 rfl (lv_at hl 1 rfl) ?_
  refine lv_iload_n hx hb dX2_sale_5 rfl (lv_at hl 2 rfl) ?_
  obtain ⟨q6, e6, h⟩ := tB h
  refine rcI C hH hl.1 (mX7_plainWorth l e6) cf_RX2_84 ro_1 (RR_of (by decide) (by decide)) rfl (rest := []) rfl (Nat.le_of_ble_eq_true rfl) dX2_sale_6 ?_
  intro hz6 H locs hH
  refine lv_istore_n (lv' := [(3, .int q6.1), (0, .ref (ad 19)), (1, .int v1), (2, .int v2)]) hx hb dX2_sale_9 rfl hl (by decide) rfl (fun ls hl => ?_)
  refine lv_iload_n hx hb dX2_sale_10 rfl (lv_at hl 0 rfl) ?_
  refine lv_iload_n hx hb dX2_sale_11 rfl (lv_at hl 3 rfl) ?_
  refine lv_icmp_lt (tgt := 41) hx hb dX2_sale_12 (by decide) (fun hc12 => ?_) (fun hc12 => ?_)
  · replace h := tT hc12 h
    exact wX2_sale_41 C h hH (lv_sub hl [] rfl)
  · replace h := tF hc12 h
    refine lv_aload_n hx hb dX2_sale_15 rfl (lv_at hl 1 rfl) ?_
    refine rgS C hH fs_RX2_22_19 dX2_sale_16 ?_
    refine lv_bipush (v := 6) hx hb dX2_sale_19 (by decide) ?_
    refine lv_iload_n hx hb dX2_sale_21 rfl (lv_at hl 2 rfl) ?_
    obtain ⟨q22, e22, h⟩ := tB h
    refine rcI C hH hl.1 (mX7_told l e22) cf_RX2_38 ro_1 (RR_of (by decide) (by decide)) rfl (rest := []) rfl (Nat.le_of_ble_eq_true rfl) dX2_sale_22 ?_
    intro hz22 H locs hH
    refine lv_iload_n hx hb dX2_sale_25 rfl (lv_at hl 3 rfl) ?_
    refine lv_icmp_lt (tgt := 41) hx hb dX2_sale_26 (by decide) (fun hc26 => ?_) (fun hc26 => ?_)
    · replace h := tT hc26 h
      exact wX2_sale_41 C h hH (lv_sub hl [] rfl)
    · replace h := tF hc26 h
      refine lv_iload_n hx hb dX2_sale_29 rfl (lv_at hl 3 rfl) ?_
      refine lv_sipush (v := 1000) hx hb dX2_sale_30 (by decide) ?_
      refine lv_imul hx hb dX2_sale_33 ?_
      refine lv_iload_n hx hb dX2_sale_34 rfl (lv_at hl 0 rfl) ?_
      refine lv_iadd hx hb dX2_sale_35 ?_
      refine lv_iload_n hx hb dX2_sale_36 rfl (lv_at hl 3 rfl) ?_
      refine lv_isub hx hb dX2_sale_37 ?_
      refine lv_goto (tgt := 42) hx hb dX2_sale_38 (by decide) ?_
      have h := Option.some.inj h
      subst h
      exact retI C hH trivial dX2_sale_42
set_option maxHeartbeats 2000000 in
set_option maxRecDepth 20000 in
theorem mX2_moved (l : Launch) {D : va_G} {ca : Nat → ClassId} {A : Nat → Prop} {ad : Nat → Nat} {v0 : Int32} {v1 : Int32} {mm : Mm} {q : Int32 × Mm} (h : dX2_moved v0 v1 mm = some q) : Met l yX2_moved (wsOf yX2_moved cX2_moved 2 (some .int)) (rmk 2) (PcX WN ad ca WS D A [.int v0, .int v1] mm) (QcI WN ad ca WS D A pzT q) 0 0 A := by
  unfold dX2_moved at h
  refine ent (by decide) (Nat.le_of_ble_eq_true rfl) (fun p e s m args below meth c hargs C hH ls hl => ?_)
  have hx := C.1
  have hb := C.2.1
  have hl : lv_has ls 2 [(0, .int v0), (1, .int v1)] := hl
  refine lv_iload_n hx hb dX2_moved_0 rfl (lv_at hl 1 rfl) ?_
  refine lv_if_eq (tgt := 19) hx hb dX2_moved_1 (by decide) (fun hc1 => ?_) (fun hc1 => ?_)
  · replace h := tT hc1 h
    refine lv_iconst (v := 0) hx hb dX2_moved_19 (by decide) ?_
    refine lv_iload_n hx hb dX2_moved_20 rfl (lv_at hl 0 rfl) ?_
    refine lv_bipush (v := 10) hx hb dX2_moved_21 (by decide) ?_
    refine lv_isub hx hb dX2_moved_23 ?_
    refine rmax C hl.1 mf_RX2_137 (RR_of (by decide) (by decide)) (Nat.le_of_ble_eq_true rfl) dX2_moved_24 ?_
    have h := Option.some.inj h
    subst h
    exact retI C hH trivial dX2_moved_27
  · replace h := tF hc1 h
    refine rst C hH C.2.2.2.2.2.2.2.2.2.1 st_RX2_131 dX2_moved_4 (fun t4 hT4 => ?_)
    refine lv_iconst (v := 5) hx hb dX2_moved_7 (by decide) ?_
    refine rsti C hH hT4 (show inB 5 9 from by decide) dX2_moved_8 ?_
    refine lv_iload_n hx hb dX2_moved_9 rfl (lv_at hl 0 rfl) ?_
    refine lv_bipush (v := 10) hx hb dX2_moved_10 (by decide) ?_
    refine lv_iadd hx hb dX2_moved_12 ?_
    refine rmin C hl.1 mf_RX2_134 (RR_of (by decide) (by decide)) (Nat.le_of_ble_eq_true rfl) dX2_moved_13 ?_
    refine lv_goto (tgt := 27) hx hb dX2_moved_16 (by decide) ?_
    have h := Option.some.inj h
    subst h
    exact retI C hH trivial dX2_moved_27
set_option maxHeartbeats 2000000 in
set_option maxRecDepth 20000 in
theorem mX2_paid (l : Launch) {D : va_G} {ca : Nat → ClassId} {A : Nat → Prop} {ad : Nat → Nat} {v0 : Int32} {mm : Mm} {q : Int32 × Mm} (h : dX2_paid v0 mm = some q) : Met l yX2_paid (wsOf yX2_paid cX2_paid 1 (some .int)) (rmk 1) (PcX WN ad ca WS D A [.int v0] mm) (QcI WN ad ca WS D A pzT q) 0 0 A := by
  unfold dX2_paid at h
  refine ent (by decide) (Nat.le_of_ble_eq_true rfl) (fun p e s m args below meth c hargs C hH ls hl => ?_)
  have hx := C.1
  have hb := C.2.1
  have hl : lv_has ls 1 [(0, .int v0)] := hl
  refine lv_iload_n hx hb dX2_paid_0 rfl (lv_at hl 0 rfl) ?_
  refine lv_sipush (v := 1000) hx hb dX2_paid_1 (by decide) ?_
  refine lv_idiv hx hb dX2_paid_4 (by decide) ?_
  have h := Option.some.inj h
  subst h
  exact retI C hH trivial dX2_paid_5
set_option maxHeartbeats 2000000 in
set_option maxRecDepth 20000 in
theorem mX2_gained (l : Launch) {D : va_G} {ca : Nat → ClassId} {A : Nat → Prop} {ad : Nat → Nat} {v0 : Int32} {mm : Mm} {q : Int32 × Mm} (h : dX2_gained v0 mm = some q) : Met l yX2_gained (wsOf yX2_gained cX2_gained 1 (some .int)) (rmk 1) (PcX WN ad ca WS D A [.int v0] mm) (QcI WN ad ca WS D A pzT q) 0 0 A := by
  unfold dX2_gained at h
  refine ent (by decide) (Nat.le_of_ble_eq_true rfl) (fun p e s m args below meth c hargs C hH ls hl => ?_)
  have hx := C.1
  have hb := C.2.1
  have hl : lv_has ls 1 [(0, .int v0)] := hl
  refine lv_iload_n hx hb dX2_gained_0 rfl (lv_at hl 0 rfl) ?_
  refine lv_sipush (v := 1000) hx hb dX2_gained_1 (by decide) ?_
  refine lv_irem' hx hb dX2_gained_4 (by decide) ?_
  have h := Option.some.inj h
  subst h
  exact retI C hH trivial dX2_gained_5
set_option maxHeartbeats 2000000 in
set_option maxRecDepth 20000 in
theorem wX2_outcome_11 (C : Cx D ca A p s m args meth c cX2_outcome RX2 9 (some .int)) {q : Int32 × Mm} {lev : Nat} (hlev : 6 ≤ lev + 1) {r_X2_outcome : Int32 → Int32 → Int32 → Int32 → Mm → Option (Int32 × Mm)} (hr_X2_outcome : ∀ (v1 : Int32) (v2 : Int32) (v3 : Int32) (v4 : Int32) (mm : Mm) (q : Int32 × Mm), r_X2_outcome v1 v2 v3 v4 mm = some q → Met l yX2_outcome (wsOf yX2_outcome cX2_outcome 9 (some .int)) (rmk lev) (PcX WN ad ca WS D A [.ref (ad 19), .int v1, .int v2, .int v3, .int v4] mm) (QcI WN ad ca WS D A pzT q) 0 0 A) {v1 : Int32} {v2 : Int32} {mm : Mm} (h : DX2_outcome_11 r_X2_outcome v1 v2 mm = some q) (hH : Hx WN ad ca WS D A s.heap mm H locs) (hl : lv_has ls 9 [(0, .ref (ad 19)), (1, .int v1), (2, .int v2)]) : W p l e (rmk (lev + 1)) s m args below meth c H locs 0 0 (MQ below (QcI WN ad ca WS D A pzT q) args s 0 0 A) (F0 m 11 ls []) := by
  unfold DX2_outcome_11 at h
  have hx := C.1
  have hb := C.2.1
  refine lv_aload_n hx hb dX2_outcome_11 rfl (lv_at hl 0 rfl) ?_
  refine lv_iload_n hx hb dX2_outcome_12 rfl (lv_at hl 1 rfl) ?_
  refine lv_iload_n hx hb dX2_outcome_13 rfl (lv_at hl 2 rfl) ?_
  obtain ⟨q14, e14, h⟩ := tB h
  refine rcI C hH hl.1 (mX2_sale l e14) cf_RX2_139 ro_19 (RR_of (by omega) (by decide)) rfl (rest := []) rfl (Nat.le_of_ble_eq_true rfl) dX2_outcome_14 ?_
  intro hz14 H locs hH
  have h := Option.some.inj h
  subst h
  exact retI C hH trivial dX2_outcome_17
set_option maxHeartbeats 2000000 in
set_option maxRecDepth 20000 in
theorem wX2_outcome_106 (C : Cx D ca A p s m args meth c cX2_outcome RX2 9 (some .int)) {q : Int32 × Mm} {lev : Nat} (hlev : 6 ≤ lev + 1) {r_X2_outcome : Int32 → Int32 → Int32 → Int32 → Mm → Option (Int32 × Mm)} (hr_X2_outcome : ∀ (v1 : Int32) (v2 : Int32) (v3 : Int32) (v4 : Int32) (mm : Mm) (q : Int32 × Mm), r_X2_outcome v1 v2 v3 v4 mm = some q → Met l yX2_outcome (wsOf yX2_outcome cX2_outcome 9 (some .int)) (rmk lev) (PcX WN ad ca WS D A [.ref (ad 19), .int v1, .int v2, .int v3, .int v4] mm) (QcI WN ad ca WS D A pzT q) 0 0 A) {v6 : Int32} {v7 : Int32} {s0 : Int32} {mm : Mm} (h : DX2_outcome_106 r_X2_outcome v6 v7 s0 mm = some q) (hH : Hx WN ad ca WS D A s.heap mm H locs) (hl : lv_has ls 9 [(6, .int v6), (7, .int v7)]) : W p l e (rmk (lev + 1)) s m args below meth c H locs 0 0 (MQ below (QcI WN ad ca WS D A pzT q) args s 0 0 A) (F0 m 106 ls [.int s0]) := by
  unfold DX2_outcome_106 at h
  have hx := C.1
  have hb := C.2.1
  refine lv_istore (lv' := [(8, .int s0), (6, .int v6), (7, .int v7)]) hx hb dX2_outcome_106 hl (by decide) rfl (fun ls hl => ?_)
  refine lv_iload hx hb dX2_outcome_108 (lv_at hl 0 rfl) ?_
  refine lv_if_eq (tgt := 118) hx hb dX2_outcome_110 (by decide) (fun hc110 => ?_) (fun hc110 => ?_)
  · replace h := tT hc110 h
    refine lv_iload hx hb dX2_outcome_118 (lv_at hl 1 rfl) ?_
    have h := Option.some.inj h
    subst h
    exact retI C hH trivial dX2_outcome_120
  · replace h := tF hc110 h
    refine lv_iload hx hb dX2_outcome_113 (lv_at hl 2 rfl) ?_
    refine lv_goto (tgt := 120) hx hb dX2_outcome_115 (by decide) ?_
    have h := Option.some.inj h
    subst h
    exact retI C hH trivial dX2_outcome_120
set_option maxHeartbeats 2000000 in
set_option maxRecDepth 20000 in
theorem wX2_outcome_29 (C : Cx D ca A p s m args meth c cX2_outcome RX2 9 (some .int)) {q : Int32 × Mm} {lev : Nat} (hlev : 6 ≤ lev + 1) {r_X2_outcome : Int32 → Int32 → Int32 → Int32 → Mm → Option (Int32 × Mm)} (hr_X2_outcome : ∀ (v1 : Int32) (v2 : Int32) (v3 : Int32) (v4 : Int32) (mm : Mm) (q : Int32 × Mm), r_X2_outcome v1 v2 v3 v4 mm = some q → Met l yX2_outcome (wsOf yX2_outcome cX2_outcome 9 (some .int)) (rmk lev) (PcX WN ad ca WS D A [.ref (ad 19), .int v1, .int v2, .int v3, .int v4] mm) (QcI WN ad ca WS D A pzT q) 0 0 A) {v1 : Int32} {v2 : Int32} {v3 : Int32} {v4 : Int32} {s0 : Int32} {mm : Mm} (h : DX2_outcome_29 r_X2_outcome v1 v2 v3 v4 s0 mm = some q) (hH : Hx WN ad ca WS D A s.heap mm H locs) (hl : lv_has ls 9 [(0, .ref (ad 19)), (1, .int v1), (2, .int v2), (3, .int v3), (4, .int v4)]) : W p l e (rmk (lev + 1)) s m args below meth c H locs 0 0 (MQ below (QcI WN ad ca WS D A pzT q) args s 0 0 A) (F0 m 29 ls [.int s0]) := by
  unfold DX2_outcome_29 at h
  have hx := C.1
  have hb := C.2.1
  refine lv_istore (lv' := [(5, .int s0), (0, .ref (ad 19)), (1, .int v1), (2, .int v2), (3, .int v3), (4, .int v4)]) hx hb dX2_outcome_29 hl (by decide) rfl (fun ls hl => ?_)
  refine lv_aload_n hx hb dX2_outcome_31 rfl (lv_at hl 1 rfl) ?_
  refine lv_iload_n hx hb dX2_outcome_32 rfl (lv_at hl 2 rfl) ?_
  refine lv_iload_n hx hb dX2_outcome_33 rfl (lv_at hl 3 rfl) ?_
  refine lv_iload_n hx hb dX2_outcome_34 rfl (lv_at hl 4 rfl) ?_
  refine lv_iconst (v := 1) hx hb dX2_outcome_35 (by decide) ?_
  refine lv_iadd hx hb dX2_outcome_36 ?_
  refine lv_iload hx hb dX2_outcome_37 (lv_at hl 5 rfl) ?_
  obtain ⟨q39, e39, h⟩ := tB h
  refine rcI C hH hl.1 (hr_X2_outcome _ _ _ _ _ _ e39) cf_RX2_120 ro_19 (RR_of (by omega) (by decide)) rfl (rest := []) rfl (Nat.le_of_ble_eq_true rfl) dX2_outcome_39 ?_
  intro hz39 H locs hH
  refine lv_istore (lv' := [(6, .int q39.1), (5, .int s0), (0, .ref (ad 19)), (1, .int v1), (2, .int v2), (3, .int v3), (4, .int v4)]) hx hb dX2_outcome_42 hl (by decide) rfl (fun ls hl => ?_)
  refine lv_aload_n hx hb dX2_outcome_44 rfl (lv_at hl 2 rfl) ?_
  refine lv_iload_n hx hb dX2_outcome_45 rfl (lv_at hl 3 rfl) ?_
  refine lv_iload_n hx hb dX2_outcome_46 rfl (lv_at hl 4 rfl) ?_
  refine lv_iload hx hb dX2_outcome_47 (lv_at hl 1 rfl) ?_
  obtain ⟨q49, e49, h⟩ := tB h
  refine rsI C hH hl.1 (mX2_moved l e49) cs_RX2_127 (RR_of (by omega) (by decide)) rfl (rest := [.int v1, .ref (ad 19)]) rfl (Nat.le_of_ble_eq_true rfl) dX2_outcome_49 ?_
  intro hz49 H locs hH
  refine lv_iload_n hx hb dX2_outcome_52 rfl (lv_at hl 5 rfl) ?_
  refine lv_iconst (v := 1) hx hb dX2_outcome_53 (by decide) ?_
  refine lv_iadd hx hb dX2_outcome_54 ?_
  refine lv_iload hx hb dX2_outcome_55 (lv_at hl 6 rfl) ?_
  obtain ⟨q57, e57, h⟩ := tB h
  refine rcI C hH hl.1 (hr_X2_outcome _ _ _ _ _ _ e57) cf_RX2_120 ro_19 (RR_of (by omega) (by decide)) rfl (rest := []) rfl (Nat.le_of_ble_eq_true rfl) dX2_outcome_57 ?_
  intro hz57 H locs hH
  refine lv_istore (lv' := [(7, .int q57.1), (6, .int q39.1), (5, .int s0), (0, .ref (ad 19)), (1, .int v1), (2, .int v2), (3, .int v3), (4, .int v4)]) hx hb dX2_outcome_60 hl (by decide) rfl (fun ls hl => ?_)
  refine lv_iload hx hb dX2_outcome_62 (lv_at hl 2 rfl) ?_
  refine lv_if_eq (tgt := 88) hx hb dX2_outcome_64 (by decide) (fun hc64 => ?_) (fun hc64 => ?_)
  · replace h := tT hc64 h
    refine lv_iload hx hb dX2_outcome_88 (lv_at hl 0 rfl) ?_
    obtain ⟨q90, e90, h⟩ := tB h
    refine rsI C hH hl.1 (mX2_gained l e90) cs_RX2_142 (RR_of (by omega) (by decide)) rfl (rest := []) rfl (Nat.le_of_ble_eq_true rfl) dX2_outcome_90 ?_
    intro hz90 H locs hH
    refine lv_iload hx hb dX2_outcome_93 (lv_at hl 1 rfl) ?_
    obtain ⟨q95, e95, h⟩ := tB h
    refine rsI C hH hl.1 (mX2_gained l e95) cs_RX2_142 (RR_of (by omega) (by decide)) rfl (rest := [.int q90.1]) rfl (Nat.le_of_ble_eq_true rfl) dX2_outcome_95 ?_
    intro hz95 H locs hH
    refine lv_icmp_le (tgt := 105) hx hb dX2_outcome_98 (by decide) (fun hc98 => ?_) (fun hc98 => ?_)
    · replace h := tT hc98 h
      refine lv_iconst (v := 0) hx hb dX2_outcome_105 (by decide) ?_
      exact wX2_outcome_106 C hlev hr_X2_outcome h hH (lv_sub hl [1, 0] rfl)
    · replace h := tF hc98 h
      refine lv_iconst (v := 1) hx hb dX2_outcome_101 (by decide) ?_
      refine lv_goto (tgt := 106) hx hb dX2_outcome_102 (by decide) ?_
      exact wX2_outcome_106 C hlev hr_X2_outcome h hH (lv_sub hl [1, 0] rfl)
  · replace h := tF hc64 h
    refine lv_iload hx hb dX2_outcome_67 (lv_at hl 0 rfl) ?_
    obtain ⟨q69, e69, h⟩ := tB h
    refine rsI C hH hl.1 (mX2_paid l e69) cs_RX2_124 (RR_of (by omega) (by decide)) rfl (rest := []) rfl (Nat.le_of_ble_eq_true rfl) dX2_outcome_69 ?_
    intro hz69 H locs hH
    refine lv_iload hx hb dX2_outcome_72 (lv_at hl 1 rfl) ?_
    obtain ⟨q74, e74, h⟩ := tB h
    refine rsI C hH hl.1 (mX2_paid l e74) cs_RX2_124 (RR_of (by omega) (by decide)) rfl (rest := [.int q69.1]) rfl (Nat.le_of_ble_eq_true rfl) dX2_outcome_74 ?_
    intro hz74 H locs hH
    refine lv_icmp_le (tgt := 84) hx hb dX2_outcome_77 (by decide) (fun hc77 => ?_) (fun hc77 => ?_)
    · replace h := tT hc77 h
      refine lv_iconst (v := 0) hx hb dX2_outcome_84 (by decide) ?_
      refine lv_goto (tgt := 106) hx hb dX2_outcome_85 (by decide) ?_
      exact wX2_outcome_106 C hlev hr_X2_outcome h hH (lv_sub hl [1, 0] rfl)
    · replace h := tF hc77 h
      refine lv_iconst (v := 1) hx hb dX2_outcome_80 (by decide) ?_
      refine lv_goto (tgt := 106) hx hb dX2_outcome_81 (by decide) ?_
      exact wX2_outcome_106 C hlev hr_X2_outcome h hH (lv_sub hl [1, 0] rfl)
set_option maxHeartbeats 2000000 in
set_option maxRecDepth 20000 in
theorem mbX2_outcome (l : Launch) {D : va_G} {ca : Nat → ClassId} {A : Nat → Prop} {ad : Nat → Nat} {lev : Nat} (hlev : 6 ≤ lev + 1) {r_X2_outcome : Int32 → Int32 → Int32 → Int32 → Mm → Option (Int32 × Mm)} (hr_X2_outcome : ∀ (v1 : Int32) (v2 : Int32) (v3 : Int32) (v4 : Int32) (mm : Mm) (q : Int32 × Mm), r_X2_outcome v1 v2 v3 v4 mm = some q → Met l yX2_outcome (wsOf yX2_outcome cX2_outcome 9 (some .int)) (rmk lev) (PcX WN ad ca WS D A [.ref (ad 19), .int v1, .int v2, .int v3, .int v4] mm) (QcI WN ad ca WS D A pzT q) 0 0 A) {v1 : Int32} {v2 : Int32} {v3 : Int32} {v4 : Int32} {mm : Mm} {q : Int32 × Mm} (h : bX2_outcome r_X2_outcome v1 v2 v3 v4 mm = some q) : Met l yX2_outcome (wsOf yX2_outcome cX2_outcome 9 (some .int)) (rmk (lev + 1)) (PcX WN ad ca WS D A [.ref (ad 19), .int v1, .int v2, .int v3, .int v4] mm) (QcI WN ad ca WS D A pzT q) 0 0 A := by
  unfold bX2_outcome at h
  refine ent (by decide) (Nat.le_of_ble_eq_true rfl) (fun p e s m args below meth c hargs C hH ls hl => ?_)
  have hx := C.1
  have hb := C.2.1
  have hl : lv_has ls 9 [(0, .ref (ad 19)), (1, .int v1), (2, .int v2), (3, .int v3), (4, .int v4)] := hl
  refine lv_iload_n hx hb dX2_outcome_0 rfl (lv_at hl 3 rfl) ?_
  refine lv_iload hx hb dX2_outcome_1 (lv_at hl 4 rfl) ?_
  refine lv_icmp_ge (tgt := 11) hx hb dX2_outcome_3 (by decide) (fun hc3 => ?_) (fun hc3 => ?_)
  · replace h := tT hc3 h
    exact wX2_outcome_11 C hlev hr_X2_outcome h hH (lv_sub hl [0, 1, 2] rfl)
  · replace h := tF hc3 h
    refine lv_iload_n hx hb dX2_outcome_6 rfl (lv_at hl 3 rfl) ?_
    refine lv_iconst (v := 4) hx hb dX2_outcome_7 (by decide) ?_
    refine lv_icmp_lt (tgt := 18) hx hb dX2_outcome_8 (by decide) (fun hc8 => ?_) (fun hc8 => ?_)
    · replace h := tT hc8 h
      refine lv_iload_n hx hb dX2_outcome_18 rfl (lv_at hl 3 rfl) ?_
      refine lv_iconst (v := 2) hx hb dX2_outcome_19 (by decide) ?_
      refine lv_irem' hx hb dX2_outcome_20 (by decide) ?_
      refine lv_if_ne (tgt := 28) hx hb dX2_outcome_21 (by decide) (fun hc21 => ?_) (fun hc21 => ?_)
      · replace h := tF hc21 h
        refine lv_iconst (v := 0) hx hb dX2_outcome_28 (by decide) ?_
        exact wX2_outcome_29 C hlev hr_X2_outcome h hH (lv_sub hl [0, 1, 2, 3, 4] rfl)
      · replace h := tT hc21 h
        refine lv_iconst (v := 1) hx hb dX2_outcome_24 (by decide) ?_
        refine lv_goto (tgt := 29) hx hb dX2_outcome_25 (by decide) ?_
        exact wX2_outcome_29 C hlev hr_X2_outcome h hH (lv_sub hl [0, 1, 2, 3, 4] rfl)
    · replace h := tF hc8 h
      exact wX2_outcome_11 C hlev hr_X2_outcome h hH (lv_sub hl [0, 1, 2] rfl)
end WALK
