/-! ===== the walks: each method by its denotation (laid by wip/whole/gen.py) ===== -/
section WALK
variable {p : Program} {l : Launch} {e : Env} {s : State} {m : MethodId} {args : Array Value} {below : List Frame} {meth : Method} {c : Code} {H : Heap} {locs : List Loc} {Q : State → Prop} {cells slots : Nat} {ls : Array Slot} {D : va_G} {ca : Nat → ClassId} {A : Nat → Prop} {ad : Nat → Nat}
set_option maxHeartbeats 2000000 in
set_option maxRecDepth 20000 in
theorem wX9_isPart_9 (C : Cx D ca A p s m args meth c cX9_isPart RX9 1 (some .boolean)) {q : Int32 × Mm} {mm : Mm} (h : DX9_isPart_9 mm = some q) (hH : Hx WN ad ca WS D A s.heap mm H locs) (hl : lv_has ls 1 []) : W p l e (rmk 1) s m args below meth c H locs 0 0 (MQ below (QcI WN ad ca WS D A pzZ q) args s 0 0 A) (F0 m 9 ls []) := by
  unfold DX9_isPart_9 at h
  have hx := C.1
  have hb := C.2.1
  refine lv_iconst (v := 1) hx hb dX9_isPart_9 (by decide) ?_
  refine lv_goto (tgt := 14) hx hb dX9_isPart_10 (by decide) ?_
  have h := Option.some.inj h
  subst h
  exact retZ C hH (Or.inr rfl) dX9_isPart_14
set_option maxHeartbeats 2000000 in
set_option maxRecDepth 20000 in
theorem mX9_isPart (l : Launch) {D : va_G} {ca : Nat → ClassId} {A : Nat → Prop} {ad : Nat → Nat} {v0 : Int32} {mm : Mm} {q : Int32 × Mm} (h : dX9_isPart v0 mm = some q) : Met l yX9_isPart (wsOf yX9_isPart cX9_isPart 1 (some .boolean)) (rmk 1) (PcX WN ad ca WS D A [.int v0] mm) (QcI WN ad ca WS D A pzZ q) 0 0 A := by
  unfold dX9_isPart at h
  refine ent (by decide) (Nat.le_of_ble_eq_true rfl) (fun p e s m args below meth c hargs C hH ls hl => ?_)
  have hx := C.1
  have hb := C.2.1
  have hl : lv_has ls 1 [(0, .int v0)] := hl
  refine lv_iload_n hx hb dX9_isPart_0 rfl (lv_at hl 0 rfl) ?_
  refine lv_if_eq (tgt := 9) hx hb dX9_isPart_1 (by decide) (fun hc1 => ?_) (fun hc1 => ?_)
  · replace h := tT hc1 h
    exact wX9_isPart_9 C h hH (lv_sub hl [] rfl)
  · replace h := tF hc1 h
    refine lv_iload_n hx hb dX9_isPart_4 rfl (lv_at hl 0 rfl) ?_
    refine lv_iconst (v := 1) hx hb dX9_isPart_5 (by decide) ?_
    refine lv_icmp_ne (tgt := 13) hx hb dX9_isPart_6 (by decide) (fun hc6 => ?_) (fun hc6 => ?_)
    · replace h := tF hc6 h
      refine lv_iconst (v := 0) hx hb dX9_isPart_13 (by decide) ?_
      have h := Option.some.inj h
      subst h
      exact retZ C hH (Or.inl rfl) dX9_isPart_14
    · replace h := tT hc6 h
      exact wX9_isPart_9 C h hH (lv_sub hl [] rfl)
set_option maxHeartbeats 2000000 in
set_option maxRecDepth 20000 in
theorem wX9_isBuyerAndSack_39 (C : Cx D ca A p s m args meth c cX9_isBuyerAndSack RX9 2 (some .boolean)) {q : Int32 × Mm} {mm : Mm} (h : DX9_isBuyerAndSack_39 mm = some q) (hH : Hx WN ad ca WS D A s.heap mm H locs) (hl : lv_has ls 2 []) : W p l e (rmk 2) s m args below meth c H locs 0 0 (MQ below (QcI WN ad ca WS D A pzZ q) args s 0 0 A) (F0 m 39 ls []) := by
  unfold DX9_isBuyerAndSack_39 at h
  have hx := C.1
  have hb := C.2.1
  refine lv_iconst (v := 0) hx hb dX9_isBuyerAndSack_39 (by decide) ?_
  have h := Option.some.inj h
  subst h
  exact retZ C hH (Or.inl rfl) dX9_isBuyerAndSack_40
set_option maxHeartbeats 2000000 in
set_option maxRecDepth 20000 in
theorem mX9_isBuyerAndSack (l : Launch) {D : va_G} {ca : Nat → ClassId} {A : Nat → Prop} {ad : Nat → Nat} {v1 : Int32} {mm : Mm} {q : Int32 × Mm} (h : dX9_isBuyerAndSack v1 mm = some q) : Met l yX9_isBuyerAndSack (wsOf yX9_isBuyerAndSack cX9_isBuyerAndSack 2 (some .boolean)) (rmk 2) (PcX WN ad ca WS D A [.ref (ad 0), .int v1] mm) (QcI WN ad ca WS D A pzZ q) 0 0 A := by
  unfold dX9_isBuyerAndSack at h
  refine ent (by decide) (Nat.le_of_ble_eq_true rfl) (fun p e s m args below meth c hargs C hH ls hl => ?_)
  have hx := C.1
  have hb := C.2.1
  have hl : lv_has ls 2 [(0, .ref (ad 0)), (1, .int v1)] := hl
  refine lv_iload_n hx hb dX9_isBuyerAndSack_0 rfl (lv_at hl 1 rfl) ?_
  refine lv_if_lt (tgt := 39) hx hb dX9_isBuyerAndSack_1 (by decide) (fun hc1 => ?_) (fun hc1 => ?_)
  · replace h := tT hc1 h
    exact wX9_isBuyerAndSack_39 C h hH (lv_sub hl [] rfl)
  · replace h := tF hc1 h
    refine lv_aload_n hx hb dX9_isBuyerAndSack_4 rfl (lv_at hl 0 rfl) ?_
    refine rgS C hH fs_RX9_10_0 dX9_isBuyerAndSack_5 ?_
    refine lv_bipush (v := 6) hx hb dX9_isBuyerAndSack_8 (by decide) ?_
    refine lv_iload_n hx hb dX9_isBuyerAndSack_10 rfl (lv_at hl 1 rfl) ?_
    refine lv_bipush (v := 10) hx hb dX9_isBuyerAndSack_11 (by decide) ?_
    refine lv_idiv hx hb dX9_isBuyerAndSack_13 (by decide) ?_
    obtain ⟨q14, e14, h⟩ := tB h
    refine rcI C hH hl.1 (mX7_holds l e14) cf_RX9_67 ro_1 (RR_of (by decide) (by decide)) rfl (rest := []) rfl (Nat.le_of_ble_eq_true rfl) dX9_isBuyerAndSack_14 ?_
    intro hz14 H locs hH
    refine lv_if_eq (tgt := 39) hx hb dX9_isBuyerAndSack_17 (by decide) (fun hc17 => ?_) (fun hc17 => ?_)
    · replace h := tT hc17 h
      exact wX9_isBuyerAndSack_39 C h hH (lv_sub hl [] rfl)
    · replace h := tF hc17 h
      refine lv_aload_n hx hb dX9_isBuyerAndSack_20 rfl (lv_at hl 0 rfl) ?_
      refine rgS C hH fs_RX9_10_0 dX9_isBuyerAndSack_21 ?_
      refine lv_iconst (v := 4) hx hb dX9_isBuyerAndSack_24 (by decide) ?_
      refine lv_iload_n hx hb dX9_isBuyerAndSack_25 rfl (lv_at hl 1 rfl) ?_
      refine lv_bipush (v := 10) hx hb dX9_isBuyerAndSack_26 (by decide) ?_
      refine lv_irem' hx hb dX9_isBuyerAndSack_28 (by decide) ?_
      obtain ⟨q29, e29, h⟩ := tB h
      refine rcI C hH hl.1 (mX7_holds l e29) cf_RX9_67 ro_1 (RR_of (by decide) (by decide)) rfl (rest := []) rfl (Nat.le_of_ble_eq_true rfl) dX9_isBuyerAndSack_29 ?_
      intro hz29 H locs hH
      refine lv_if_eq (tgt := 39) hx hb dX9_isBuyerAndSack_32 (by decide) (fun hc32 => ?_) (fun hc32 => ?_)
      · replace h := tT hc32 h
        exact wX9_isBuyerAndSack_39 C h hH (lv_sub hl [] rfl)
      · replace h := tF hc32 h
        refine lv_iconst (v := 1) hx hb dX9_isBuyerAndSack_35 (by decide) ?_
        refine lv_goto (tgt := 40) hx hb dX9_isBuyerAndSack_36 (by decide) ?_
        have h := Option.some.inj h
        subst h
        exact retZ C hH (Or.inr rfl) dX9_isBuyerAndSack_40
set_option maxHeartbeats 2000000 in
set_option maxRecDepth 20000 in
theorem wX9_looksRefusal_27 (C : Cx D ca A p s m args meth c cX9_looksRefusal RX9 3 (some .int)) {q : Int32 × Mm} {mm : Mm} (h : DX9_looksRefusal_27 mm = some q) (hH : Hx WN ad ca WS D A s.heap mm H locs) (hl : lv_has ls 3 []) : W p l e (rmk 3) s m args below meth c H locs 0 0 (MQ below (QcI WN ad ca WS D A pzT q) args s 0 0 A) (F0 m 27 ls []) := by
  unfold DX9_looksRefusal_27 at h
  have hx := C.1
  have hb := C.2.1
  refine lv_iconst (v := (-1)) hx hb dX9_looksRefusal_27 (by decide) ?_
  have h := Option.some.inj h
  subst h
  exact retI C hH trivial dX9_looksRefusal_28
set_option maxHeartbeats 2000000 in
set_option maxRecDepth 20000 in
theorem mX9_looksRefusal (l : Launch) {D : va_G} {ca : Nat → ClassId} {A : Nat → Prop} {ad : Nat → Nat} {v1 : Int32} {v2 : Int32} {mm : Mm} {q : Int32 × Mm} (h : dX9_looksRefusal v1 v2 mm = some q) : Met l yX9_looksRefusal (wsOf yX9_looksRefusal cX9_looksRefusal 3 (some .int)) (rmk 3) (PcX WN ad ca WS D A [.ref (ad 0), .int v1, .int v2] mm) (QcI WN ad ca WS D A pzT q) 0 0 A := by
  unfold dX9_looksRefusal at h
  refine ent (by decide) (Nat.le_of_ble_eq_true rfl) (fun p e s m args below meth c hargs C hH ls hl => ?_)
  have hx := C.1
  have hb := C.2.1
  have hl : lv_has ls 3 [(0, .ref (ad 0)), (1, .int v1), (2, .int v2)] := hl
  refine lv_iload_n hx hb dX9_looksRefusal_0 rfl (lv_at hl 1 rfl) ?_
  obtain ⟨q1, e1, h⟩ := tB h
  refine rsI C hH hl.1 (mX9_isShelf l e1) cs_RX9_75 (RR_of (by decide) (by decide)) rfl (rest := []) rfl (Nat.le_of_ble_eq_true rfl) dX9_looksRefusal_1 ?_
  intro hz1 H locs hH
  refine lv_if_eq (tgt := 27) hx hb dX9_looksRefusal_4 (by decide) (fun hc4 => ?_) (fun hc4 => ?_)
  · replace h := tT hc4 h
    exact wX9_looksRefusal_27 C h hH (lv_sub hl [] rfl)
  · replace h := tF hc4 h
    refine lv_aload_n hx hb dX9_looksRefusal_7 rfl (lv_at hl 0 rfl) ?_
    refine lv_iload_n hx hb dX9_looksRefusal_8 rfl (lv_at hl 2 rfl) ?_
    obtain ⟨q9, e9, h⟩ := tB h
    refine rcI C hH hl.1 (mX9_isBuyerAndSack l e9) cf_RX9_232 ro_0 (RR_of (by decide) (by decide)) rfl (rest := []) rfl (Nat.le_of_ble_eq_true rfl) dX9_looksRefusal_9 ?_
    intro hz9 H locs hH
    refine lv_if_eq (tgt := 27) hx hb dX9_looksRefusal_12 (by decide) (fun hc12 => ?_) (fun hc12 => ?_)
    · replace h := tT hc12 h
      exact wX9_looksRefusal_27 C h hH (lv_sub hl [] rfl)
    · replace h := tF hc12 h
      refine lv_aload_n hx hb dX9_looksRefusal_15 rfl (lv_at hl 0 rfl) ?_
      refine rgS C hH fs_RX9_62_0 dX9_looksRefusal_16 ?_
      refine lv_iload_n hx hb dX9_looksRefusal_19 rfl (lv_at hl 1 rfl) ?_
      obtain ⟨hi20, h⟩ := tC h
      refine raS C hH (o := 37) (k := (Int32.toNatClampNeg v1)) (by decide) (show WS 37 = .inr (4, 6, 38) from rfl) hi20 rfl dX9_looksRefusal_20 ?_
      obtain ⟨q21, e21, h⟩ := tB h
      refine rcI C hH hl.1 (mX8_bytesRefusal l e21) cf_RX9_79 (ro_sh (sh_of hi20)) (RR_of (by decide) (by decide)) rfl (rest := []) rfl (Nat.le_of_ble_eq_true rfl) dX9_looksRefusal_21 ?_
      intro hz21 H locs hH
      refine lv_goto (tgt := 28) hx hb dX9_looksRefusal_24 (by decide) ?_
      have h := Option.some.inj h
      subst h
      exact retI C hH trivial dX9_looksRefusal_28
set_option maxHeartbeats 2000000 in
set_option maxRecDepth 20000 in
theorem mX7_isOpen (l : Launch) {D : va_G} {ca : Nat → ClassId} {A : Nat → Prop} {ad : Nat → Nat} {v1 : Int32} {mm : Mm} {q : Int32 × Mm} (h : dX7_isOpen v1 mm = some q) : Met l yX7_isOpen (wsOf yX7_isOpen cX7_isOpen 2 (some .boolean)) (rmk 3) (PcX WN ad ca WS D A [.ref (ad 1), .int v1] mm) (QcI WN ad ca WS D A pzZ q) 0 0 A := by
  unfold dX7_isOpen at h
  refine ent (by decide) (Nat.le_of_ble_eq_true rfl) (fun p e s m args below meth c hargs C hH ls hl => ?_)
  have hx := C.1
  have hb := C.2.1
  have hl : lv_has ls 2 [(0, .ref (ad 1)), (1, .int v1)] := hl
  refine lv_aload_n hx hb dX7_isOpen_0 rfl (lv_at hl 0 rfl) ?_
  refine lv_bipush (v := 10) hx hb dX7_isOpen_1 (by decide) ?_
  refine lv_iload_n hx hb dX7_isOpen_3 rfl (lv_at hl 1 rfl) ?_
  obtain ⟨q4, e4, h⟩ := tB h
  refine rcI C hH hl.1 (mX7_told l e4) cf_RX7_38 ro_1 (RR_of (by decide) (by decide)) rfl (rest := []) rfl (Nat.le_of_ble_eq_true rfl) dX7_isOpen_4 ?_
  intro hz4 H locs hH
  refine lv_iconst (v := 1) hx hb dX7_isOpen_7 (by decide) ?_
  refine lv_icmp_ne (tgt := 15) hx hb dX7_isOpen_8 (by decide) (fun hc8 => ?_) (fun hc8 => ?_)
  · replace h := tF hc8 h
    refine lv_iconst (v := 0) hx hb dX7_isOpen_15 (by decide) ?_
    have h := Option.some.inj h
    subst h
    exact retZ C hH (Or.inl rfl) dX7_isOpen_16
  · replace h := tT hc8 h
    refine lv_iconst (v := 1) hx hb dX7_isOpen_11 (by decide) ?_
    refine lv_goto (tgt := 16) hx hb dX7_isOpen_12 (by decide) ?_
    have h := Option.some.inj h
    subst h
    exact retZ C hH (Or.inr rfl) dX7_isOpen_16
set_option maxHeartbeats 2000000 in
set_option maxRecDepth 20000 in
theorem wX0_know_23 (C : Cx D ca A p s m args meth c cX0_know RX0 3 none) {q : Unit × Mm} {k2 : Int32 → Int32 → Mm → Option (Unit × Mm)} (hk2 : ∀ (v1 : Int32) (v2 : Int32) (mm : Mm), k2 v1 v2 mm = some q → ∀ (H : Heap) (locs : List Loc) (ls : Array Slot), Hx WN ad ca WS D A s.heap mm H locs → lv_has ls 3 [(0, .ref (ad 17)), (1, .int v1), (2, .int v2)] → W p l e (rmk 1) s m args below meth c H locs 0 0 (MQ below (QcV WN ad ca WS D A q) args s 0 0 A) (F0 m 2 ls [])) {v1 : Int32} {v2 : Int32} {s0 : Int64} {s1 : Int32} {mm : Mm} (h : DX0_know_23 k2 v1 v2 s0 s1 mm = some q) (hH : Hx WN ad ca WS D A s.heap mm H locs) (hl : lv_has ls 3 [(0, .ref (ad 17)), (1, .int v1), (2, .int v2)]) : W p l e (rmk 1) s m args below meth c H locs 0 0 (MQ below (QcV WN ad ca WS D A q) args s 0 0 A) (F0 m 23 ls [.long s0, .int s1, .ref (ad 18)]) := by
  unfold DX0_know_23 at h
  have hx := C.1
  have hb := C.2.1
  obtain ⟨hi23, h⟩ := tC h
  refine rwL C hH (k := (Int32.toNatClampNeg s1)) (by decide) (show WS 18 = .inr (3, 6, 0) from rfl) hi23 rfl dX0_know_23 (fun H locs hH => ?_)
  refine lv_iinc (v := (v2 + 1)) (lv' := [(2, .int (v2 + 1)), (0, .ref (ad 17)), (1, .int v1)]) hx hb dX0_know_24 hl (k := 2) rfl rfl (by decide) rfl (fun ls hl => ?_)
  refine lv_goto (tgt := 2) hx hb dX0_know_27 (by decide) ?_
  exact hk2 _ _ _ h _ _ _ hH (lv_sub hl [1, 2, 0] rfl)
set_option maxHeartbeats 2000000 in
set_option maxRecDepth 20000 in
theorem wbX0_know_2 (C : Cx D ca A p s m args meth c cX0_know RX0 3 none) {q : Unit × Mm} {k2 : Int32 → Int32 → Mm → Option (Unit × Mm)} (hk2 : ∀ (v1 : Int32) (v2 : Int32) (mm : Mm), k2 v1 v2 mm = some q → ∀ (H : Heap) (locs : List Loc) (ls : Array Slot), Hx WN ad ca WS D A s.heap mm H locs → lv_has ls 3 [(0, .ref (ad 17)), (1, .int v1), (2, .int v2)] → W p l e (rmk 1) s m args below meth c H locs 0 0 (MQ below (QcV WN ad ca WS D A q) args s 0 0 A) (F0 m 2 ls [])) {v1 : Int32} {v2 : Int32} {mm : Mm} (h : BX0_know_2 k2 v1 v2 mm = some q) (hH : Hx WN ad ca WS D A s.heap mm H locs) (hl : lv_has ls 3 [(0, .ref (ad 17)), (1, .int v1), (2, .int v2)]) : W p l e (rmk 1) s m args below meth c H locs 0 0 (MQ below (QcV WN ad ca WS D A q) args s 0 0 A) (F0 m 2 ls []) := by
  unfold BX0_know_2 at h
  have hx := C.1
  have hb := C.2.1
  refine lv_iload_n hx hb dX0_know_2 rfl (lv_at hl 2 rfl) ?_
  refine lv_bipush (v := 6) hx hb dX0_know_3 (by decide) ?_
  refine lv_icmp_ge (tgt := 30) hx hb dX0_know_5 (by decide) (fun hc5 => ?_) (fun hc5 => ?_)
  · replace h := tT hc5 h
    have h := Option.some.inj h
    subst h
    exact retV C hH dX0_know_30
  · replace h := tF hc5 h
    refine lv_aload_n hx hb dX0_know_8 rfl (lv_at hl 0 rfl) ?_
    refine rgS C hH fs_RX0_9_17 dX0_know_9 ?_
    refine lv_iload_n hx hb dX0_know_12 rfl (lv_at hl 2 rfl) ?_
    refine lv_iload_n hx hb dX0_know_13 rfl (lv_at hl 2 rfl) ?_
    refine lv_iload_n hx hb dX0_know_14 rfl (lv_at hl 1 rfl) ?_
    refine lv_icmp_ne (tgt := 22) hx hb dX0_know_15 (by decide) (fun hc15 => ?_) (fun hc15 => ?_)
    · replace h := tF hc15 h
      refine lv_lconst (v := 0) hx hb dX0_know_22 (by decide) ?_
      exact wX0_know_23 C hk2 h hH (lv_sub hl [0, 1, 2] rfl)
    · replace h := tT hc15 h
      refine lv_lconst (v := 1) hx hb dX0_know_18 (by decide) ?_
      refine lv_goto (tgt := 23) hx hb dX0_know_19 (by decide) ?_
      exact wX0_know_23 C hk2 h hH (lv_sub hl [0, 1, 2] rfl)
set_option maxHeartbeats 2000000 in
set_option maxRecDepth 20000 in
theorem wX0_know_2 (C : Cx D ca A p s m args meth c cX0_know RX0 3 none) {q : Unit × Mm} : ∀ (N : Nat) (v1 : Int32) (v2 : Int32) (mm : Mm), DX0_know_2 N v1 v2 mm = some q → ∀ (H : Heap) (locs : List Loc) (ls : Array Slot), Hx WN ad ca WS D A s.heap mm H locs → lv_has ls 3 [(0, .ref (ad 17)), (1, .int v1), (2, .int v2)] → W p l e (rmk 1) s m args below meth c H locs 0 0 (MQ below (QcV WN ad ca WS D A q) args s 0 0 A) (F0 m 2 ls []) := by
  intro N
  induction N with
  | zero =>
    intro v1 v2 mm h
    have h2 : (none : Option (Unit × Mm)) = some q := h
    cases h2
  | succ N ih =>
    intro v1 v2 mm h H locs ls hH hl
    exact wbX0_know_2 C ih h hH hl
set_option maxHeartbeats 2000000 in
set_option maxRecDepth 20000 in
theorem mX0_know (l : Launch) {D : va_G} {ca : Nat → ClassId} {A : Nat → Prop} {ad : Nat → Nat} {v1 : Int32} {mm : Mm} {q : Unit × Mm} (h : dX0_know v1 mm = some q) : Met l yX0_know (wsOf yX0_know cX0_know 3 none) (rmk 1) (PcX WN ad ca WS D A [.ref (ad 17), .int v1] mm) (QcV WN ad ca WS D A q) 0 0 A := by
  unfold dX0_know at h
  refine ent (by decide) (Nat.le_of_ble_eq_true rfl) (fun p e s m args below meth c hargs C hH ls hl => ?_)
  have hx := C.1
  have hb := C.2.1
  have hl : lv_has ls 3 [(0, .ref (ad 17)), (1, .int v1)] := hl
  refine lv_iconst (v := 0) hx hb dX0_know_0 (by decide) ?_
  refine lv_istore_n (lv' := [(2, .int 0), (0, .ref (ad 17)), (1, .int v1)]) hx hb dX0_know_1 rfl hl (by decide) rfl (fun ls hl => ?_)
  exact wX0_know_2 C FU _ _ _ h _ _ _ hH (lv_sub hl [1, 2, 0] rfl)
set_option maxHeartbeats 2000000 in
set_option maxRecDepth 20000 in
theorem mX0_seeming (l : Launch) {D : va_G} {ca : Nat → ClassId} {A : Nat → Prop} {ad : Nat → Nat} {v1 : Int32} {v2 : Int32} {v3 : Int32} {v4 : Int32} {mm : Mm} {q : Int32 × Mm} (h : dX0_seeming v1 v2 v3 v4 mm = some q) : Met l yX0_seeming (wsOf yX0_seeming cX0_seeming 6 (some .int)) (rmk 3) (PcX WN ad ca WS D A [.ref (ad 17), .int v1, .int v2, .int v3, .int v4] mm) (QcI WN ad ca WS D A pzT q) 0 0 A := by
  unfold dX0_seeming at h
  refine ent (by decide) (Nat.le_of_ble_eq_true rfl) (fun p e s m args below meth c hargs C hH ls hl => ?_)
  have hx := C.1
  have hb := C.2.1
  have hl : lv_has ls 6 [(0, .ref (ad 17)), (1, .int v1), (2, .int v2), (3, .int v3), (4, .int v4)] := hl
  refine lv_aload_n hx hb dX0_seeming_0 rfl (lv_at hl 0 rfl) ?_
  refine rgS C hH fs_RX0_15_17 dX0_seeming_1 ?_
  refine lv_bipush (v := 8) hx hb dX0_seeming_4 (by decide) ?_
  refine lv_iload_n hx hb dX0_seeming_6 rfl (lv_at hl 1 rfl) ?_
  obtain ⟨q7, e7, h⟩ := tB h
  refine rcI C hH hl.1 (mX7_told l e7) cf_RX0_25 ro_1 (RR_of (by decide) (by decide)) rfl (rest := []) rfl (Nat.le_of_ble_eq_true rfl) dX0_seeming_7 ?_
  intro hz7 H locs hH
  refine lv_istore (lv' := [(5, .int q7.1), (0, .ref (ad 17)), (1, .int v1), (2, .int v2), (3, .int v3), (4, .int v4)]) hx hb dX0_seeming_10 hl (by decide) rfl (fun ls hl => ?_)
  refine lv_aload_n hx hb dX0_seeming_12 rfl (lv_at hl 1 rfl) ?_
  refine rgS C hH fs_RX0_15_17 dX0_seeming_13 ?_
  refine lv_iconst (v := 1) hx hb dX0_seeming_16 (by decide) ?_
  refine lv_iload_n hx hb dX0_seeming_17 rfl (lv_at hl 4 rfl) ?_
  refine lv_iadd hx hb dX0_seeming_18 ?_
  refine lv_iload_n hx hb dX0_seeming_19 rfl (lv_at hl 3 rfl) ?_
  obtain ⟨q20, e20, h⟩ := tB h
  refine rcI C hH hl.1 (mX7_told l e20) cf_RX0_25 ro_1 (RR_of (by decide) (by decide)) rfl (rest := []) rfl (Nat.le_of_ble_eq_true rfl) dX0_seeming_20 ?_
  intro hz20 H locs hH
  refine lv_iload hx hb dX0_seeming_23 (lv_at hl 5 rfl) ?_
  refine lv_icmp_ne (tgt := 35) hx hb dX0_seeming_25 (by decide) (fun hc25 => ?_) (fun hc25 => ?_)
  · replace h := tF hc25 h
    refine lv_bipush (v := 12) hx hb dX0_seeming_35 (by decide) ?_
    refine lv_iload hx hb dX0_seeming_37 (lv_at hl 0 rfl) ?_
    refine lv_isub hx hb dX0_seeming_39 ?_
    have h := Option.some.inj h
    subst h
    exact retI C hH trivial dX0_seeming_40
  · replace h := tT hc25 h
    refine lv_iconst (v := 3) hx hb dX0_seeming_28 (by decide) ?_
    refine lv_iload hx hb dX0_seeming_29 (lv_at hl 0 rfl) ?_
    refine lv_imul hx hb dX0_seeming_31 ?_
    refine lv_goto (tgt := 40) hx hb dX0_seeming_32 (by decide) ?_
    have h := Option.some.inj h
    subst h
    exact retI C hH trivial dX0_seeming_40
set_option maxHeartbeats 2000000 in
set_option maxRecDepth 20000 in
theorem wbX0_learn_3 (C : Cx D ca A p s m args meth c cX0_learn RX0 5 none) {q : Unit × Mm} {k3 : Int32 → Int32 → Int32 → Int32 → Mm → Option (Unit × Mm)} (hk3 : ∀ (v1 : Int32) (v2 : Int32) (v3 : Int32) (v4 : Int32) (mm : Mm), k3 v1 v2 v3 v4 mm = some q → ∀ (H : Heap) (locs : List Loc) (ls : Array Slot), Hx WN ad ca WS D A s.heap mm H locs → lv_has ls 5 [(0, .ref (ad 17)), (1, .int v1), (2, .int v2), (3, .int v3), (4, .int v4)] → W p l e (rmk 4) s m args below meth c H locs 0 0 (MQ below (QcV WN ad ca WS D A q) args s 0 0 A) (F0 m 3 ls [])) {v1 : Int32} {v2 : Int32} {v3 : Int32} {v4 : Int32} {mm : Mm} (h : BX0_learn_3 k3 v1 v2 v3 v4 mm = some q) (hH : Hx WN ad ca WS D A s.heap mm H locs) (hl : lv_has ls 5 [(0, .ref (ad 17)), (1, .int v1), (2, .int v2), (3, .int v3), (4, .int v4)]) : W p l e (rmk 4) s m args below meth c H locs 0 0 (MQ below (QcV WN ad ca WS D A q) args s 0 0 A) (F0 m 3 ls []) := by
  unfold BX0_learn_3 at h
  have hx := C.1
  have hb := C.2.1
  refine lv_iload hx hb dX0_learn_3 (lv_at hl 4 rfl) ?_
  refine lv_bipush (v := 6) hx hb dX0_learn_5 (by decide) ?_
  refine lv_icmp_ge (tgt := 36) hx hb dX0_learn_7 (by decide) (fun hc7 => ?_) (fun hc7 => ?_)
  · replace h := tT hc7 h
    have h := Option.some.inj h
    subst h
    exact retV C hH dX0_learn_36
  · replace h := tF hc7 h
    refine lv_aload_n hx hb dX0_learn_10 rfl (lv_at hl 0 rfl) ?_
    refine rgS C hH fs_RX0_9_17 dX0_learn_11 ?_
    refine lv_iload hx hb dX0_learn_14 (lv_at hl 4 rfl) ?_
    refine lv_dup2_11 hx hb dX0_learn_16 rfl rfl ?_
    obtain ⟨hi17, h⟩ := tC h
    refine raL C hH (k := (Int32.toNatClampNeg v4)) (by decide) (show WS 18 = .inr (3, 6, 0) from rfl) hi17 rfl dX0_learn_17 ?_
    refine lv_aload_n hx hb dX0_learn_18 rfl (lv_at hl 0 rfl) ?_
    refine lv_iload_n hx hb dX0_learn_19 rfl (lv_at hl 1 rfl) ?_
    refine lv_iload hx hb dX0_learn_20 (lv_at hl 4 rfl) ?_
    refine lv_iload_n hx hb dX0_learn_22 rfl (lv_at hl 2 rfl) ?_
    refine lv_iload_n hx hb dX0_learn_23 rfl (lv_at hl 3 rfl) ?_
    obtain ⟨q24, e24, h⟩ := tB h
    refine rcI C hH hl.1 (mX0_seeming l e24) cf_RX0_53 ro_17 (RR_of (by decide) (by decide)) rfl (rest := [.long (gL mm 18 (Int32.toNatClampNeg v4)), .int v4, .ref (ad 18)]) rfl (Nat.le_of_ble_eq_true rfl) dX0_learn_24 ?_
    intro hz24 H locs hH
    refine lv_i2l' hx hb dX0_learn_27 ?_
    refine lv_lmul hx hb dX0_learn_28 ?_
    obtain ⟨hi29, h⟩ := tC h
    refine rwL C hH (k := (Int32.toNatClampNeg v4)) (by decide) (show WS 18 = .inr (3, 6, 0) from rfl) hi29 rfl dX0_learn_29 (fun H locs hH => ?_)
    refine lv_iinc (v := (v4 + 1)) (lv' := [(4, .int (v4 + 1)), (0, .ref (ad 17)), (1, .int v1), (2, .int v2), (3, .int v3)]) hx hb dX0_learn_30 hl (k := 4) rfl rfl (by decide) rfl (fun ls hl => ?_)
    refine lv_goto (tgt := 3) hx hb dX0_learn_33 (by decide) ?_
    exact hk3 _ _ _ _ _ h _ _ _ hH (lv_sub hl [1, 2, 3, 4, 0] rfl)
set_option maxHeartbeats 2000000 in
set_option maxRecDepth 20000 in
theorem wX0_learn_3 (C : Cx D ca A p s m args meth c cX0_learn RX0 5 none) {q : Unit × Mm} : ∀ (N : Nat) (v1 : Int32) (v2 : Int32) (v3 : Int32) (v4 : Int32) (mm : Mm), DX0_learn_3 N v1 v2 v3 v4 mm = some q → ∀ (H : Heap) (locs : List Loc) (ls : Array Slot), Hx WN ad ca WS D A s.heap mm H locs → lv_has ls 5 [(0, .ref (ad 17)), (1, .int v1), (2, .int v2), (3, .int v3), (4, .int v4)] → W p l e (rmk 4) s m args below meth c H locs 0 0 (MQ below (QcV WN ad ca WS D A q) args s 0 0 A) (F0 m 3 ls []) := by
  intro N
  induction N with
  | zero =>
    intro v1 v2 v3 v4 mm h
    have h2 : (none : Option (Unit × Mm)) = some q := h
    cases h2
  | succ N ih =>
    intro v1 v2 v3 v4 mm h H locs ls hH hl
    exact wbX0_learn_3 C ih h hH hl
set_option maxHeartbeats 2000000 in
set_option maxRecDepth 20000 in
theorem mX0_learn (l : Launch) {D : va_G} {ca : Nat → ClassId} {A : Nat → Prop} {ad : Nat → Nat} {v1 : Int32} {v2 : Int32} {v3 : Int32} {mm : Mm} {q : Unit × Mm} (h : dX0_learn v1 v2 v3 mm = some q) : Met l yX0_learn (wsOf yX0_learn cX0_learn 5 none) (rmk 4) (PcX WN ad ca WS D A [.ref (ad 17), .int v1, .int v2, .int v3] mm) (QcV WN ad ca WS D A q) 0 0 A := by
  unfold dX0_learn at h
  refine ent (by decide) (Nat.le_of_ble_eq_true rfl) (fun p e s m args below meth c hargs C hH ls hl => ?_)
  have hx := C.1
  have hb := C.2.1
  have hl : lv_has ls 5 [(0, .ref (ad 17)), (1, .int v1), (2, .int v2), (3, .int v3)] := hl
  refine lv_iconst (v := 0) hx hb dX0_learn_0 (by decide) ?_
  refine lv_istore (lv' := [(4, .int 0), (0, .ref (ad 17)), (1, .int v1), (2, .int v2), (3, .int v3)]) hx hb dX0_learn_1 hl (by decide) rfl (fun ls hl => ?_)
  exact wX0_learn_3 C FU _ _ _ _ _ h _ _ _ hH (lv_sub hl [1, 2, 3, 4, 0] rfl)
set_option maxHeartbeats 2000000 in
set_option maxRecDepth 20000 in
theorem wX0_weigh_130 (C : Cx D ca A p s m args meth c cX0_weigh RX0 8 none) {q : Unit × Mm} {k36 : Nat → Int32 → Int32 → Int32 → Mm → Option (Unit × Mm)} (hk36 : ∀ (v1 : Nat) (v2 : Int32) (v3 : Int32) (v4 : Int32) (mm : Mm), k36 v1 v2 v3 v4 mm = some q → isSh v1 → ∀ (H : Heap) (locs : List Loc) (ls : Array Slot), Hx WN ad ca WS D A s.heap mm H locs → lv_has ls 8 [(0, .ref (ad 17)), (1, .ref (ad v1)), (2, .int v2), (3, .int v3), (4, .int v4)] → W p l e (rmk 5) s m args below meth c H locs 0 0 (MQ below (QcV WN ad ca WS D A q) args s 0 0 A) (F0 m 36 ls [])) {v1 : Nat} {v2 : Int32} {v3 : Int32} {v4 : Int32} {mm : Mm} (ho1 : isSh v1) (h : DX0_weigh_130 k36 v1 v2 v3 v4 mm = some q) (hH : Hx WN ad ca WS D A s.heap mm H locs) (hl : lv_has ls 8 [(0, .ref (ad 17)), (1, .ref (ad v1)), (2, .int v2), (3, .int v3), (4, .int v4)]) : W p l e (rmk 5) s m args below meth c H locs 0 0 (MQ below (QcV WN ad ca WS D A q) args s 0 0 A) (F0 m 130 ls []) := by
  unfold DX0_weigh_130 at h
  have hx := C.1
  have hb := C.2.1
  refine lv_iinc (v := (v4 + 1)) (lv' := [(4, .int (v4 + 1)), (0, .ref (ad 17)), (1, .ref (ad v1)), (2, .int v2), (3, .int v3)]) hx hb dX0_weigh_130 hl (k := 4) rfl rfl (by decide) rfl (fun ls hl => ?_)
  refine lv_goto (tgt := 36) hx hb dX0_weigh_133 (by decide) ?_
  exact hk36 _ _ _ _ _ h ho1 _ _ _ hH (lv_sub hl [1, 2, 3, 4, 0] rfl)
set_option maxHeartbeats 2000000 in
set_option maxRecDepth 20000 in
theorem wbX0_weigh_36 (C : Cx D ca A p s m args meth c cX0_weigh RX0 8 none) {q : Unit × Mm} {k36 : Nat → Int32 → Int32 → Int32 → Mm → Option (Unit × Mm)} (hk36 : ∀ (v1 : Nat) (v2 : Int32) (v3 : Int32) (v4 : Int32) (mm : Mm), k36 v1 v2 v3 v4 mm = some q → isSh v1 → ∀ (H : Heap) (locs : List Loc) (ls : Array Slot), Hx WN ad ca WS D A s.heap mm H locs → lv_has ls 8 [(0, .ref (ad 17)), (1, .ref (ad v1)), (2, .int v2), (3, .int v3), (4, .int v4)] → W p l e (rmk 5) s m args below meth c H locs 0 0 (MQ below (QcV WN ad ca WS D A q) args s 0 0 A) (F0 m 36 ls [])) {v1 : Nat} {v2 : Int32} {v3 : Int32} {v4 : Int32} {mm : Mm} (ho1 : isSh v1) (h : BX0_weigh_36 k36 v1 v2 v3 v4 mm = some q) (hH : Hx WN ad ca WS D A s.heap mm H locs) (hl : lv_has ls 8 [(0, .ref (ad 17)), (1, .ref (ad v1)), (2, .int v2), (3, .int v3), (4, .int v4)]) : W p l e (rmk 5) s m args below meth c H locs 0 0 (MQ below (QcV WN ad ca WS D A q) args s 0 0 A) (F0 m 36 ls []) := by
  unfold BX0_weigh_36 at h
  have hx := C.1
  have hb := C.2.1
  refine lv_iload hx hb dX0_weigh_36 (lv_at hl 4 rfl) ?_
  refine lv_bipush (v := 6) hx hb dX0_weigh_38 (by decide) ?_
  refine lv_icmp_ge (tgt := 136) hx hb dX0_weigh_40 (by decide) (fun hc40 => ?_) (fun hc40 => ?_)
  · replace h := tT hc40 h
    have h := Option.some.inj h
    subst h
    exact retV C hH dX0_weigh_136
  · replace h := tF hc40 h
    refine lv_aload_n hx hb dX0_weigh_43 rfl (lv_at hl 1 rfl) ?_
    refine lv_iconst (v := 3) hx hb dX0_weigh_44 (by decide) ?_
    refine lv_iload hx hb dX0_weigh_45 (lv_at hl 4 rfl) ?_
    refine lv_imul hx hb dX0_weigh_47 ?_
    obtain ⟨q48, e48, h⟩ := tB h
    refine rcI C hH hl.1 (mX8_byteAt l e48) cf_RX0_39 (ro_sh ho1) (RR_of (by decide) (by decide)) rfl (rest := []) rfl (Nat.le_of_ble_eq_true rfl) dX0_weigh_48 ?_
    intro hz48 H locs hH
    refine lv_istore (lv' := [(5, .int q48.1), (0, .ref (ad 17)), (1, .ref (ad v1)), (2, .int v2), (3, .int v3), (4, .int v4)]) hx hb dX0_weigh_51 hl (by decide) rfl (fun ls hl => ?_)
    refine lv_aload_n hx hb dX0_weigh_53 rfl (lv_at hl 2 rfl) ?_
    refine lv_iconst (v := 3) hx hb dX0_weigh_54 (by decide) ?_
    refine lv_iload hx hb dX0_weigh_55 (lv_at hl 5 rfl) ?_
    refine lv_imul hx hb dX0_weigh_57 ?_
    refine lv_iconst (v := 1) hx hb dX0_weigh_58 (by decide) ?_
    refine lv_iadd hx hb dX0_weigh_59 ?_
    obtain ⟨q60, e60, h⟩ := tB h
    refine rcI C hH hl.1 (mX8_byteAt l e60) cf_RX0_39 (ro_sh ho1) (RR_of (by decide) (by decide)) rfl (rest := []) rfl (Nat.le_of_ble_eq_true rfl) dX0_weigh_60 ?_
    intro hz60 H locs hH
    refine lv_istore (lv' := [(6, .int q60.1), (5, .int q48.1), (0, .ref (ad 17)), (1, .ref (ad v1)), (2, .int v2), (3, .int v3), (4, .int v4)]) hx hb dX0_weigh_63 hl (by decide) rfl (fun ls hl => ?_)
    refine lv_aload_n hx hb dX0_weigh_65 rfl (lv_at hl 3 rfl) ?_
    refine lv_iconst (v := 3) hx hb dX0_weigh_66 (by decide) ?_
    refine lv_iload hx hb dX0_weigh_67 (lv_at hl 6 rfl) ?_
    refine lv_imul hx hb dX0_weigh_69 ?_
    refine lv_iconst (v := 2) hx hb dX0_weigh_70 (by decide) ?_
    refine lv_iadd hx hb dX0_weigh_71 ?_
    obtain ⟨q72, e72, h⟩ := tB h
    refine rcI C hH hl.1 (mX8_byteAt l e72) cf_RX0_39 (ro_sh ho1) (RR_of (by decide) (by decide)) rfl (rest := []) rfl (Nat.le_of_ble_eq_true rfl) dX0_weigh_72 ?_
    intro hz72 H locs hH
    refine lv_istore (lv' := [(7, .int q72.1), (6, .int q60.1), (5, .int q48.1), (0, .ref (ad 17)), (1, .ref (ad v1)), (2, .int v2), (3, .int v3), (4, .int v4)]) hx hb dX0_weigh_75 hl (by decide) rfl (fun ls hl => ?_)
    refine lv_aload_n hx hb dX0_weigh_77 rfl (lv_at hl 3 rfl) ?_
    refine rgS C hH fs_RX0_15_17 dX0_weigh_78 ?_
    refine lv_iconst (v := 4) hx hb dX0_weigh_81 (by decide) ?_
    refine lv_iload hx hb dX0_weigh_82 (lv_at hl 2 rfl) ?_
    obtain ⟨q84, e84, h⟩ := tB h
    refine rcI C hH hl.1 (mX7_holds l e84) cf_RX0_45 ro_1 (RR_of (by decide) (by decide)) rfl (rest := []) rfl (Nat.le_of_ble_eq_true rfl) dX0_weigh_84 ?_
    intro hz84 H locs hH
    refine lv_if_eq (tgt := 136) hx hb dX0_weigh_87 (by decide) (fun hc87 => ?_) (fun hc87 => ?_)
    · replace h := tT hc87 h
      have h := Option.some.inj h
      subst h
      exact retV C hH dX0_weigh_136
    · replace h := tF hc87 h
      refine lv_iload hx hb dX0_weigh_90 (lv_at hl 1 rfl) ?_
      refine lv_if_lt (tgt := 136) hx hb dX0_weigh_92 (by decide) (fun hc92 => ?_) (fun hc92 => ?_)
      · replace h := tT hc92 h
        have h := Option.some.inj h
        subst h
        exact retV C hH dX0_weigh_136
      · replace h := tF hc92 h
        refine lv_iload hx hb dX0_weigh_95 (lv_at hl 1 rfl) ?_
        refine lv_iconst (v := 3) hx hb dX0_weigh_97 (by decide) ?_
        refine lv_icmp_ge (tgt := 136) hx hb dX0_weigh_98 (by decide) (fun hc98 => ?_) (fun hc98 => ?_)
        · replace h := tT hc98 h
          have h := Option.some.inj h
          subst h
          exact retV C hH dX0_weigh_136
        · replace h := tF hc98 h
          refine lv_iload hx hb dX0_weigh_101 (lv_at hl 0 rfl) ?_
          refine lv_if_lt (tgt := 136) hx hb dX0_weigh_103 (by decide) (fun hc103 => ?_) (fun hc103 => ?_)
          · replace h := tT hc103 h
            have h := Option.some.inj h
            subst h
            exact retV C hH dX0_weigh_136
          · replace h := tF hc103 h
            refine lv_iload hx hb dX0_weigh_106 (lv_at hl 0 rfl) ?_
            refine lv_iconst (v := 4) hx hb dX0_weigh_108 (by decide) ?_
            refine lv_icmp_lt (tgt := 115) hx hb dX0_weigh_109 (by decide) (fun hc109 => ?_) (fun hc109 => ?_)
            · replace h := tT hc109 h
              refine lv_iload hx hb dX0_weigh_115 (lv_at hl 2 rfl) ?_
              refine lv_iload_n hx hb dX0_weigh_117 rfl (lv_at hl 6 rfl) ?_
              refine lv_icmp_ne (tgt := 130) hx hb dX0_weigh_118 (by decide) (fun hc118 => ?_) (fun hc118 => ?_)
              · replace h := tF hc118 h
                exact wX0_weigh_130 C hk36 ho1 h hH (lv_sub hl [3, 4, 5, 6, 7] rfl)
              · replace h := tT hc118 h
                refine lv_aload_n hx hb dX0_weigh_121 rfl (lv_at hl 3 rfl) ?_
                refine lv_iload_n hx hb dX0_weigh_122 rfl (lv_at hl 5 rfl) ?_
                refine lv_iload hx hb dX0_weigh_123 (lv_at hl 1 rfl) ?_
                refine lv_iload hx hb dX0_weigh_125 (lv_at hl 0 rfl) ?_
                obtain ⟨q127, e127, h⟩ := tB h
                refine rcV C hH hl.1 (mX0_learn l e127) cf_RX0_49 ro_17 (RR_of (by decide) (by decide)) rfl (rest := []) rfl (Nat.le_of_ble_eq_true rfl) dX0_weigh_127 ?_
                intro H locs hH
                exact wX0_weigh_130 C hk36 ho1 h hH (lv_sub hl [3, 4, 5, 6, 7] rfl)
            · replace h := tF hc109 h
              refine lv_goto (tgt := 136) hx hb dX0_weigh_112 (by decide) ?_
              have h := Option.some.inj h
              subst h
              exact retV C hH dX0_weigh_136
set_option maxHeartbeats 2000000 in
set_option maxRecDepth 20000 in
theorem wX0_weigh_36 (C : Cx D ca A p s m args meth c cX0_weigh RX0 8 none) {q : Unit × Mm} : ∀ (N : Nat) (v1 : Nat) (v2 : Int32) (v3 : Int32) (v4 : Int32) (mm : Mm), DX0_weigh_36 N v1 v2 v3 v4 mm = some q → isSh v1 → ∀ (H : Heap) (locs : List Loc) (ls : Array Slot), Hx WN ad ca WS D A s.heap mm H locs → lv_has ls 8 [(0, .ref (ad 17)), (1, .ref (ad v1)), (2, .int v2), (3, .int v3), (4, .int v4)] → W p l e (rmk 5) s m args below meth c H locs 0 0 (MQ below (QcV WN ad ca WS D A q) args s 0 0 A) (F0 m 36 ls []) := by
  intro N
  induction N with
  | zero =>
    intro v1 v2 v3 v4 mm h
    have h2 : (none : Option (Unit × Mm)) = some q := h
    cases h2
  | succ N ih =>
    intro v1 v2 v3 v4 mm h ho1 H locs ls hH hl
    exact wbX0_weigh_36 C ih ho1 h hH hl
set_option maxHeartbeats 2000000 in
set_option maxRecDepth 20000 in
theorem mX0_weigh (l : Launch) {D : va_G} {ca : Nat → ClassId} {A : Nat → Prop} {ad : Nat → Nat} {v1 : Nat} {v2 : Int32} {v3 : Int32} {mm : Mm} {q : Unit × Mm} (h : dX0_weigh v1 v2 v3 mm = some q) : Met l yX0_weigh (wsOf yX0_weigh cX0_weigh 8 none) (rmk 5) (PcX WN ad ca WS D A [.ref (ad 17), .ref (ad v1), .int v2, .int v3] mm) (QcV WN ad ca WS D A q) 0 0 A := by
  unfold dX0_weigh at h
  refine ent (by decide) (Nat.le_of_ble_eq_true rfl) (fun p e s m args below meth c hargs C hH ls hl => ?_)
  have hx := C.1
  have hb := C.2.1
  have hl : lv_has ls 8 [(0, .ref (ad 17)), (1, .ref (ad v1)), (2, .int v2), (3, .int v3)] := hl
  obtain ⟨ho1, h⟩ := tC h
  refine lv_aload_n hx hb dX0_weigh_0 rfl (lv_at hl 0 rfl) ?_
  refine rgS C hH fs_RX0_15_17 dX0_weigh_1 ?_
  refine lv_iload_n hx hb dX0_weigh_4 rfl (lv_at hl 3 rfl) ?_
  obtain ⟨q5, e5, h⟩ := tB h
  refine rcI C hH hl.1 (mX7_isOpen l e5) cf_RX0_19 ro_1 (RR_of (by decide) (by decide)) rfl (rest := []) rfl (Nat.le_of_ble_eq_true rfl) dX0_weigh_5 ?_
  intro hz5 H locs hH
  refine lv_if_eq (tgt := 25) hx hb dX0_weigh_8 (by decide) (fun hc8 => ?_) (fun hc8 => ?_)
  · replace h := tT hc8 h
    refine lv_aload_n hx hb dX0_weigh_25 rfl (lv_at hl 0 rfl) ?_
    refine rgS C hH fs_RX0_9_17 dX0_weigh_26 ?_
    refine lv_lconst (v := 1) hx hb dX0_weigh_29 (by decide) ?_
    refine rsV C hH hl.1 (q := ((), flL q5.2 18 6 1)) (mJ7_fill_d0a16 l (by decide) (show WS 18 = .inr (3, 6, 0) from rfl) (by decide)) cs_RX0_33 (RR_of (by decide) (by decide)) rfl (rest := []) rfl (Nat.le_of_ble_eq_true rfl) dX0_weigh_30 ?_
    intro H locs hH
    refine lv_iconst (v := 0) hx hb dX0_weigh_33 (by decide) ?_
    refine lv_istore (lv' := [(4, .int 0), (0, .ref (ad 17)), (1, .ref (ad v1)), (2, .int v2), (3, .int v3)]) hx hb dX0_weigh_34 hl (by decide) rfl (fun ls hl => ?_)
    exact wX0_weigh_36 C FU _ _ _ _ _ h ho1 _ _ _ hH (lv_sub hl [1, 2, 3, 4, 0] rfl)
  · replace h := tF hc8 h
    refine lv_aload_n hx hb dX0_weigh_11 rfl (lv_at hl 0 rfl) ?_
    refine lv_aload_n hx hb dX0_weigh_12 rfl (lv_at hl 0 rfl) ?_
    refine rgS C hH fs_RX0_15_17 dX0_weigh_13 ?_
    refine lv_iconst (v := 4) hx hb dX0_weigh_16 (by decide) ?_
    refine lv_iload_n hx hb dX0_weigh_17 rfl (lv_at hl 3 rfl) ?_
    obtain ⟨q18, e18, h⟩ := tB h
    refine rcI C hH hl.1 (mX7_told l e18) cf_RX0_25 ro_1 (RR_of (by decide) (by decide)) rfl (rest := [.ref (ad 17)]) rfl (Nat.le_of_ble_eq_true rfl) dX0_weigh_18 ?_
    intro hz18 H locs hH
    obtain ⟨q21, e21, h⟩ := tB h
    refine rcV C hH hl.1 (mX0_know l e21) cf_RX0_29 ro_17 (RR_of (by decide) (by decide)) rfl (rest := []) rfl (Nat.le_of_ble_eq_true rfl) dX0_weigh_21 ?_
    intro H locs hH
    have h := Option.some.inj h
    subst h
    exact retV C hH dX0_weigh_24
set_option maxHeartbeats 2000000 in
set_option maxRecDepth 20000 in
theorem mX0_weight (l : Launch) {D : va_G} {ca : Nat → ClassId} {A : Nat → Prop} {ad : Nat → Nat} {v1 : Int32} {mm : Mm} {q : Int64 × Mm} (h : dX0_weight v1 mm = some q) : Met l yX0_weight (wsOf yX0_weight cX0_weight 2 (some .long)) (rmk 1) (PcX WN ad ca WS D A [.ref (ad 17), .int v1] mm) (QcL WN ad ca WS D A q) 0 0 A := by
  unfold dX0_weight at h
  refine ent (by decide) (Nat.le_of_ble_eq_true rfl) (fun p e s m args below meth c hargs C hH ls hl => ?_)
  have hx := C.1
  have hb := C.2.1
  have hl : lv_has ls 2 [(0, .ref (ad 17)), (1, .int v1)] := hl
  refine lv_aload_n hx hb dX0_weight_0 rfl (lv_at hl 0 rfl) ?_
  refine rgS C hH fs_RX0_9_17 dX0_weight_1 ?_
  refine lv_iload_n hx hb dX0_weight_4 rfl (lv_at hl 1 rfl) ?_
  obtain ⟨hi5, h⟩ := tC h
  refine raL C hH (k := (Int32.toNatClampNeg v1)) (by decide) (show WS 18 = .inr (3, 6, 0) from rfl) hi5 rfl dX0_weight_5 ?_
  have h := Option.some.inj h
  subst h
  exact retL C hH dX0_weight_6
set_option maxHeartbeats 2000000 in
set_option maxRecDepth 20000 in
theorem wbX0_total_4 (C : Cx D ca A p s m args meth c cX0_total RX0 4 (some .long)) {q : Int64 × Mm} {k4 : Int64 → Int32 → Mm → Option (Int64 × Mm)} (hk4 : ∀ (v1 : Int64) (v3 : Int32) (mm : Mm), k4 v1 v3 mm = some q → ∀ (H : Heap) (locs : List Loc) (ls : Array Slot), Hx WN ad ca WS D A s.heap mm H locs → lv_has ls 4 [(0, .ref (ad 17)), (1, .long v1), (3, .int v3)] → W p l e (rmk 1) s m args below meth c H locs 0 0 (MQ below (QcL WN ad ca WS D A q) args s 0 0 A) (F0 m 4 ls [])) {v1 : Int64} {v3 : Int32} {mm : Mm} (h : BX0_total_4 k4 v1 v3 mm = some q) (hH : Hx WN ad ca WS D A s.heap mm H locs) (hl : lv_has ls 4 [(0, .ref (ad 17)), (1, .long v1), (3, .int v3)]) : W p l e (rmk 1) s m args below meth c H locs 0 0 (MQ below (QcL WN ad ca WS D A q) args s 0 0 A) (F0 m 4 ls []) := by
  unfold BX0_total_4 at h
  have hx := C.1
  have hb := C.2.1
  refine lv_iload_n hx hb dX0_total_4 rfl (lv_at hl 2 rfl) ?_
  refine lv_bipush (v := 6) hx hb dX0_total_5 (by decide) ?_
  refine lv_icmp_ge (tgt := 25) hx hb dX0_total_7 (by decide) (fun hc7 => ?_) (fun hc7 => ?_)
  · replace h := tT hc7 h
    refine lv_lload_n hx hb dX0_total_25 rfl (lv_at hl 1 rfl) ?_
    have h := Option.some.inj h
    subst h
    exact retL C hH dX0_total_26
  · replace h := tF hc7 h
    refine lv_lload_n hx hb dX0_total_10 rfl (lv_at hl 1 rfl) ?_
    refine lv_aload_n hx hb dX0_total_11 rfl (lv_at hl 0 rfl) ?_
    refine rgS C hH fs_RX0_9_17 dX0_total_12 ?_
    refine lv_iload_n hx hb dX0_total_15 rfl (lv_at hl 2 rfl) ?_
    obtain ⟨hi16, h⟩ := tC h
    refine raL C hH (k := (Int32.toNatClampNeg v3)) (by decide) (show WS 18 = .inr (3, 6, 0) from rfl) hi16 rfl dX0_total_16 ?_
    refine lv_ladd hx hb dX0_total_17 ?_
    refine lv_lstore_n (lv' := [(1, .long (v1 + (gL mm 18 (Int32.toNatClampNeg v3)))), (0, .ref (ad 17)), (3, .int v3)]) hx hb dX0_total_18 rfl hl (by decide) rfl (fun ls hl => ?_)
    refine lv_iinc (v := (v3 + 1)) (lv' := [(3, .int (v3 + 1)), (1, .long (v1 + (gL mm 18 (Int32.toNatClampNeg v3)))), (0, .ref (ad 17))]) hx hb dX0_total_19 hl (k := 2) rfl rfl (by decide) rfl (fun ls hl => ?_)
    refine lv_goto (tgt := 4) hx hb dX0_total_22 (by decide) ?_
    exact hk4 _ _ _ h _ _ _ hH (lv_sub hl [2, 1, 0] rfl)
set_option maxHeartbeats 2000000 in
set_option maxRecDepth 20000 in
theorem wX0_total_4 (C : Cx D ca A p s m args meth c cX0_total RX0 4 (some .long)) {q : Int64 × Mm} : ∀ (N : Nat) (v1 : Int64) (v3 : Int32) (mm : Mm), DX0_total_4 N v1 v3 mm = some q → ∀ (H : Heap) (locs : List Loc) (ls : Array Slot), Hx WN ad ca WS D A s.heap mm H locs → lv_has ls 4 [(0, .ref (ad 17)), (1, .long v1), (3, .int v3)] → W p l e (rmk 1) s m args below meth c H locs 0 0 (MQ below (QcL WN ad ca WS D A q) args s 0 0 A) (F0 m 4 ls []) := by
  intro N
  induction N with
  | zero =>
    intro v1 v3 mm h
    have h2 : (none : Option (Int64 × Mm)) = some q := h
    cases h2
  | succ N ih =>
    intro v1 v3 mm h H locs ls hH hl
    exact wbX0_total_4 C ih h hH hl
set_option maxHeartbeats 2000000 in
set_option maxRecDepth 20000 in
theorem mX0_total (l : Launch) {D : va_G} {ca : Nat → ClassId} {A : Nat → Prop} {ad : Nat → Nat} {mm : Mm} {q : Int64 × Mm} (h : dX0_total mm = some q) : Met l yX0_total (wsOf yX0_total cX0_total 4 (some .long)) (rmk 1) (PcX WN ad ca WS D A [.ref (ad 17)] mm) (QcL WN ad ca WS D A q) 0 0 A := by
  unfold dX0_total at h
  refine ent (by decide) (Nat.le_of_ble_eq_true rfl) (fun p e s m args below meth c hargs C hH ls hl => ?_)
  have hx := C.1
  have hb := C.2.1
  have hl : lv_has ls 4 [(0, .ref (ad 17))] := hl
  refine lv_lconst (v := 0) hx hb dX0_total_0 (by decide) ?_
  refine lv_lstore_n (lv' := [(1, .long 0), (0, .ref (ad 17))]) hx hb dX0_total_1 rfl hl (by decide) rfl (fun ls hl => ?_)
  refine lv_iconst (v := 0) hx hb dX0_total_2 (by decide) ?_
  refine lv_istore_n (lv' := [(3, .int 0), (1, .long 0), (0, .ref (ad 17))]) hx hb dX0_total_3 rfl hl (by decide) rfl (fun ls hl => ?_)
  exact wX0_total_4 C FU _ _ _ h _ _ _ hH (lv_sub hl [2, 1, 0] rfl)
set_option maxHeartbeats 2000000 in
set_option maxRecDepth 20000 in
theorem wX9_reduced_55 (C : Cx D ca A p s m args meth c cX9_reduced RX9 12 (some .long)) {q : Int64 × Mm} {v5 : Int64} {s0 : Int64} {mm : Mm} (h : DX9_reduced_55 v5 s0 mm = some q) (hH : Hx WN ad ca WS D A s.heap mm H locs) (hl : lv_has ls 12 [(5, .long v5)]) : W p l e (rmk 1) s m args below meth c H locs 0 0 (MQ below (QcL WN ad ca WS D A q) args s 0 0 A) (F0 m 55 ls [.long s0]) := by
  unfold DX9_reduced_55 at h
  have hx := C.1
  have hb := C.2.1
  refine lv_lstore (lv' := [(9, .long s0), (5, .long v5)]) hx hb dX9_reduced_55 hl (by decide) rfl (fun ls hl => ?_)
  refine lv_lload hx hb dX9_reduced_57 (lv_at hl 1 rfl) ?_
  refine lv_lconst (v := 0) hx hb dX9_reduced_59 (by decide) ?_
  refine lc_ne (tgt := 69) hx hb dX9_reduced_60 dX9_reduced_61 (by decide) (fun hc61 => ?_) (fun hc61 => ?_)
  · replace h := tF hc61 h
    refine lv_lload hx hb dX9_reduced_69 (lv_at hl 0 rfl) ?_
    refine lv_lload hx hb dX9_reduced_71 (lv_at hl 1 rfl) ?_
    obtain ⟨hz73, h⟩ := tN h
    refine lv_ldiv hx hb dX9_reduced_73 hz73 ?_
    have h := Option.some.inj h
    subst h
    exact retL C hH dX9_reduced_74
  · replace h := tT hc61 h
    refine lv_lload hx hb dX9_reduced_64 (lv_at hl 0 rfl) ?_
    refine lv_goto (tgt := 74) hx hb dX9_reduced_66 (by decide) ?_
    have h := Option.some.inj h
    subst h
    exact retL C hH dX9_reduced_74
set_option maxHeartbeats 2000000 in
set_option maxRecDepth 20000 in
theorem wX9_reduced_45 (C : Cx D ca A p s m args meth c cX9_reduced RX9 12 (some .long)) {q : Int64 × Mm} {v0 : Int64} {v2 : Int64} {v4 : Int32} {v5 : Int64} {mm : Mm} (h : DX9_reduced_45 v0 v2 v4 v5 mm = some q) (hH : Hx WN ad ca WS D A s.heap mm H locs) (hl : lv_has ls 12 [(0, .long v0), (2, .long v2), (4, .int v4), (5, .long v5)]) : W p l e (rmk 1) s m args below meth c H locs 0 0 (MQ below (QcL WN ad ca WS D A q) args s 0 0 A) (F0 m 45 ls []) := by
  unfold DX9_reduced_45 at h
  have hx := C.1
  have hb := C.2.1
  refine lv_iload hx hb dX9_reduced_45 (lv_at hl 2 rfl) ?_
  refine lv_if_ne (tgt := 54) hx hb dX9_reduced_47 (by decide) (fun hc47 => ?_) (fun hc47 => ?_)
  · replace h := tF hc47 h
    refine lv_lload_n hx hb dX9_reduced_54 rfl (lv_at hl 1 rfl) ?_
    exact wX9_reduced_55 C h hH (lv_sub hl [3] rfl)
  · replace h := tT hc47 h
    refine lv_lload_n hx hb dX9_reduced_50 rfl (lv_at hl 0 rfl) ?_
    refine lv_goto (tgt := 55) hx hb dX9_reduced_51 (by decide) ?_
    exact wX9_reduced_55 C h hH (lv_sub hl [3] rfl)
set_option maxHeartbeats 2000000 in
set_option maxRecDepth 20000 in
theorem wbX9_reduced_9 (C : Cx D ca A p s m args meth c cX9_reduced RX9 12 (some .long)) {q : Int64 × Mm} {k9 : Int64 → Int64 → Int32 → Int64 → Int64 → Int32 → Mm → Option (Int64 × Mm)} (hk9 : ∀ (v0 : Int64) (v2 : Int64) (v4 : Int32) (v5 : Int64) (v7 : Int64) (v9 : Int32) (mm : Mm), k9 v0 v2 v4 v5 v7 v9 mm = some q → ∀ (H : Heap) (locs : List Loc) (ls : Array Slot), Hx WN ad ca WS D A s.heap mm H locs → lv_has ls 12 [(0, .long v0), (2, .long v2), (4, .int v4), (5, .long v5), (7, .long v7), (9, .int v9)] → W p l e (rmk 1) s m args below meth c H locs 0 0 (MQ below (QcL WN ad ca WS D A q) args s 0 0 A) (F0 m 9 ls [])) {v0 : Int64} {v2 : Int64} {v4 : Int32} {v5 : Int64} {v7 : Int64} {v9 : Int32} {mm : Mm} (h : BX9_reduced_9 k9 v0 v2 v4 v5 v7 v9 mm = some q) (hH : Hx WN ad ca WS D A s.heap mm H locs) (hl : lv_has ls 12 [(0, .long v0), (2, .long v2), (4, .int v4), (5, .long v5), (7, .long v7), (9, .int v9)]) : W p l e (rmk 1) s m args below meth c H locs 0 0 (MQ below (QcL WN ad ca WS D A q) args s 0 0 A) (F0 m 9 ls []) := by
  unfold BX9_reduced_9 at h
  have hx := C.1
  have hb := C.2.1
  refine lv_iload hx hb dX9_reduced_9 (lv_at hl 5 rfl) ?_
  refine lv_sipush (v := 200) hx hb dX9_reduced_11 (by decide) ?_
  refine lv_icmp_ge (tgt := 45) hx hb dX9_reduced_14 (by decide) (fun hc14 => ?_) (fun hc14 => ?_)
  · replace h := tT hc14 h
    exact wX9_reduced_45 C h hH (lv_sub hl [0, 1, 2, 3] rfl)
  · replace h := tF hc14 h
    refine lv_lload hx hb dX9_reduced_17 (lv_at hl 4 rfl) ?_
    refine lv_lconst (v := 0) hx hb dX9_reduced_19 (by decide) ?_
    refine lc_eq (tgt := 45) hx hb dX9_reduced_20 dX9_reduced_21 (by decide) (fun hc21 => ?_) (fun hc21 => ?_)
    · replace h := tT hc21 h
      exact wX9_reduced_45 C h hH (lv_sub hl [0, 1, 2, 3] rfl)
    · replace h := tF hc21 h
      refine lv_lload hx hb dX9_reduced_24 (lv_at hl 3 rfl) ?_
      refine lv_lload hx hb dX9_reduced_26 (lv_at hl 4 rfl) ?_
      obtain ⟨hz28, h⟩ := tN h
      refine lv_lrem' hx hb dX9_reduced_28 hz28 ?_
      refine lv_lstore (lv' := [(10, .long (lRem v5 v7)), (0, .long v0), (2, .long v2), (4, .int v4), (5, .long v5), (7, .long v7), (9, .int v9)]) hx hb dX9_reduced_29 hl (by decide) rfl (fun ls hl => ?_)
      refine lv_lload hx hb dX9_reduced_31 (lv_at hl 5 rfl) ?_
      refine lv_lstore (lv' := [(5, .long v7), (10, .long (lRem v5 v7)), (0, .long v0), (2, .long v2), (4, .int v4), (7, .long v7), (9, .int v9)]) hx hb dX9_reduced_33 hl (by decide) rfl (fun ls hl => ?_)
      refine lv_lload hx hb dX9_reduced_35 (lv_at hl 1 rfl) ?_
      refine lv_lstore (lv' := [(7, .long (lRem v5 v7)), (5, .long v7), (10, .long (lRem v5 v7)), (0, .long v0), (2, .long v2), (4, .int v4), (9, .int v9)]) hx hb dX9_reduced_37 hl (by decide) rfl (fun ls hl => ?_)
      refine lv_iinc (v := (v9 + 1)) (lv' := [(9, .int (v9 + 1)), (7, .long (lRem v5 v7)), (5, .long v7), (10, .long (lRem v5 v7)), (0, .long v0), (2, .long v2), (4, .int v4)]) hx hb dX9_reduced_39 hl (k := 6) rfl rfl (by decide) rfl (fun ls hl => ?_)
      refine lv_goto (tgt := 9) hx hb dX9_reduced_42 (by decide) ?_
      exact hk9 _ _ _ _ _ _ _ h _ _ _ hH (lv_sub hl [4, 5, 6, 2, 1, 0] rfl)
set_option maxHeartbeats 2000000 in
set_option maxRecDepth 20000 in
theorem wX9_reduced_9 (C : Cx D ca A p s m args meth c cX9_reduced RX9 12 (some .long)) {q : Int64 × Mm} : ∀ (N : Nat) (v0 : Int64) (v2 : Int64) (v4 : Int32) (v5 : Int64) (v7 : Int64) (v9 : Int32) (mm : Mm), DX9_reduced_9 N v0 v2 v4 v5 v7 v9 mm = some q → ∀ (H : Heap) (locs : List Loc) (ls : Array Slot), Hx WN ad ca WS D A s.heap mm H locs → lv_has ls 12 [(0, .long v0), (2, .long v2), (4, .int v4), (5, .long v5), (7, .long v7), (9, .int v9)] → W p l e (rmk 1) s m args below meth c H locs 0 0 (MQ below (QcL WN ad ca WS D A q) args s 0 0 A) (F0 m 9 ls []) := by
  intro N
  induction N with
  | zero =>
    intro v0 v2 v4 v5 v7 v9 mm h
    have h2 : (none : Option (Int64 × Mm)) = some q := h
    cases h2
  | succ N ih =>
    intro v0 v2 v4 v5 v7 v9 mm h H locs ls hH hl
    exact wbX9_reduced_9 C ih h hH hl
set_option maxHeartbeats 2000000 in
set_option maxRecDepth 20000 in
theorem mX9_reduced (l : Launch) {D : va_G} {ca : Nat → ClassId} {A : Nat → Prop} {ad : Nat → Nat} {v0 : Int64} {v2 : Int64} {v4 : Int32} {mm : Mm} {q : Int64 × Mm} (h : dX9_reduced v0 v2 v4 mm = some q) : Met l yX9_reduced (wsOf yX9_reduced cX9_reduced 12 (some .long)) (rmk 1) (PcX WN ad ca WS D A [.long v0, .long v2, .int v4] mm) (QcL WN ad ca WS D A q) 0 0 A := by
  unfold dX9_reduced at h
  refine ent (by decide) (Nat.le_of_ble_eq_true rfl) (fun p e s m args below meth c hargs C hH ls hl => ?_)
  have hx := C.1
  have hb := C.2.1
  have hl : lv_has ls 12 [(0, .long v0), (2, .long v2), (4, .int v4)] := hl
  refine lv_lload_n hx hb dX9_reduced_0 rfl (lv_at hl 0 rfl) ?_
  refine lv_lstore (lv' := [(5, .long v0), (0, .long v0), (2, .long v2), (4, .int v4)]) hx hb dX9_reduced_1 hl (by decide) rfl (fun ls hl => ?_)
  refine lv_lload_n hx hb dX9_reduced_3 rfl (lv_at hl 2 rfl) ?_
  refine lv_lstore (lv' := [(7, .long v2), (5, .long v0), (0, .long v0), (2, .long v2), (4, .int v4)]) hx hb dX9_reduced_4 hl (by decide) rfl (fun ls hl => ?_)
  refine lv_iconst (v := 0) hx hb dX9_reduced_6 (by decide) ?_
  refine lv_istore (lv' := [(9, .int 0), (7, .long v2), (5, .long v0), (0, .long v0), (2, .long v2), (4, .int v4)]) hx hb dX9_reduced_7 hl (by decide) rfl (fun ls hl => ?_)
  exact wX9_reduced_9 C FU _ _ _ _ _ _ _ h _ _ _ hH (lv_sub hl [3, 4, 5, 2, 1, 0] rfl)
set_option maxHeartbeats 2000000 in
set_option maxRecDepth 20000 in
theorem wX9_belief_29 (C : Cx D ca A p s m args meth c cX9_belief RX9 5 (some .long)) {q : Int64 × Mm} {mm : Mm} (h : DX9_belief_29 mm = some q) (hH : Hx WN ad ca WS D A s.heap mm H locs) (hl : lv_has ls 5 []) : W p l e (rmk 6) s m args below meth c H locs 0 0 (MQ below (QcL WN ad ca WS D A q) args s 0 0 A) (F0 m 29 ls []) := by
  unfold DX9_belief_29 at h
  have hx := C.1
  have hb := C.2.1
  refine rldc2 C (v := (-9223372036854775808)) k_RX9_138 dX9_belief_29 ?_
  have h := Option.some.inj h
  subst h
  exact retL C hH dX9_belief_32
set_option maxHeartbeats 2000000 in
set_option maxRecDepth 20000 in
theorem mX9_belief (l : Launch) {D : va_G} {ca : Nat → ClassId} {A : Nat → Prop} {ad : Nat → Nat} {v1 : Int32} {v2 : Int32} {v3 : Int32} {v4 : Int32} {mm : Mm} {q : Int64 × Mm} (h : dX9_belief v1 v2 v3 v4 mm = some q) : Met l yX9_belief (wsOf yX9_belief cX9_belief 5 (some .long)) (rmk 6) (PcX WN ad ca WS D A [.ref (ad 0), .int v1, .int v2, .int v3, .int v4] mm) (QcL WN ad ca WS D A q) 0 0 A := by
  unfold dX9_belief at h
  refine ent (by decide) (Nat.le_of_ble_eq_true rfl) (fun p e s m args below meth c hargs C hH ls hl => ?_)
  have hx := C.1
  have hb := C.2.1
  have hl : lv_has ls 5 [(0, .ref (ad 0)), (1, .int v1), (2, .int v2), (3, .int v3), (4, .int v4)] := hl
  refine lv_aload_n hx hb dX9_belief_0 rfl (lv_at hl 0 rfl) ?_
  refine rgS C hH fs_RX9_10_0 dX9_belief_1 ?_
  refine lv_iconst (v := 0) hx hb dX9_belief_4 (by decide) ?_
  refine lv_iload_n hx hb dX9_belief_5 rfl (lv_at hl 3 rfl) ?_
  obtain ⟨q6, e6, h⟩ := tB h
  refine rcI C hH hl.1 (mX7_holds l e6) cf_RX9_67 ro_1 (RR_of (by decide) (by decide)) rfl (rest := []) rfl (Nat.le_of_ble_eq_true rfl) dX9_belief_6 ?_
  intro hz6 H locs hH
  refine lv_if_eq (tgt := 29) hx hb dX9_belief_9 (by decide) (fun hc9 => ?_) (fun hc9 => ?_)
  · replace h := tT hc9 h
    exact wX9_belief_29 C h hH (lv_sub hl [] rfl)
  · replace h := tF hc9 h
    refine lv_iload hx hb dX9_belief_12 (lv_at hl 4 rfl) ?_
    obtain ⟨q14, e14, h⟩ := tB h
    refine rsI C hH hl.1 (mX9_isPart l e14) cs_RX9_130 (RR_of (by decide) (by decide)) rfl (rest := []) rfl (Nat.le_of_ble_eq_true rfl) dX9_belief_14 ?_
    intro hz14 H locs hH
    refine lv_if_eq (tgt := 29) hx hb dX9_belief_17 (by decide) (fun hc17 => ?_) (fun hc17 => ?_)
    · replace h := tT hc17 h
      exact wX9_belief_29 C h hH (lv_sub hl [] rfl)
    · replace h := tF hc17 h
      refine lv_aload_n hx hb dX9_belief_20 rfl (lv_at hl 0 rfl) ?_
      refine lv_iload_n hx hb dX9_belief_21 rfl (lv_at hl 1 rfl) ?_
      refine lv_iload_n hx hb dX9_belief_22 rfl (lv_at hl 2 rfl) ?_
      obtain ⟨q23, e23, h⟩ := tB h
      refine rcI C hH hl.1 (mX9_looksRefusal l e23) cf_RX9_133 ro_0 (RR_of (by decide) (by decide)) rfl (rest := []) rfl (Nat.le_of_ble_eq_true rfl) dX9_belief_23 ?_
      intro hz23 H locs hH
      refine lv_if_eq (tgt := 33) hx hb dX9_belief_26 (by decide) (fun hc26 => ?_) (fun hc26 => ?_)
      · replace h := tT hc26 h
        refine lv_aload_n hx hb dX9_belief_33 rfl (lv_at hl 0 rfl) ?_
        refine rgS C hH fs_RX9_28_0 dX9_belief_34 ?_
        refine lv_aload_n hx hb dX9_belief_37 rfl (lv_at hl 0 rfl) ?_
        refine rgS C hH fs_RX9_62_0 dX9_belief_38 ?_
        refine lv_iload_n hx hb dX9_belief_41 rfl (lv_at hl 1 rfl) ?_
        obtain ⟨hi42, h⟩ := tC h
        refine raS C hH (o := 37) (k := (Int32.toNatClampNeg v1)) (by decide) (show WS 37 = .inr (4, 6, 38) from rfl) hi42 rfl dX9_belief_42 ?_
        refine lv_iload_n hx hb dX9_belief_43 rfl (lv_at hl 2 rfl) ?_
        refine lv_bipush (v := 10) hx hb dX9_belief_44 (by decide) ?_
        refine lv_idiv hx hb dX9_belief_46 (by decide) ?_
        refine lv_iload_n hx hb dX9_belief_47 rfl (lv_at hl 2 rfl) ?_
        refine lv_bipush (v := 10) hx hb dX9_belief_48 (by decide) ?_
        refine lv_irem' hx hb dX9_belief_50 (by decide) ?_
        obtain ⟨q51, e51, h⟩ := tB h
        refine rcV C hH hl.1 (mX0_weigh l e51) cf_RX9_140 ro_17 (RR_of (by decide) (by decide)) rfl (rest := []) rfl (Nat.le_of_ble_eq_true rfl) dX9_belief_51 ?_
        intro H locs hH
        refine lv_aload_n hx hb dX9_belief_54 rfl (lv_at hl 0 rfl) ?_
        refine rgS C hH fs_RX9_28_0 dX9_belief_55 ?_
        refine lv_iload_n hx hb dX9_belief_58 rfl (lv_at hl 3 rfl) ?_
        obtain ⟨q59, e59, h⟩ := tB h
        refine rcL C hH hl.1 (mX0_weight l e59) cf_RX9_144 ro_17 (RR_of (by decide) (by decide)) rfl (rest := []) rfl (Nat.le_of_ble_eq_true rfl) dX9_belief_59 ?_
        intro H locs hH
        refine lv_aload_n hx hb dX9_belief_62 rfl (lv_at hl 0 rfl) ?_
        refine rgS C hH fs_RX9_28_0 dX9_belief_63 ?_
        obtain ⟨q66, e66, h⟩ := tB h
        refine rcL C hH hl.1 (mX0_total l e66) cf_RX9_148 ro_17 (RR_of (by decide) (by decide)) rfl (rest := [.long q59.1]) rfl (Nat.le_of_ble_eq_true rfl) dX9_belief_66 ?_
        intro H locs hH
        refine lv_iload hx hb dX9_belief_69 (lv_at hl 4 rfl) ?_
        obtain ⟨q71, e71, h⟩ := tB h
        refine rsL C hH hl.1 (mX9_reduced l e71) cs_RX9_152 (RR_of (by decide) (by decide)) rfl (rest := []) rfl (Nat.le_of_ble_eq_true rfl) dX9_belief_71 ?_
        intro H locs hH
        have h := Option.some.inj h
        subst h
        exact retL C hH dX9_belief_74
      · replace h := tF hc26 h
        exact wX9_belief_29 C h hH (lv_sub hl [] rfl)
set_option maxHeartbeats 2000000 in
set_option maxRecDepth 20000 in
theorem mX10_bytesIs (l : Launch) {D : va_G} {ca : Nat → ClassId} {A : Nat → Prop} {ad : Nat → Nat} {v1 : Int32} {mm : Mm} {q : Int32 × Mm} (h : dX10_bytesIs v1 mm = some q) : Met l yX10_bytesIs (wsOf yX10_bytesIs cX10_bytesIs 2 (some .int)) (rmk 3) (PcX WN ad ca WS D A [.ref (ad 58), .int v1] mm) (QcI WN ad ca WS D A pzT q) 0 0 A := by
  unfold dX10_bytesIs at h
  refine ent (by decide) (Nat.le_of_ble_eq_true rfl) (fun p e s m args below meth c hargs C hH ls hl => ?_)
  have hx := C.1
  have hb := C.2.1
  have hl : lv_has ls 2 [(0, .ref (ad 58)), (1, .int v1)] := hl
  refine lv_iload_n hx hb dX10_bytesIs_0 rfl (lv_at hl 1 rfl) ?_
  obtain ⟨q1, e1, h⟩ := tB h
  refine rsI C hH hl.1 (mX10_isShelf l e1) cs_RX10_114 (RR_of (by decide) (by decide)) rfl (rest := []) rfl (Nat.le_of_ble_eq_true rfl) dX10_bytesIs_1 ?_
  intro hz1 H locs hH
  refine lv_if_ne (tgt := 11) hx hb dX10_bytesIs_4 (by decide) (fun hc4 => ?_) (fun hc4 => ?_)
  · replace h := tF hc4 h
    refine lv_aload_n hx hb dX10_bytesIs_11 rfl (lv_at hl 0 rfl) ?_
    refine rgS C hH fs_RX10_72_58 dX10_bytesIs_12 ?_
    refine lv_iload_n hx hb dX10_bytesIs_15 rfl (lv_at hl 1 rfl) ?_
    obtain ⟨hi16, h⟩ := tC h
    refine raI C hH (k := (Int32.toNatClampNeg v1)) (by decide) (show WS 79 = .inr (0, 6, 0) from rfl) hi16 rfl dX10_bytesIs_16 ?_
    refine lv_if_ge (tgt := 25) hx hb dX10_bytesIs_17 (by decide) (fun hc17 => ?_) (fun hc17 => ?_)
    · replace h := tT hc17 h
      refine lv_aload_n hx hb dX10_bytesIs_25 rfl (lv_at hl 0 rfl) ?_
      refine rgS C hH fs_RX10_72_58 dX10_bytesIs_26 ?_
      refine lv_iload_n hx hb dX10_bytesIs_29 rfl (lv_at hl 1 rfl) ?_
      obtain ⟨hi30, h⟩ := tC h
      refine raI C hH (k := (Int32.toNatClampNeg v1)) (by decide) (show WS 79 = .inr (0, 6, 0) from rfl) hi30 rfl dX10_bytesIs_30 ?_
      refine lv_bipush (v := 50) hx hb dX10_bytesIs_31 (by decide) ?_
      refine lv_icmp_ne (tgt := 40) hx hb dX10_bytesIs_33 (by decide) (fun hc33 => ?_) (fun hc33 => ?_)
      · replace h := tF hc33 h
        refine lv_bipush (v := (-12)) hx hb dX10_bytesIs_40 (by decide) ?_
        have h := Option.some.inj h
        subst h
        exact retI C hH trivial dX10_bytesIs_42
      · replace h := tT hc33 h
        refine lv_iconst (v := 1) hx hb dX10_bytesIs_36 (by decide) ?_
        refine lv_goto (tgt := 42) hx hb dX10_bytesIs_37 (by decide) ?_
        have h := Option.some.inj h
        subst h
        exact retI C hH trivial dX10_bytesIs_42
    · replace h := tF hc17 h
      refine lv_bipush (v := (-11)) hx hb dX10_bytesIs_20 (by decide) ?_
      refine lv_goto (tgt := 42) hx hb dX10_bytesIs_22 (by decide) ?_
      have h := Option.some.inj h
      subst h
      exact retI C hH trivial dX10_bytesIs_42
  · replace h := tT hc4 h
    refine lv_iconst (v := (-1)) hx hb dX10_bytesIs_7 (by decide) ?_
    refine lv_goto (tgt := 42) hx hb dX10_bytesIs_8 (by decide) ?_
    have h := Option.some.inj h
    subst h
    exact retI C hH trivial dX10_bytesIs_42
set_option maxHeartbeats 2000000 in
set_option maxRecDepth 20000 in
theorem wX10_isBs_32 (C : Cx D ca A p s m args meth c cX10_isBs RX10 2 (some .boolean)) {q : Int32 × Mm} {mm : Mm} (h : DX10_isBs_32 mm = some q) (hH : Hx WN ad ca WS D A s.heap mm H locs) (hl : lv_has ls 2 []) : W p l e (rmk 3) s m args below meth c H locs 0 0 (MQ below (QcI WN ad ca WS D A pzZ q) args s 0 0 A) (F0 m 32 ls []) := by
  unfold DX10_isBs_32 at h
  have hx := C.1
  have hb := C.2.1
  refine lv_iconst (v := 0) hx hb dX10_isBs_32 (by decide) ?_
  have h := Option.some.inj h
  subst h
  exact retZ C hH (Or.inl rfl) dX10_isBs_33
set_option maxHeartbeats 2000000 in
set_option maxRecDepth 20000 in
theorem mX10_isBs (l : Launch) {D : va_G} {ca : Nat → ClassId} {A : Nat → Prop} {ad : Nat → Nat} {v1 : Int32} {mm : Mm} {q : Int32 × Mm} (h : dX10_isBs v1 mm = some q) : Met l yX10_isBs (wsOf yX10_isBs cX10_isBs 2 (some .boolean)) (rmk 3) (PcX WN ad ca WS D A [.ref (ad 58), .int v1] mm) (QcI WN ad ca WS D A pzZ q) 0 0 A := by
  unfold dX10_isBs at h
  refine ent (by decide) (Nat.le_of_ble_eq_true rfl) (fun p e s m args below meth c hargs C hH ls hl => ?_)
  have hx := C.1
  have hb := C.2.1
  have hl : lv_has ls 2 [(0, .ref (ad 58)), (1, .int v1)] := hl
  refine lv_iload_n hx hb dX10_isBs_0 rfl (lv_at hl 1 rfl) ?_
  refine lv_if_lt (tgt := 32) hx hb dX10_isBs_1 (by decide) (fun hc1 => ?_) (fun hc1 => ?_)
  · replace h := tT hc1 h
    exact wX10_isBs_32 C h hH (lv_sub hl [] rfl)
  · replace h := tF hc1 h
    refine lv_aload_n hx hb dX10_isBs_4 rfl (lv_at hl 0 rfl) ?_
    refine lv_iload_n hx hb dX10_isBs_5 rfl (lv_at hl 1 rfl) ?_
    refine lv_bipush (v := 10) hx hb dX10_isBs_6 (by decide) ?_
    refine lv_idiv hx hb dX10_isBs_8 (by decide) ?_
    refine lv_i2l' hx hb dX10_isBs_9 ?_
    obtain ⟨q10, e10, h⟩ := tB h
    refine rcI C hH hl.1 (mX10_isBuyer l e10) cf_RX10_135 ro_58 (RR_of (by decide) (by decide)) rfl (rest := []) rfl (Nat.le_of_ble_eq_true rfl) dX10_isBs_10 ?_
    intro hz10 H locs hH
    refine lv_if_eq (tgt := 32) hx hb dX10_isBs_13 (by decide) (fun hc13 => ?_) (fun hc13 => ?_)
    · replace h := tT hc13 h
      exact wX10_isBs_32 C h hH (lv_sub hl [] rfl)
    · replace h := tF hc13 h
      refine lv_aload_n hx hb dX10_isBs_16 rfl (lv_at hl 0 rfl) ?_
      refine lv_iload_n hx hb dX10_isBs_17 rfl (lv_at hl 1 rfl) ?_
      refine lv_bipush (v := 10) hx hb dX10_isBs_18 (by decide) ?_
      refine lv_irem' hx hb dX10_isBs_20 (by decide) ?_
      refine lv_i2l' hx hb dX10_isBs_21 ?_
      obtain ⟨q22, e22, h⟩ := tB h
      refine rcI C hH hl.1 (mX10_isSack l e22) cf_RX10_130 ro_58 (RR_of (by decide) (by decide)) rfl (rest := []) rfl (Nat.le_of_ble_eq_true rfl) dX10_isBs_22 ?_
      intro hz22 H locs hH
      refine lv_if_eq (tgt := 32) hx hb dX10_isBs_25 (by decide) (fun hc25 => ?_) (fun hc25 => ?_)
      · replace h := tT hc25 h
        exact wX10_isBs_32 C h hH (lv_sub hl [] rfl)
      · replace h := tF hc25 h
        refine lv_iconst (v := 1) hx hb dX10_isBs_28 (by decide) ?_
        refine lv_goto (tgt := 33) hx hb dX10_isBs_29 (by decide) ?_
        have h := Option.some.inj h
        subst h
        exact retZ C hH (Or.inr rfl) dX10_isBs_33
set_option maxHeartbeats 2000000 in
set_option maxRecDepth 20000 in
theorem mX10_chance (l : Launch) {D : va_G} {ca : Nat → ClassId} {A : Nat → Prop} {ad : Nat → Nat} {v1 : Int32} {v2 : Int32} {v3 : Int32} {v4 : Int64} {mm : Mm} {q : Int64 × Mm} (h : dX10_chance v1 v2 v3 v4 mm = some q) : Met l yX10_chance (wsOf yX10_chance cX10_chance 7 (some .long)) (rmk 1) (PcX WN ad ca WS D A [.ref (ad 58), .int v1, .int v2, .int v3, .long v4] mm) (QcL WN ad ca WS D A q) 0 0 A := by
  unfold dX10_chance at h
  refine ent (by decide) (Nat.le_of_ble_eq_true rfl) (fun p e s m args below meth c hargs C hH ls hl => ?_)
  have hx := C.1
  have hb := C.2.1
  have hl : lv_has ls 7 [(0, .ref (ad 58)), (1, .int v1), (2, .int v2), (3, .int v3), (4, .long v4)] := hl
  refine lv_aload_n hx hb dX10_chance_0 rfl (lv_at hl 0 rfl) ?_
  refine rgS C hH fs_RX10_9_58 dX10_chance_1 ?_
  refine lv_bipush (v := 56) hx hb dX10_chance_4 (by decide) ?_
  refine lv_iload_n hx hb dX10_chance_6 rfl (lv_at hl 1 rfl) ?_
  refine lv_iadd hx hb dX10_chance_7 ?_
  obtain ⟨hi8, h⟩ := tC h
  refine raI C hH (k := (Int32.toNatClampNeg (56 + v1))) (by decide) (show WS 59 = .inr (0, 62, 0) from rfl) hi8 rfl dX10_chance_8 ?_
  refine lv_istore (lv' := [(6, .int (gI mm 59 (Int32.toNatClampNeg (56 + v1)))), (0, .ref (ad 58)), (1, .int v1), (2, .int v2), (3, .int v3), (4, .long v4)]) hx hb dX10_chance_9 hl (by decide) rfl (fun ls hl => ?_)
  refine lv_aload_n hx hb dX10_chance_11 rfl (lv_at hl 1 rfl) ?_
  refine rgS C hH fs_RX10_9_58 dX10_chance_12 ?_
  refine lv_bipush (v := 6) hx hb dX10_chance_15 (by decide) ?_
  refine lv_bipush (v := 6) hx hb dX10_chance_17 (by decide) ?_
  refine lv_iload_n hx hb dX10_chance_19 rfl (lv_at hl 4 rfl) ?_
  refine lv_imul hx hb dX10_chance_20 ?_
  refine lv_iadd hx hb dX10_chance_21 ?_
  refine lv_iload_n hx hb dX10_chance_22 rfl (lv_at hl 3 rfl) ?_
  refine lv_iadd hx hb dX10_chance_23 ?_
  obtain ⟨hi24, h⟩ := tC h
  refine raI C hH (k := (Int32.toNatClampNeg ((6 + (6 * v3)) + v2))) (by decide) (show WS 59 = .inr (0, 62, 0) from rfl) hi24 rfl dX10_chance_24 ?_
  refine lv_i2l' hx hb dX10_chance_25 ?_
  refine lv_lload hx hb dX10_chance_26 (lv_at hl 5 rfl) ?_
  refine lc_ne (tgt := 40) hx hb dX10_chance_28 dX10_chance_29 (by decide) (fun hc29 => ?_) (fun hc29 => ?_)
  · replace h := tF hc29 h
    refine lv_bipush (v := 12) hx hb dX10_chance_40 (by decide) ?_
    refine lv_iload hx hb dX10_chance_42 (lv_at hl 0 rfl) ?_
    refine lv_isub hx hb dX10_chance_44 ?_
    refine lv_i2l' hx hb dX10_chance_45 ?_
    have h := Option.some.inj h
    subst h
    exact retL C hH dX10_chance_46
  · replace h := tT hc29 h
    refine lv_iconst (v := 3) hx hb dX10_chance_32 (by decide) ?_
    refine lv_iload hx hb dX10_chance_33 (lv_at hl 0 rfl) ?_
    refine lv_imul hx hb dX10_chance_35 ?_
    refine lv_i2l' hx hb dX10_chance_36 ?_
    refine lv_goto (tgt := 46) hx hb dX10_chance_37 (by decide) ?_
    have h := Option.some.inj h
    subst h
    exact retL C hH dX10_chance_46
set_option maxHeartbeats 2000000 in
set_option maxRecDepth 20000 in
theorem wX10_weighs_241 (C : Cx D ca A p s m args meth c cX10_weighs RX10 8 none) {q : Unit × Mm} {k74 : Int32 → Int32 → Int32 → Int32 → Int32 → Mm → Option (Unit × Mm)} (hk74 : ∀ (v1 : Int32) (v2 : Int32) (v3 : Int32) (v4 : Int32) (v5 : Int32) (mm : Mm), k74 v1 v2 v3 v4 v5 mm = some q → ∀ (H : Heap) (locs : List Loc) (ls : Array Slot), Hx WN ad ca WS D A s.heap mm H locs → lv_has ls 8 [(0, .ref (ad 58)), (1, .int v1), (2, .int v2), (3, .int v3), (4, .int v4), (5, .int v5)] → W p l e (rmk 3) s m args below meth c H locs 0 0 (MQ below (QcV WN ad ca WS D A q) args s 0 0 A) (F0 m 74 ls [])) {v1 : Int32} {v2 : Int32} {v3 : Int32} {v4 : Int32} {v5 : Int32} {mm : Mm} (h : DX10_weighs_241 k74 v1 v2 v3 v4 v5 mm = some q) (hH : Hx WN ad ca WS D A s.heap mm H locs) (hl : lv_has ls 8 [(0, .ref (ad 58)), (1, .int v1), (2, .int v2), (3, .int v3), (4, .int v4), (5, .int v5)]) : W p l e (rmk 3) s m args below meth c H locs 0 0 (MQ below (QcV WN ad ca WS D A q) args s 0 0 A) (F0 m 241 ls []) := by
  unfold DX10_weighs_241 at h
  have hx := C.1
  have hb := C.2.1
  refine lv_iinc (v := (v5 + 1)) (lv' := [(5, .int (v5 + 1)), (0, .ref (ad 58)), (1, .int v1), (2, .int v2), (3, .int v3), (4, .int v4)]) hx hb dX10_weighs_241 hl (k := 5) rfl rfl (by decide) rfl (fun ls hl => ?_)
  refine lv_goto (tgt := 74) hx hb dX10_weighs_244 (by decide) ?_
  exact hk74 _ _ _ _ _ _ h _ _ _ hH (lv_sub hl [1, 2, 3, 4, 5, 0] rfl)
set_option maxHeartbeats 2000000 in
set_option maxRecDepth 20000 in
theorem wbX10_weighs_174 (C : Cx D ca A p s m args meth c cX10_weighs RX10 8 none) {q : Unit × Mm} {k74 : Int32 → Int32 → Int32 → Int32 → Int32 → Mm → Option (Unit × Mm)} (hk74 : ∀ (v1 : Int32) (v2 : Int32) (v3 : Int32) (v4 : Int32) (v5 : Int32) (mm : Mm), k74 v1 v2 v3 v4 v5 mm = some q → ∀ (H : Heap) (locs : List Loc) (ls : Array Slot), Hx WN ad ca WS D A s.heap mm H locs → lv_has ls 8 [(0, .ref (ad 58)), (1, .int v1), (2, .int v2), (3, .int v3), (4, .int v4), (5, .int v5)] → W p l e (rmk 3) s m args below meth c H locs 0 0 (MQ below (QcV WN ad ca WS D A q) args s 0 0 A) (F0 m 74 ls [])) {k174 : Int32 → Int32 → Int32 → Int32 → Int32 → Int32 → Int32 → Mm → Option (Unit × Mm)} (hk174 : ∀ (v1 : Int32) (v2 : Int32) (v3 : Int32) (v4 : Int32) (v5 : Int32) (v6 : Int32) (v7 : Int32) (mm : Mm), k174 v1 v2 v3 v4 v5 v6 v7 mm = some q → ∀ (H : Heap) (locs : List Loc) (ls : Array Slot), Hx WN ad ca WS D A s.heap mm H locs → lv_has ls 8 [(0, .ref (ad 58)), (1, .int v1), (2, .int v2), (3, .int v3), (4, .int v4), (5, .int v5), (6, .int v6), (7, .int v7)] → W p l e (rmk 3) s m args below meth c H locs 0 0 (MQ below (QcV WN ad ca WS D A q) args s 0 0 A) (F0 m 174 ls [])) {v1 : Int32} {v2 : Int32} {v3 : Int32} {v4 : Int32} {v5 : Int32} {v6 : Int32} {v7 : Int32} {mm : Mm} (h : BX10_weighs_174 k74 k174 v1 v2 v3 v4 v5 v6 v7 mm = some q) (hH : Hx WN ad ca WS D A s.heap mm H locs) (hl : lv_has ls 8 [(0, .ref (ad 58)), (1, .int v1), (2, .int v2), (3, .int v3), (4, .int v4), (5, .int v5), (6, .int v6), (7, .int v7)]) : W p l e (rmk 3) s m args below meth c H locs 0 0 (MQ below (QcV WN ad ca WS D A q) args s 0 0 A) (F0 m 174 ls []) := by
  unfold BX10_weighs_174 at h
  have hx := C.1
  have hb := C.2.1
  refine lv_iload hx hb dX10_weighs_174 (lv_at hl 7 rfl) ?_
  refine lv_bipush (v := 6) hx hb dX10_weighs_176 (by decide) ?_
  refine lv_icmp_ge (tgt := 241) hx hb dX10_weighs_178 (by decide) (fun hc178 => ?_) (fun hc178 => ?_)
  · replace h := tT hc178 h
    exact wX10_weighs_241 C hk74 h hH (lv_sub hl [0, 1, 2, 3, 4, 5] rfl)
  · replace h := tF hc178 h
    refine lv_iload hx hb dX10_weighs_181 (lv_at hl 4 rfl) ?_
    refine lv_if_eq (tgt := 241) hx hb dX10_weighs_183 (by decide) (fun hc183 => ?_) (fun hc183 => ?_)
    · replace h := tT hc183 h
      exact wX10_weighs_241 C hk74 h hH (lv_sub hl [0, 1, 2, 3, 4, 5] rfl)
    · replace h := tF hc183 h
      refine lv_aload_n hx hb dX10_weighs_186 rfl (lv_at hl 0 rfl) ?_
      refine rgS C hH fs_RX10_78_58 dX10_weighs_187 ?_
      refine lv_iload hx hb dX10_weighs_190 (lv_at hl 6 rfl) ?_
      obtain ⟨hi192, h⟩ := tC h
      refine raL C hH (k := (Int32.toNatClampNeg v6)) (by decide) (show WS 81 = .inr (3, 360, 0) from rfl) hi192 rfl dX10_weighs_192 ?_
      refine lv_iload_n hx hb dX10_weighs_193 rfl (lv_at hl 3 rfl) ?_
      refine lv_i2l' hx hb dX10_weighs_194 ?_
      refine lc_ne (tgt := 241) hx hb dX10_weighs_195 dX10_weighs_196 (by decide) (fun hc196 => ?_) (fun hc196 => ?_)
      · replace h := tF hc196 h
        exact wX10_weighs_241 C hk74 h hH (lv_sub hl [0, 1, 2, 3, 4, 5] rfl)
      · replace h := tT hc196 h
        refine lv_aload_n hx hb dX10_weighs_199 rfl (lv_at hl 0 rfl) ?_
        refine rgS C hH fs_RX10_38_58 dX10_weighs_200 ?_
        refine lv_iload hx hb dX10_weighs_203 (lv_at hl 7 rfl) ?_
        refine lv_dup2_11 hx hb dX10_weighs_205 rfl rfl ?_
        obtain ⟨hi206, h⟩ := tC h
        refine raL C hH (k := (Int32.toNatClampNeg v7)) (by decide) (show WS 68 = .inr (3, 6, 0) from rfl) hi206 rfl dX10_weighs_206 ?_
        refine lv_aload_n hx hb dX10_weighs_207 rfl (lv_at hl 0 rfl) ?_
        refine lv_iload_n hx hb dX10_weighs_208 rfl (lv_at hl 2 rfl) ?_
        refine lv_iload hx hb dX10_weighs_209 (lv_at hl 7 rfl) ?_
        refine lv_aload_n hx hb dX10_weighs_211 rfl (lv_at hl 0 rfl) ?_
        refine rgS C hH fs_RX10_78_58 dX10_weighs_212 ?_
        refine lv_iload hx hb dX10_weighs_215 (lv_at hl 6 rfl) ?_
        refine lv_iconst (v := 1) hx hb dX10_weighs_217 (by decide) ?_
        refine lv_iadd hx hb dX10_weighs_218 ?_
        obtain ⟨hi219, h⟩ := tC h
        refine raL C hH (k := (Int32.toNatClampNeg (v6 + 1))) (by decide) (show WS 81 = .inr (3, 360, 0) from rfl) hi219 rfl dX10_weighs_219 ?_
        refine lv_l2i' hx hb dX10_weighs_220 ?_
        refine lv_aload_n hx hb dX10_weighs_221 rfl (lv_at hl 0 rfl) ?_
        refine rgS C hH fs_RX10_78_58 dX10_weighs_222 ?_
        refine lv_iload hx hb dX10_weighs_225 (lv_at hl 6 rfl) ?_
        refine lv_iconst (v := 2) hx hb dX10_weighs_227 (by decide) ?_
        refine lv_iadd hx hb dX10_weighs_228 ?_
        obtain ⟨hi229, h⟩ := tC h
        refine raL C hH (k := (Int32.toNatClampNeg (v6 + 2))) (by decide) (show WS 81 = .inr (3, 360, 0) from rfl) hi229 rfl dX10_weighs_229 ?_
        obtain ⟨q230, e230, h⟩ := tB h
        refine rcL C hH hl.1 (mX10_chance l e230) cf_RX10_213 ro_58 (RR_of (by decide) (by decide)) rfl (rest := [.long (gL mm 68 (Int32.toNatClampNeg v7)), .int v7, .ref (ad 68)]) rfl (Nat.le_of_ble_eq_true rfl) dX10_weighs_230 ?_
        intro H locs hH
        refine lv_lmul hx hb dX10_weighs_233 ?_
        obtain ⟨hi234, h⟩ := tC h
        refine rwL C hH (k := (Int32.toNatClampNeg v7)) (by decide) (show WS 68 = .inr (3, 6, 0) from rfl) hi234 rfl dX10_weighs_234 (fun H locs hH => ?_)
        refine lv_iinc (v := (v7 + 1)) (lv' := [(7, .int (v7 + 1)), (0, .ref (ad 58)), (1, .int v1), (2, .int v2), (3, .int v3), (4, .int v4), (5, .int v5), (6, .int v6)]) hx hb dX10_weighs_235 hl (k := 7) rfl rfl (by decide) rfl (fun ls hl => ?_)
        refine lv_goto (tgt := 174) hx hb dX10_weighs_238 (by decide) ?_
        exact hk174 _ _ _ _ _ _ _ _ h _ _ _ hH (lv_sub hl [1, 2, 3, 4, 5, 6, 7, 0] rfl)
set_option maxHeartbeats 2000000 in
set_option maxRecDepth 20000 in
theorem wX10_weighs_174 (C : Cx D ca A p s m args meth c cX10_weighs RX10 8 none) {q : Unit × Mm} {k74 : Int32 → Int32 → Int32 → Int32 → Int32 → Mm → Option (Unit × Mm)} (hk74 : ∀ (v1 : Int32) (v2 : Int32) (v3 : Int32) (v4 : Int32) (v5 : Int32) (mm : Mm), k74 v1 v2 v3 v4 v5 mm = some q → ∀ (H : Heap) (locs : List Loc) (ls : Array Slot), Hx WN ad ca WS D A s.heap mm H locs → lv_has ls 8 [(0, .ref (ad 58)), (1, .int v1), (2, .int v2), (3, .int v3), (4, .int v4), (5, .int v5)] → W p l e (rmk 3) s m args below meth c H locs 0 0 (MQ below (QcV WN ad ca WS D A q) args s 0 0 A) (F0 m 74 ls [])) : ∀ (N : Nat) (v1 : Int32) (v2 : Int32) (v3 : Int32) (v4 : Int32) (v5 : Int32) (v6 : Int32) (v7 : Int32) (mm : Mm), DX10_weighs_174 k74 N v1 v2 v3 v4 v5 v6 v7 mm = some q → ∀ (H : Heap) (locs : List Loc) (ls : Array Slot), Hx WN ad ca WS D A s.heap mm H locs → lv_has ls 8 [(0, .ref (ad 58)), (1, .int v1), (2, .int v2), (3, .int v3), (4, .int v4), (5, .int v5), (6, .int v6), (7, .int v7)] → W p l e (rmk 3) s m args below meth c H locs 0 0 (MQ below (QcV WN ad ca WS D A q) args s 0 0 A) (F0 m 174 ls []) := by
  intro N
  induction N with
  | zero =>
    intro v1 v2 v3 v4 v5 v6 v7 mm h
    have h2 : (none : Option (Unit × Mm)) = some q := h
    cases h2
  | succ N ih =>
    intro v1 v2 v3 v4 v5 v6 v7 mm h H locs ls hH hl
    exact wbX10_weighs_174 C hk74 ih h hH hl
set_option maxHeartbeats 2000000 in
set_option maxRecDepth 20000 in
theorem wX10_weighs_169 (C : Cx D ca A p s m args meth c cX10_weighs RX10 8 none) {q : Unit × Mm} {k74 : Int32 → Int32 → Int32 → Int32 → Int32 → Mm → Option (Unit × Mm)} (hk74 : ∀ (v1 : Int32) (v2 : Int32) (v3 : Int32) (v4 : Int32) (v5 : Int32) (mm : Mm), k74 v1 v2 v3 v4 v5 mm = some q → ∀ (H : Heap) (locs : List Loc) (ls : Array Slot), Hx WN ad ca WS D A s.heap mm H locs → lv_has ls 8 [(0, .ref (ad 58)), (1, .int v1), (2, .int v2), (3, .int v3), (4, .int v4), (5, .int v5)] → W p l e (rmk 3) s m args below meth c H locs 0 0 (MQ below (QcV WN ad ca WS D A q) args s 0 0 A) (F0 m 74 ls [])) {v1 : Int32} {v2 : Int32} {v3 : Int32} {v5 : Int32} {v6 : Int32} {s0 : Int32} {mm : Mm} (h : DX10_weighs_169 k74 v1 v2 v3 v5 v6 s0 mm = some q) (hH : Hx WN ad ca WS D A s.heap mm H locs) (hl : lv_has ls 8 [(0, .ref (ad 58)), (1, .int v1), (2, .int v2), (3, .int v3), (5, .int v5), (6, .int v6)]) : W p l e (rmk 3) s m args below meth c H locs 0 0 (MQ below (QcV WN ad ca WS D A q) args s 0 0 A) (F0 m 169 ls [.int s0]) := by
  unfold DX10_weighs_169 at h
  have hx := C.1
  have hb := C.2.1
  refine lv_istore (lv' := [(4, .int s0), (0, .ref (ad 58)), (1, .int v1), (2, .int v2), (3, .int v3), (5, .int v5), (6, .int v6)]) hx hb dX10_weighs_169 hl (by decide) rfl (fun ls hl => ?_)
  refine lv_iconst (v := 0) hx hb dX10_weighs_171 (by decide) ?_
  refine lv_istore (lv' := [(7, .int 0), (4, .int s0), (0, .ref (ad 58)), (1, .int v1), (2, .int v2), (3, .int v3), (5, .int v5), (6, .int v6)]) hx hb dX10_weighs_172 hl (by decide) rfl (fun ls hl => ?_)
  exact wX10_weighs_174 C hk74 FU _ _ _ _ _ _ _ _ h _ _ _ hH (lv_sub hl [2, 3, 4, 5, 1, 6, 7, 0] rfl)
set_option maxHeartbeats 2000000 in
set_option maxRecDepth 20000 in
theorem wX10_weighs_168 (C : Cx D ca A p s m args meth c cX10_weighs RX10 8 none) {q : Unit × Mm} {k74 : Int32 → Int32 → Int32 → Int32 → Int32 → Mm → Option (Unit × Mm)} (hk74 : ∀ (v1 : Int32) (v2 : Int32) (v3 : Int32) (v4 : Int32) (v5 : Int32) (mm : Mm), k74 v1 v2 v3 v4 v5 mm = some q → ∀ (H : Heap) (locs : List Loc) (ls : Array Slot), Hx WN ad ca WS D A s.heap mm H locs → lv_has ls 8 [(0, .ref (ad 58)), (1, .int v1), (2, .int v2), (3, .int v3), (4, .int v4), (5, .int v5)] → W p l e (rmk 3) s m args below meth c H locs 0 0 (MQ below (QcV WN ad ca WS D A q) args s 0 0 A) (F0 m 74 ls [])) {v1 : Int32} {v2 : Int32} {v3 : Int32} {v5 : Int32} {v6 : Int32} {mm : Mm} (h : DX10_weighs_168 k74 v1 v2 v3 v5 v6 mm = some q) (hH : Hx WN ad ca WS D A s.heap mm H locs) (hl : lv_has ls 8 [(0, .ref (ad 58)), (1, .int v1), (2, .int v2), (3, .int v3), (5, .int v5), (6, .int v6)]) : W p l e (rmk 3) s m args below meth c H locs 0 0 (MQ below (QcV WN ad ca WS D A q) args s 0 0 A) (F0 m 168 ls []) := by
  unfold DX10_weighs_168 at h
  have hx := C.1
  have hb := C.2.1
  refine lv_iconst (v := 0) hx hb dX10_weighs_168 (by decide) ?_
  exact wX10_weighs_169 C hk74 h hH (lv_sub hl [0, 1, 2, 3, 4, 5] rfl)
set_option maxHeartbeats 2000000 in
set_option maxRecDepth 20000 in
theorem wbX10_weighs_74 (C : Cx D ca A p s m args meth c cX10_weighs RX10 8 none) {q : Unit × Mm} {k74 : Int32 → Int32 → Int32 → Int32 → Int32 → Mm → Option (Unit × Mm)} (hk74 : ∀ (v1 : Int32) (v2 : Int32) (v3 : Int32) (v4 : Int32) (v5 : Int32) (mm : Mm), k74 v1 v2 v3 v4 v5 mm = some q → ∀ (H : Heap) (locs : List Loc) (ls : Array Slot), Hx WN ad ca WS D A s.heap mm H locs → lv_has ls 8 [(0, .ref (ad 58)), (1, .int v1), (2, .int v2), (3, .int v3), (4, .int v4), (5, .int v5)] → W p l e (rmk 3) s m args below meth c H locs 0 0 (MQ below (QcV WN ad ca WS D A q) args s 0 0 A) (F0 m 74 ls [])) {v1 : Int32} {v2 : Int32} {v3 : Int32} {v4 : Int32} {v5 : Int32} {mm : Mm} (h : BX10_weighs_74 k74 v1 v2 v3 v4 v5 mm = some q) (hH : Hx WN ad ca WS D A s.heap mm H locs) (hl : lv_has ls 8 [(0, .ref (ad 58)), (1, .int v1), (2, .int v2), (3, .int v3), (4, .int v4), (5, .int v5)]) : W p l e (rmk 3) s m args below meth c H locs 0 0 (MQ below (QcV WN ad ca WS D A q) args s 0 0 A) (F0 m 74 ls []) := by
  unfold BX10_weighs_74 at h
  have hx := C.1
  have hb := C.2.1
  refine lv_iload hx hb dX10_weighs_74 (lv_at hl 5 rfl) ?_
  refine lv_bipush (v := 6) hx hb dX10_weighs_76 (by decide) ?_
  refine lv_icmp_ge (tgt := 247) hx hb dX10_weighs_78 (by decide) (fun hc78 => ?_) (fun hc78 => ?_)
  · replace h := tT hc78 h
    have h := Option.some.inj h
    subst h
    exact retV C hH dX10_weighs_247
  · replace h := tF hc78 h
    refine lv_iload hx hb dX10_weighs_81 (lv_at hl 4 rfl) ?_
    refine lv_if_eq (tgt := 247) hx hb dX10_weighs_83 (by decide) (fun hc83 => ?_) (fun hc83 => ?_)
    · replace h := tT hc83 h
      have h := Option.some.inj h
      subst h
      exact retV C hH dX10_weighs_247
    · replace h := tF hc83 h
      refine lv_bipush (v := 60) hx hb dX10_weighs_86 (by decide) ?_
      refine lv_iload_n hx hb dX10_weighs_88 rfl (lv_at hl 1 rfl) ?_
      refine lv_imul hx hb dX10_weighs_89 ?_
      refine lv_iconst (v := 3) hx hb dX10_weighs_90 (by decide) ?_
      refine lv_iload hx hb dX10_weighs_91 (lv_at hl 5 rfl) ?_
      refine lv_imul hx hb dX10_weighs_93 ?_
      refine lv_iadd hx hb dX10_weighs_94 ?_
      refine lv_istore (lv' := [(6, .int ((60 * v1) + (3 * v5))), (0, .ref (ad 58)), (1, .int v1), (2, .int v2), (3, .int v3), (4, .int v4), (5, .int v5)]) hx hb dX10_weighs_95 hl (by decide) rfl (fun ls hl => ?_)
      refine lv_iconst (v := 3) hx hb dX10_weighs_97 (by decide) ?_
      refine lv_iload hx hb dX10_weighs_98 (lv_at hl 6 rfl) ?_
      refine lv_imul hx hb dX10_weighs_100 ?_
      refine lv_iconst (v := 2) hx hb dX10_weighs_101 (by decide) ?_
      refine lv_iadd hx hb dX10_weighs_102 ?_
      refine lv_aload_n hx hb dX10_weighs_103 rfl (lv_at hl 1 rfl) ?_
      refine rgS C hH fs_RX10_75_58 dX10_weighs_104 ?_
      refine lv_iload_n hx hb dX10_weighs_107 rfl (lv_at hl 2 rfl) ?_
      obtain ⟨hi108, h⟩ := tC h
      refine raI C hH (k := (Int32.toNatClampNeg v1)) (by decide) (show WS 80 = .inr (0, 6, 0) from rfl) hi108 rfl dX10_weighs_108 ?_
      refine lv_icmp_ge (tgt := 168) hx hb dX10_weighs_109 (by decide) (fun hc109 => ?_) (fun hc109 => ?_)
      · replace h := tT hc109 h
        exact wX10_weighs_168 C hk74 h hH (lv_sub hl [1, 2, 3, 4, 6, 0] rfl)
      · replace h := tF hc109 h
        refine lv_aload_n hx hb dX10_weighs_112 rfl (lv_at hl 1 rfl) ?_
        refine lv_aload_n hx hb dX10_weighs_113 rfl (lv_at hl 1 rfl) ?_
        refine rgS C hH fs_RX10_78_58 dX10_weighs_114 ?_
        refine lv_iload hx hb dX10_weighs_117 (lv_at hl 0 rfl) ?_
        obtain ⟨hi119, h⟩ := tC h
        refine raL C hH (k := (Int32.toNatClampNeg ((60 * v1) + (3 * v5)))) (by decide) (show WS 81 = .inr (3, 360, 0) from rfl) hi119 rfl dX10_weighs_119 ?_
        obtain ⟨q120, e120, h⟩ := tB h
        refine rcI C hH hl.1 (mX10_isSack l e120) cf_RX10_130 ro_58 (RR_of (by decide) (by decide)) rfl (rest := []) rfl (Nat.le_of_ble_eq_true rfl) dX10_weighs_120 ?_
        intro hz120 H locs hH
        refine lv_if_eq (tgt := 168) hx hb dX10_weighs_123 (by decide) (fun hc123 => ?_) (fun hc123 => ?_)
        · replace h := tT hc123 h
          exact wX10_weighs_168 C hk74 h hH (lv_sub hl [1, 2, 3, 4, 6, 0] rfl)
        · replace h := tF hc123 h
          refine lv_aload_n hx hb dX10_weighs_126 rfl (lv_at hl 1 rfl) ?_
          refine rgS C hH fs_RX10_78_58 dX10_weighs_127 ?_
          refine lv_iload hx hb dX10_weighs_130 (lv_at hl 0 rfl) ?_
          refine lv_iconst (v := 1) hx hb dX10_weighs_132 (by decide) ?_
          refine lv_iadd hx hb dX10_weighs_133 ?_
          obtain ⟨hi134, h⟩ := tC h
          refine raL C hH (k := (Int32.toNatClampNeg (((60 * v1) + (3 * v5)) + 1))) (by decide) (show WS 81 = .inr (3, 360, 0) from rfl) hi134 rfl dX10_weighs_134 ?_
          refine lv_lconst (v := 0) hx hb dX10_weighs_135 (by decide) ?_
          refine rldc2 C (v := 2) k_RX10_211 dX10_weighs_136 ?_
          obtain ⟨q139, e139, h⟩ := tB h
          refine rsI C hH hl.1 (mX10_within l e139) cs_RX10_96 (RR_of (by decide) (by decide)) rfl (rest := []) rfl (Nat.le_of_ble_eq_true rfl) dX10_weighs_139 ?_
          intro hz139 H locs hH
          refine lv_if_eq (tgt := 168) hx hb dX10_weighs_142 (by decide) (fun hc142 => ?_) (fun hc142 => ?_)
          · replace h := tT hc142 h
            exact wX10_weighs_168 C hk74 h hH (lv_sub hl [1, 2, 3, 4, 6, 0] rfl)
          · replace h := tF hc142 h
            refine lv_aload_n hx hb dX10_weighs_145 rfl (lv_at hl 1 rfl) ?_
            refine rgS C hH fs_RX10_78_58 dX10_weighs_146 ?_
            refine lv_iload hx hb dX10_weighs_149 (lv_at hl 0 rfl) ?_
            refine lv_iconst (v := 2) hx hb dX10_weighs_151 (by decide) ?_
            refine lv_iadd hx hb dX10_weighs_152 ?_
            obtain ⟨hi153, h⟩ := tC h
            refine raL C hH (k := (Int32.toNatClampNeg (((60 * v1) + (3 * v5)) + 2))) (by decide) (show WS 81 = .inr (3, 360, 0) from rfl) hi153 rfl dX10_weighs_153 ?_
            refine lv_lconst (v := 0) hx hb dX10_weighs_154 (by decide) ?_
            refine rldc2 C (v := 3) k_RX10_126 dX10_weighs_155 ?_
            obtain ⟨q158, e158, h⟩ := tB h
            refine rsI C hH hl.1 (mX10_within l e158) cs_RX10_96 (RR_of (by decide) (by decide)) rfl (rest := []) rfl (Nat.le_of_ble_eq_true rfl) dX10_weighs_158 ?_
            intro hz158 H locs hH
            refine lv_if_eq (tgt := 168) hx hb dX10_weighs_161 (by decide) (fun hc161 => ?_) (fun hc161 => ?_)
            · replace h := tT hc161 h
              exact wX10_weighs_168 C hk74 h hH (lv_sub hl [1, 2, 3, 4, 6, 0] rfl)
            · replace h := tF hc161 h
              refine lv_iconst (v := 1) hx hb dX10_weighs_164 (by decide) ?_
              refine lv_goto (tgt := 169) hx hb dX10_weighs_165 (by decide) ?_
              exact wX10_weighs_169 C hk74 h hH (lv_sub hl [1, 2, 3, 4, 6, 0] rfl)
set_option maxHeartbeats 2000000 in
set_option maxRecDepth 20000 in
theorem wX10_weighs_74 (C : Cx D ca A p s m args meth c cX10_weighs RX10 8 none) {q : Unit × Mm} : ∀ (N : Nat) (v1 : Int32) (v2 : Int32) (v3 : Int32) (v4 : Int32) (v5 : Int32) (mm : Mm), DX10_weighs_74 N v1 v2 v3 v4 v5 mm = some q → ∀ (H : Heap) (locs : List Loc) (ls : Array Slot), Hx WN ad ca WS D A s.heap mm H locs → lv_has ls 8 [(0, .ref (ad 58)), (1, .int v1), (2, .int v2), (3, .int v3), (4, .int v4), (5, .int v5)] → W p l e (rmk 3) s m args below meth c H locs 0 0 (MQ below (QcV WN ad ca WS D A q) args s 0 0 A) (F0 m 74 ls []) := by
  intro N
  induction N with
  | zero =>
    intro v1 v2 v3 v4 v5 mm h
    have h2 : (none : Option (Unit × Mm)) = some q := h
    cases h2
  | succ N ih =>
    intro v1 v2 v3 v4 v5 mm h H locs ls hH hl
    exact wbX10_weighs_74 C ih h hH hl
set_option maxHeartbeats 2000000 in
set_option maxRecDepth 20000 in
theorem wX10_weighs_69 (C : Cx D ca A p s m args meth c cX10_weighs RX10 8 none) {q : Unit × Mm} {v1 : Int32} {v2 : Int32} {v3 : Int32} {s0 : Int32} {mm : Mm} (h : DX10_weighs_69 v1 v2 v3 s0 mm = some q) (hH : Hx WN ad ca WS D A s.heap mm H locs) (hl : lv_has ls 8 [(0, .ref (ad 58)), (1, .int v1), (2, .int v2), (3, .int v3)]) : W p l e (rmk 3) s m args below meth c H locs 0 0 (MQ below (QcV WN ad ca WS D A q) args s 0 0 A) (F0 m 69 ls [.int s0]) := by
  unfold DX10_weighs_69 at h
  have hx := C.1
  have hb := C.2.1
  refine lv_istore (lv' := [(4, .int s0), (0, .ref (ad 58)), (1, .int v1), (2, .int v2), (3, .int v3)]) hx hb dX10_weighs_69 hl (by decide) rfl (fun ls hl => ?_)
  refine lv_iconst (v := 0) hx hb dX10_weighs_71 (by decide) ?_
  refine lv_istore (lv' := [(5, .int 0), (4, .int s0), (0, .ref (ad 58)), (1, .int v1), (2, .int v2), (3, .int v3)]) hx hb dX10_weighs_72 hl (by decide) rfl (fun ls hl => ?_)
  exact wX10_weighs_74 C FU _ _ _ _ _ _ h _ _ _ hH (lv_sub hl [2, 3, 4, 5, 1, 0] rfl)
set_option maxHeartbeats 2000000 in
set_option maxRecDepth 20000 in
theorem wX10_weighs_68 (C : Cx D ca A p s m args meth c cX10_weighs RX10 8 none) {q : Unit × Mm} {v1 : Int32} {v2 : Int32} {v3 : Int32} {mm : Mm} (h : DX10_weighs_68 v1 v2 v3 mm = some q) (hH : Hx WN ad ca WS D A s.heap mm H locs) (hl : lv_has ls 8 [(0, .ref (ad 58)), (1, .int v1), (2, .int v2), (3, .int v3)]) : W p l e (rmk 3) s m args below meth c H locs 0 0 (MQ below (QcV WN ad ca WS D A q) args s 0 0 A) (F0 m 68 ls []) := by
  unfold DX10_weighs_68 at h
  have hx := C.1
  have hb := C.2.1
  refine lv_iconst (v := 0) hx hb dX10_weighs_68 (by decide) ?_
  exact wX10_weighs_69 C h hH (lv_sub hl [0, 1, 2, 3] rfl)
set_option maxHeartbeats 2000000 in
set_option maxRecDepth 20000 in
theorem wX10_weighs_44 (C : Cx D ca A p s m args meth c cX10_weighs RX10 8 none) {q : Unit × Mm} {k3 : Int32 → Int32 → Int32 → Int32 → Mm → Option (Unit × Mm)} (hk3 : ∀ (v1 : Int32) (v2 : Int32) (v3 : Int32) (v4 : Int32) (mm : Mm), k3 v1 v2 v3 v4 mm = some q → ∀ (H : Heap) (locs : List Loc) (ls : Array Slot), Hx WN ad ca WS D A s.heap mm H locs → lv_has ls 8 [(0, .ref (ad 58)), (1, .int v1), (2, .int v2), (3, .int v3), (4, .int v4)] → W p l e (rmk 3) s m args below meth c H locs 0 0 (MQ below (QcV WN ad ca WS D A q) args s 0 0 A) (F0 m 3 ls [])) {v1 : Int32} {v2 : Int32} {v3 : Int32} {v4 : Int32} {s0 : Int64} {s1 : Int32} {mm : Mm} (h : DX10_weighs_44 k3 v1 v2 v3 v4 s0 s1 mm = some q) (hH : Hx WN ad ca WS D A s.heap mm H locs) (hl : lv_has ls 8 [(0, .ref (ad 58)), (1, .int v1), (2, .int v2), (3, .int v3), (4, .int v4)]) : W p l e (rmk 3) s m args below meth c H locs 0 0 (MQ below (QcV WN ad ca WS D A q) args s 0 0 A) (F0 m 44 ls [.long s0, .int s1, .ref (ad 68)]) := by
  unfold DX10_weighs_44 at h
  have hx := C.1
  have hb := C.2.1
  obtain ⟨hi44, h⟩ := tC h
  refine rwL C hH (k := (Int32.toNatClampNeg s1)) (by decide) (show WS 68 = .inr (3, 6, 0) from rfl) hi44 rfl dX10_weighs_44 (fun H locs hH => ?_)
  refine lv_iinc (v := (v4 + 1)) (lv' := [(4, .int (v4 + 1)), (0, .ref (ad 58)), (1, .int v1), (2, .int v2), (3, .int v3)]) hx hb dX10_weighs_45 hl (k := 4) rfl rfl (by decide) rfl (fun ls hl => ?_)
  refine lv_goto (tgt := 3) hx hb dX10_weighs_48 (by decide) ?_
  exact hk3 _ _ _ _ _ h _ _ _ hH (lv_sub hl [1, 2, 3, 4, 0] rfl)
set_option maxHeartbeats 2000000 in
set_option maxRecDepth 20000 in
theorem wX10_weighs_39 (C : Cx D ca A p s m args meth c cX10_weighs RX10 8 none) {q : Unit × Mm} {k3 : Int32 → Int32 → Int32 → Int32 → Mm → Option (Unit × Mm)} (hk3 : ∀ (v1 : Int32) (v2 : Int32) (v3 : Int32) (v4 : Int32) (mm : Mm), k3 v1 v2 v3 v4 mm = some q → ∀ (H : Heap) (locs : List Loc) (ls : Array Slot), Hx WN ad ca WS D A s.heap mm H locs → lv_has ls 8 [(0, .ref (ad 58)), (1, .int v1), (2, .int v2), (3, .int v3), (4, .int v4)] → W p l e (rmk 3) s m args below meth c H locs 0 0 (MQ below (QcV WN ad ca WS D A q) args s 0 0 A) (F0 m 3 ls [])) {v1 : Int32} {v2 : Int32} {v3 : Int32} {v4 : Int32} {s0 : Int32} {mm : Mm} (h : DX10_weighs_39 k3 v1 v2 v3 v4 s0 mm = some q) (hH : Hx WN ad ca WS D A s.heap mm H locs) (hl : lv_has ls 8 [(0, .ref (ad 58)), (1, .int v1), (2, .int v2), (3, .int v3), (4, .int v4)]) : W p l e (rmk 3) s m args below meth c H locs 0 0 (MQ below (QcV WN ad ca WS D A q) args s 0 0 A) (F0 m 39 ls [.int s0, .ref (ad 68)]) := by
  unfold DX10_weighs_39 at h
  have hx := C.1
  have hb := C.2.1
  refine lv_lconst (v := 1) hx hb dX10_weighs_39 (by decide) ?_
  refine lv_goto (tgt := 44) hx hb dX10_weighs_40 (by decide) ?_
  exact wX10_weighs_44 C hk3 h hH (lv_sub hl [0, 1, 2, 3, 4] rfl)
set_option maxHeartbeats 2000000 in
set_option maxRecDepth 20000 in
theorem wbX10_weighs_3 (C : Cx D ca A p s m args meth c cX10_weighs RX10 8 none) {q : Unit × Mm} {k3 : Int32 → Int32 → Int32 → Int32 → Mm → Option (Unit × Mm)} (hk3 : ∀ (v1 : Int32) (v2 : Int32) (v3 : Int32) (v4 : Int32) (mm : Mm), k3 v1 v2 v3 v4 mm = some q → ∀ (H : Heap) (locs : List Loc) (ls : Array Slot), Hx WN ad ca WS D A s.heap mm H locs → lv_has ls 8 [(0, .ref (ad 58)), (1, .int v1), (2, .int v2), (3, .int v3), (4, .int v4)] → W p l e (rmk 3) s m args below meth c H locs 0 0 (MQ below (QcV WN ad ca WS D A q) args s 0 0 A) (F0 m 3 ls [])) {v1 : Int32} {v2 : Int32} {v3 : Int32} {v4 : Int32} {mm : Mm} (h : BX10_weighs_3 k3 v1 v2 v3 v4 mm = some q) (hH : Hx WN ad ca WS D A s.heap mm H locs) (hl : lv_has ls 8 [(0, .ref (ad 58)), (1, .int v1), (2, .int v2), (3, .int v3), (4, .int v4)]) : W p l e (rmk 3) s m args below meth c H locs 0 0 (MQ below (QcV WN ad ca WS D A q) args s 0 0 A) (F0 m 3 ls []) := by
  unfold BX10_weighs_3 at h
  have hx := C.1
  have hb := C.2.1
  refine lv_iload hx hb dX10_weighs_3 (lv_at hl 4 rfl) ?_
  refine lv_bipush (v := 6) hx hb dX10_weighs_5 (by decide) ?_
  refine lv_icmp_ge (tgt := 51) hx hb dX10_weighs_7 (by decide) (fun hc7 => ?_) (fun hc7 => ?_)
  · replace h := tT hc7 h
    refine lv_iload_n hx hb dX10_weighs_51 rfl (lv_at hl 1 rfl) ?_
    refine lv_if_lt (tgt := 68) hx hb dX10_weighs_52 (by decide) (fun hc52 => ?_) (fun hc52 => ?_)
    · replace h := tT hc52 h
      exact wX10_weighs_68 C h hH (lv_sub hl [0, 1, 2, 3] rfl)
    · replace h := tF hc52 h
      refine lv_aload_n hx hb dX10_weighs_55 rfl (lv_at hl 0 rfl) ?_
      refine rgS C hH fs_RX10_25_58 dX10_weighs_56 ?_
      refine lv_iload_n hx hb dX10_weighs_59 rfl (lv_at hl 3 rfl) ?_
      obtain ⟨hi60, h⟩ := tC h
      refine raZ C hH (k := (Int32.toNatClampNeg v3)) (by decide) (show WS 64 = .inr (2, 10, 0) from rfl) hi60 rfl dX10_weighs_60 ?_
      refine lv_if_ne (tgt := 68) hx hb dX10_weighs_61 (by decide) (fun hc61 => ?_) (fun hc61 => ?_)
      · replace h := tF hc61 h
        exact wX10_weighs_68 C h hH (lv_sub hl [0, 1, 2, 3] rfl)
      · replace h := tT hc61 h
        refine lv_iconst (v := 1) hx hb dX10_weighs_64 (by decide) ?_
        refine lv_goto (tgt := 69) hx hb dX10_weighs_65 (by decide) ?_
        exact wX10_weighs_69 C h hH (lv_sub hl [0, 1, 2, 3] rfl)
  · replace h := tF hc7 h
    refine lv_aload_n hx hb dX10_weighs_10 rfl (lv_at hl 0 rfl) ?_
    refine rgS C hH fs_RX10_38_58 dX10_weighs_11 ?_
    refine lv_iload hx hb dX10_weighs_14 (lv_at hl 4 rfl) ?_
    refine lv_aload_n hx hb dX10_weighs_16 rfl (lv_at hl 0 rfl) ?_
    refine rgS C hH fs_RX10_25_58 dX10_weighs_17 ?_
    refine lv_iload_n hx hb dX10_weighs_20 rfl (lv_at hl 3 rfl) ?_
    obtain ⟨hi21, h⟩ := tC h
    refine raZ C hH (k := (Int32.toNatClampNeg v3)) (by decide) (show WS 64 = .inr (2, 10, 0) from rfl) hi21 rfl dX10_weighs_21 ?_
    refine lv_if_eq (tgt := 39) hx hb dX10_weighs_22 (by decide) (fun hc22 => ?_) (fun hc22 => ?_)
    · replace h := tT hc22 h
      exact wX10_weighs_39 C hk3 h hH (lv_sub hl [0, 1, 2, 3, 4] rfl)
    · replace h := tF hc22 h
      refine lv_aload_n hx hb dX10_weighs_25 rfl (lv_at hl 0 rfl) ?_
      refine rgS C hH fs_RX10_9_58 dX10_weighs_26 ?_
      refine lv_bipush (v := 24) hx hb dX10_weighs_29 (by decide) ?_
      refine lv_iload_n hx hb dX10_weighs_31 rfl (lv_at hl 3 rfl) ?_
      refine lv_iadd hx hb dX10_weighs_32 ?_
      obtain ⟨hi33, h⟩ := tC h
      refine raI C hH (k := (Int32.toNatClampNeg (24 + v3))) (by decide) (show WS 59 = .inr (0, 62, 0) from rfl) hi33 rfl dX10_weighs_33 ?_
      refine lv_iload hx hb dX10_weighs_34 (lv_at hl 4 rfl) ?_
      refine lv_icmp_ne (tgt := 43) hx hb dX10_weighs_36 (by decide) (fun hc36 => ?_) (fun hc36 => ?_)
      · replace h := tF hc36 h
        refine lv_lconst (v := 0) hx hb dX10_weighs_43 (by decide) ?_
        exact wX10_weighs_44 C hk3 h hH (lv_sub hl [0, 1, 2, 3, 4] rfl)
      · replace h := tT hc36 h
        exact wX10_weighs_39 C hk3 h hH (lv_sub hl [0, 1, 2, 3, 4] rfl)
set_option maxHeartbeats 2000000 in
set_option maxRecDepth 20000 in
theorem wX10_weighs_3 (C : Cx D ca A p s m args meth c cX10_weighs RX10 8 none) {q : Unit × Mm} : ∀ (N : Nat) (v1 : Int32) (v2 : Int32) (v3 : Int32) (v4 : Int32) (mm : Mm), DX10_weighs_3 N v1 v2 v3 v4 mm = some q → ∀ (H : Heap) (locs : List Loc) (ls : Array Slot), Hx WN ad ca WS D A s.heap mm H locs → lv_has ls 8 [(0, .ref (ad 58)), (1, .int v1), (2, .int v2), (3, .int v3), (4, .int v4)] → W p l e (rmk 3) s m args below meth c H locs 0 0 (MQ below (QcV WN ad ca WS D A q) args s 0 0 A) (F0 m 3 ls []) := by
  intro N
  induction N with
  | zero =>
    intro v1 v2 v3 v4 mm h
    have h2 : (none : Option (Unit × Mm)) = some q := h
    cases h2
  | succ N ih =>
    intro v1 v2 v3 v4 mm h H locs ls hH hl
    exact wbX10_weighs_3 C ih h hH hl
set_option maxHeartbeats 2000000 in
set_option maxRecDepth 20000 in
theorem mX10_weighs (l : Launch) {D : va_G} {ca : Nat → ClassId} {A : Nat → Prop} {ad : Nat → Nat} {v1 : Int32} {v2 : Int32} {v3 : Int32} {mm : Mm} {q : Unit × Mm} (h : dX10_weighs v1 v2 v3 mm = some q) : Met l yX10_weighs (wsOf yX10_weighs cX10_weighs 8 none) (rmk 3) (PcX WN ad ca WS D A [.ref (ad 58), .int v1, .int v2, .int v3] mm) (QcV WN ad ca WS D A q) 0 0 A := by
  unfold dX10_weighs at h
  refine ent (by decide) (Nat.le_of_ble_eq_true rfl) (fun p e s m args below meth c hargs C hH ls hl => ?_)
  have hx := C.1
  have hb := C.2.1
  have hl : lv_has ls 8 [(0, .ref (ad 58)), (1, .int v1), (2, .int v2), (3, .int v3)] := hl
  refine lv_iconst (v := 0) hx hb dX10_weighs_0 (by decide) ?_
  refine lv_istore (lv' := [(4, .int 0), (0, .ref (ad 58)), (1, .int v1), (2, .int v2), (3, .int v3)]) hx hb dX10_weighs_1 hl (by decide) rfl (fun ls hl => ?_)
  exact wX10_weighs_3 C FU _ _ _ _ _ h _ _ _ hH (lv_sub hl [1, 2, 3, 4, 0] rfl)
set_option maxHeartbeats 2000000 in
set_option maxRecDepth 20000 in
theorem wbX10_weightAll_4 (C : Cx D ca A p s m args meth c cX10_weightAll RX10 4 (some .long)) {q : Int64 × Mm} {k4 : Int64 → Int32 → Mm → Option (Int64 × Mm)} (hk4 : ∀ (v1 : Int64) (v3 : Int32) (mm : Mm), k4 v1 v3 mm = some q → ∀ (H : Heap) (locs : List Loc) (ls : Array Slot), Hx WN ad ca WS D A s.heap mm H locs → lv_has ls 4 [(0, .ref (ad 58)), (1, .long v1), (3, .int v3)] → W p l e (rmk 1) s m args below meth c H locs 0 0 (MQ below (QcL WN ad ca WS D A q) args s 0 0 A) (F0 m 4 ls [])) {v1 : Int64} {v3 : Int32} {mm : Mm} (h : BX10_weightAll_4 k4 v1 v3 mm = some q) (hH : Hx WN ad ca WS D A s.heap mm H locs) (hl : lv_has ls 4 [(0, .ref (ad 58)), (1, .long v1), (3, .int v3)]) : W p l e (rmk 1) s m args below meth c H locs 0 0 (MQ below (QcL WN ad ca WS D A q) args s 0 0 A) (F0 m 4 ls []) := by
  unfold BX10_weightAll_4 at h
  have hx := C.1
  have hb := C.2.1
  refine lv_iload_n hx hb dX10_weightAll_4 rfl (lv_at hl 2 rfl) ?_
  refine lv_bipush (v := 6) hx hb dX10_weightAll_5 (by decide) ?_
  refine lv_icmp_ge (tgt := 25) hx hb dX10_weightAll_7 (by decide) (fun hc7 => ?_) (fun hc7 => ?_)
  · replace h := tT hc7 h
    refine lv_lload_n hx hb dX10_weightAll_25 rfl (lv_at hl 1 rfl) ?_
    have h := Option.some.inj h
    subst h
    exact retL C hH dX10_weightAll_26
  · replace h := tF hc7 h
    refine lv_lload_n hx hb dX10_weightAll_10 rfl (lv_at hl 1 rfl) ?_
    refine lv_aload_n hx hb dX10_weightAll_11 rfl (lv_at hl 0 rfl) ?_
    refine rgS C hH fs_RX10_38_58 dX10_weightAll_12 ?_
    refine lv_iload_n hx hb dX10_weightAll_15 rfl (lv_at hl 2 rfl) ?_
    obtain ⟨hi16, h⟩ := tC h
    refine raL C hH (k := (Int32.toNatClampNeg v3)) (by decide) (show WS 68 = .inr (3, 6, 0) from rfl) hi16 rfl dX10_weightAll_16 ?_
    refine lv_ladd hx hb dX10_weightAll_17 ?_
    refine lv_lstore_n (lv' := [(1, .long (v1 + (gL mm 68 (Int32.toNatClampNeg v3)))), (0, .ref (ad 58)), (3, .int v3)]) hx hb dX10_weightAll_18 rfl hl (by decide) rfl (fun ls hl => ?_)
    refine lv_iinc (v := (v3 + 1)) (lv' := [(3, .int (v3 + 1)), (1, .long (v1 + (gL mm 68 (Int32.toNatClampNeg v3)))), (0, .ref (ad 58))]) hx hb dX10_weightAll_19 hl (k := 2) rfl rfl (by decide) rfl (fun ls hl => ?_)
    refine lv_goto (tgt := 4) hx hb dX10_weightAll_22 (by decide) ?_
    exact hk4 _ _ _ h _ _ _ hH (lv_sub hl [2, 1, 0] rfl)
set_option maxHeartbeats 2000000 in
set_option maxRecDepth 20000 in
theorem wX10_weightAll_4 (C : Cx D ca A p s m args meth c cX10_weightAll RX10 4 (some .long)) {q : Int64 × Mm} : ∀ (N : Nat) (v1 : Int64) (v3 : Int32) (mm : Mm), DX10_weightAll_4 N v1 v3 mm = some q → ∀ (H : Heap) (locs : List Loc) (ls : Array Slot), Hx WN ad ca WS D A s.heap mm H locs → lv_has ls 4 [(0, .ref (ad 58)), (1, .long v1), (3, .int v3)] → W p l e (rmk 1) s m args below meth c H locs 0 0 (MQ below (QcL WN ad ca WS D A q) args s 0 0 A) (F0 m 4 ls []) := by
  intro N
  induction N with
  | zero =>
    intro v1 v3 mm h
    have h2 : (none : Option (Int64 × Mm)) = some q := h
    cases h2
  | succ N ih =>
    intro v1 v3 mm h H locs ls hH hl
    exact wbX10_weightAll_4 C ih h hH hl
set_option maxHeartbeats 2000000 in
set_option maxRecDepth 20000 in
theorem mX10_weightAll (l : Launch) {D : va_G} {ca : Nat → ClassId} {A : Nat → Prop} {ad : Nat → Nat} {mm : Mm} {q : Int64 × Mm} (h : dX10_weightAll mm = some q) : Met l yX10_weightAll (wsOf yX10_weightAll cX10_weightAll 4 (some .long)) (rmk 1) (PcX WN ad ca WS D A [.ref (ad 58)] mm) (QcL WN ad ca WS D A q) 0 0 A := by
  unfold dX10_weightAll at h
  refine ent (by decide) (Nat.le_of_ble_eq_true rfl) (fun p e s m args below meth c hargs C hH ls hl => ?_)
  have hx := C.1
  have hb := C.2.1
  have hl : lv_has ls 4 [(0, .ref (ad 58))] := hl
  refine lv_lconst (v := 0) hx hb dX10_weightAll_0 (by decide) ?_
  refine lv_lstore_n (lv' := [(1, .long 0), (0, .ref (ad 58))]) hx hb dX10_weightAll_1 rfl hl (by decide) rfl (fun ls hl => ?_)
  refine lv_iconst (v := 0) hx hb dX10_weightAll_2 (by decide) ?_
  refine lv_istore_n (lv' := [(3, .int 0), (1, .long 0), (0, .ref (ad 58))]) hx hb dX10_weightAll_3 rfl hl (by decide) rfl (fun ls hl => ?_)
  exact wX10_weightAll_4 C FU _ _ _ h _ _ _ hH (lv_sub hl [2, 1, 0] rfl)
set_option maxHeartbeats 2000000 in
set_option maxRecDepth 20000 in
theorem wbX10_partOf_16 (C : Cx D ca A p s m args meth c cX10_partOf RX10 11 (some .long)) {q : Int64 × Mm} {k16 : Int64 → Int64 → Int32 → Int64 → Int64 → Mm → Option (Int64 × Mm)} (hk16 : ∀ (v0 : Int64) (v2 : Int64) (v4 : Int32) (v5 : Int64) (v7 : Int64) (mm : Mm), k16 v0 v2 v4 v5 v7 mm = some q → ∀ (H : Heap) (locs : List Loc) (ls : Array Slot), Hx WN ad ca WS D A s.heap mm H locs → lv_has ls 11 [(0, .long v0), (2, .long v2), (4, .int v4), (5, .long v5), (7, .long v7)] → W p l e (rmk 1) s m args below meth c H locs 0 0 (MQ below (QcL WN ad ca WS D A q) args s 0 0 A) (F0 m 16 ls [])) {v0 : Int64} {v2 : Int64} {v4 : Int32} {v5 : Int64} {v7 : Int64} {mm : Mm} (h : BX10_partOf_16 k16 v0 v2 v4 v5 v7 mm = some q) (hH : Hx WN ad ca WS D A s.heap mm H locs) (hl : lv_has ls 11 [(0, .long v0), (2, .long v2), (4, .int v4), (5, .long v5), (7, .long v7)]) : W p l e (rmk 1) s m args below meth c H locs 0 0 (MQ below (QcL WN ad ca WS D A q) args s 0 0 A) (F0 m 16 ls []) := by
  unfold BX10_partOf_16 at h
  have hx := C.1
  have hb := C.2.1
  refine lv_lload hx hb dX10_partOf_16 (lv_at hl 4 rfl) ?_
  refine lv_lconst (v := 0) hx hb dX10_partOf_18 (by decide) ?_
  refine lc_eq (tgt := 41) hx hb dX10_partOf_19 dX10_partOf_20 (by decide) (fun hc20 => ?_) (fun hc20 => ?_)
  · replace h := tT hc20 h
    refine lv_iload hx hb dX10_partOf_41 (lv_at hl 2 rfl) ?_
    refine lv_if_ne (tgt := 53) hx hb dX10_partOf_43 (by decide) (fun hc43 => ?_) (fun hc43 => ?_)
    · replace h := tF hc43 h
      refine lv_lload_n hx hb dX10_partOf_53 rfl (lv_at hl 1 rfl) ?_
      refine lv_lload hx hb dX10_partOf_54 (lv_at hl 3 rfl) ?_
      obtain ⟨hz56, h⟩ := tN h
      refine lv_ldiv hx hb dX10_partOf_56 hz56 ?_
      have h := Option.some.inj h
      subst h
      exact retL C hH dX10_partOf_57
    · replace h := tT hc43 h
      refine lv_lload_n hx hb dX10_partOf_46 rfl (lv_at hl 0 rfl) ?_
      refine lv_lload hx hb dX10_partOf_47 (lv_at hl 3 rfl) ?_
      obtain ⟨hz49, h⟩ := tN h
      refine lv_ldiv hx hb dX10_partOf_49 hz49 ?_
      refine lv_goto (tgt := 57) hx hb dX10_partOf_50 (by decide) ?_
      have h := Option.some.inj h
      subst h
      exact retL C hH dX10_partOf_57
  · replace h := tF hc20 h
    refine lv_lload hx hb dX10_partOf_23 (lv_at hl 3 rfl) ?_
    refine lv_lload hx hb dX10_partOf_25 (lv_at hl 4 rfl) ?_
    obtain ⟨hz27, h⟩ := tN h
    refine lv_lrem' hx hb dX10_partOf_27 hz27 ?_
    refine lv_lstore (lv' := [(9, .long (lRem v5 v7)), (0, .long v0), (2, .long v2), (4, .int v4), (5, .long v5), (7, .long v7)]) hx hb dX10_partOf_28 hl (by decide) rfl (fun ls hl => ?_)
    refine lv_lload hx hb dX10_partOf_30 (lv_at hl 5 rfl) ?_
    refine lv_lstore (lv' := [(5, .long v7), (9, .long (lRem v5 v7)), (0, .long v0), (2, .long v2), (4, .int v4), (7, .long v7)]) hx hb dX10_partOf_32 hl (by decide) rfl (fun ls hl => ?_)
    refine lv_lload hx hb dX10_partOf_34 (lv_at hl 1 rfl) ?_
    refine lv_lstore (lv' := [(7, .long (lRem v5 v7)), (5, .long v7), (9, .long (lRem v5 v7)), (0, .long v0), (2, .long v2), (4, .int v4)]) hx hb dX10_partOf_36 hl (by decide) rfl (fun ls hl => ?_)
    refine lv_goto (tgt := 16) hx hb dX10_partOf_38 (by decide) ?_
    exact hk16 _ _ _ _ _ _ h _ _ _ hH (lv_sub hl [3, 4, 5, 1, 0] rfl)
set_option maxHeartbeats 2000000 in
set_option maxRecDepth 20000 in
theorem wX10_partOf_16 (C : Cx D ca A p s m args meth c cX10_partOf RX10 11 (some .long)) {q : Int64 × Mm} : ∀ (N : Nat) (v0 : Int64) (v2 : Int64) (v4 : Int32) (v5 : Int64) (v7 : Int64) (mm : Mm), DX10_partOf_16 N v0 v2 v4 v5 v7 mm = some q → ∀ (H : Heap) (locs : List Loc) (ls : Array Slot), Hx WN ad ca WS D A s.heap mm H locs → lv_has ls 11 [(0, .long v0), (2, .long v2), (4, .int v4), (5, .long v5), (7, .long v7)] → W p l e (rmk 1) s m args below meth c H locs 0 0 (MQ below (QcL WN ad ca WS D A q) args s 0 0 A) (F0 m 16 ls []) := by
  intro N
  induction N with
  | zero =>
    intro v0 v2 v4 v5 v7 mm h
    have h2 : (none : Option (Int64 × Mm)) = some q := h
    cases h2
  | succ N ih =>
    intro v0 v2 v4 v5 v7 mm h H locs ls hH hl
    exact wbX10_partOf_16 C ih h hH hl
set_option maxHeartbeats 2000000 in
set_option maxRecDepth 20000 in
theorem mX10_partOf (l : Launch) {D : va_G} {ca : Nat → ClassId} {A : Nat → Prop} {ad : Nat → Nat} {v0 : Int64} {v2 : Int64} {v4 : Int32} {mm : Mm} {q : Int64 × Mm} (h : dX10_partOf v0 v2 v4 mm = some q) : Met l yX10_partOf (wsOf yX10_partOf cX10_partOf 11 (some .long)) (rmk 1) (PcX WN ad ca WS D A [.long v0, .long v2, .int v4] mm) (QcL WN ad ca WS D A q) 0 0 A := by
  unfold dX10_partOf at h
  refine ent (by decide) (Nat.le_of_ble_eq_true rfl) (fun p e s m args below meth c hargs C hH ls hl => ?_)
  have hx := C.1
  have hb := C.2.1
  have hl : lv_has ls 11 [(0, .long v0), (2, .long v2), (4, .int v4)] := hl
  refine lv_lload_n hx hb dX10_partOf_0 rfl (lv_at hl 0 rfl) ?_
  refine lv_lconst (v := 0) hx hb dX10_partOf_1 (by decide) ?_
  refine lc_ne (tgt := 10) hx hb dX10_partOf_2 dX10_partOf_3 (by decide) (fun hc3 => ?_) (fun hc3 => ?_)
  · replace h := tF hc3 h
    refine lv_lload_n hx hb dX10_partOf_10 rfl (lv_at hl 0 rfl) ?_
    refine lv_lstore (lv' := [(5, .long v0), (0, .long v0), (2, .long v2), (4, .int v4)]) hx hb dX10_partOf_11 hl (by decide) rfl (fun ls hl => ?_)
    refine lv_lload_n hx hb dX10_partOf_13 rfl (lv_at hl 2 rfl) ?_
    refine lv_lstore (lv' := [(7, .long v2), (5, .long v0), (0, .long v0), (2, .long v2), (4, .int v4)]) hx hb dX10_partOf_14 hl (by decide) rfl (fun ls hl => ?_)
    exact wX10_partOf_16 C FU _ _ _ _ _ _ h _ _ _ hH (lv_sub hl [2, 3, 4, 1, 0] rfl)
  · replace h := tT hc3 h
    refine lv_iload hx hb dX10_partOf_6 (lv_at hl 2 rfl) ?_
    refine lv_i2l' hx hb dX10_partOf_8 ?_
    have h := Option.some.inj h
    subst h
    exact retL C hH dX10_partOf_9
set_option maxHeartbeats 2000000 in
set_option maxRecDepth 20000 in
theorem wX10_belief_35 (C : Cx D ca A p s m args meth c cX10_belief RX10 5 (some .long)) {q : Int64 × Mm} {mm : Mm} (h : DX10_belief_35 mm = some q) (hH : Hx WN ad ca WS D A s.heap mm H locs) (hl : lv_has ls 5 []) : W p l e (rmk 4) s m args below meth c H locs 0 0 (MQ below (QcL WN ad ca WS D A q) args s 0 0 A) (F0 m 35 ls []) := by
  unfold DX10_belief_35 at h
  have hx := C.1
  have hb := C.2.1
  refine rldc2 C (v := (-9223372036854775808)) k_RX10_225 dX10_belief_35 ?_
  have h := Option.some.inj h
  subst h
  exact retL C hH dX10_belief_38
set_option maxHeartbeats 2000000 in
set_option maxRecDepth 20000 in
theorem mX10_belief (l : Launch) {D : va_G} {ca : Nat → ClassId} {A : Nat → Prop} {ad : Nat → Nat} {v1 : Int32} {v2 : Int32} {v3 : Int32} {v4 : Int32} {mm : Mm} {q : Int64 × Mm} (h : dX10_belief v1 v2 v3 v4 mm = some q) : Met l yX10_belief (wsOf yX10_belief cX10_belief 5 (some .long)) (rmk 4) (PcX WN ad ca WS D A [.ref (ad 58), .int v1, .int v2, .int v3, .int v4] mm) (QcL WN ad ca WS D A q) 0 0 A := by
  unfold dX10_belief at h
  refine ent (by decide) (Nat.le_of_ble_eq_true rfl) (fun p e s m args below meth c hargs C hH ls hl => ?_)
  have hx := C.1
  have hb := C.2.1
  have hl : lv_has ls 5 [(0, .ref (ad 58)), (1, .int v1), (2, .int v2), (3, .int v3), (4, .int v4)] := hl
  refine lv_aload_n hx hb dX10_belief_0 rfl (lv_at hl 0 rfl) ?_
  refine lv_iload_n hx hb dX10_belief_1 rfl (lv_at hl 1 rfl) ?_
  obtain ⟨q2, e2, h⟩ := tB h
  refine rcI C hH hl.1 (mX10_bytesIs l e2) cf_RX10_217 ro_58 (RR_of (by decide) (by decide)) rfl (rest := []) rfl (Nat.le_of_ble_eq_true rfl) dX10_belief_2 ?_
  intro hz2 H locs hH
  refine lv_if_lt (tgt := 35) hx hb dX10_belief_5 (by decide) (fun hc5 => ?_) (fun hc5 => ?_)
  · replace h := tT hc5 h
    exact wX10_belief_35 C h hH (lv_sub hl [] rfl)
  · replace h := tF hc5 h
    refine lv_aload_n hx hb dX10_belief_8 rfl (lv_at hl 0 rfl) ?_
    refine lv_iload_n hx hb dX10_belief_9 rfl (lv_at hl 2 rfl) ?_
    obtain ⟨q10, e10, h⟩ := tB h
    refine rcI C hH hl.1 (mX10_isBs l e10) cf_RX10_220 ro_58 (RR_of (by decide) (by decide)) rfl (rest := []) rfl (Nat.le_of_ble_eq_true rfl) dX10_belief_10 ?_
    intro hz10 H locs hH
    refine lv_if_eq (tgt := 35) hx hb dX10_belief_13 (by decide) (fun hc13 => ?_) (fun hc13 => ?_)
    · replace h := tT hc13 h
      exact wX10_belief_35 C h hH (lv_sub hl [] rfl)
    · replace h := tF hc13 h
      refine lv_iload_n hx hb dX10_belief_16 rfl (lv_at hl 3 rfl) ?_
      refine lv_i2l' hx hb dX10_belief_17 ?_
      obtain ⟨q18, e18, h⟩ := tB h
      refine rsI C hH hl.1 (mX10_isGood l e18) cs_RX10_106 (RR_of (by decide) (by decide)) rfl (rest := []) rfl (Nat.le_of_ble_eq_true rfl) dX10_belief_18 ?_
      intro hz18 H locs hH
      refine lv_if_eq (tgt := 35) hx hb dX10_belief_21 (by decide) (fun hc21 => ?_) (fun hc21 => ?_)
      · replace h := tT hc21 h
        exact wX10_belief_35 C h hH (lv_sub hl [] rfl)
      · replace h := tF hc21 h
        refine lv_iload hx hb dX10_belief_24 (lv_at hl 4 rfl) ?_
        refine lv_i2l' hx hb dX10_belief_26 ?_
        refine lv_lconst (v := 0) hx hb dX10_belief_27 (by decide) ?_
        refine lv_lconst (v := 1) hx hb dX10_belief_28 (by decide) ?_
        obtain ⟨q29, e29, h⟩ := tB h
        refine rsI C hH hl.1 (mX10_within l e29) cs_RX10_96 (RR_of (by decide) (by decide)) rfl (rest := []) rfl (Nat.le_of_ble_eq_true rfl) dX10_belief_29 ?_
        intro hz29 H locs hH
        refine lv_if_ne (tgt := 39) hx hb dX10_belief_32 (by decide) (fun hc32 => ?_) (fun hc32 => ?_)
        · replace h := tF hc32 h
          refine lv_aload_n hx hb dX10_belief_39 rfl (lv_at hl 0 rfl) ?_
          refine lv_iload_n hx hb dX10_belief_40 rfl (lv_at hl 1 rfl) ?_
          refine lv_iload_n hx hb dX10_belief_41 rfl (lv_at hl 2 rfl) ?_
          refine lv_bipush (v := 10) hx hb dX10_belief_42 (by decide) ?_
          refine lv_idiv hx hb dX10_belief_44 (by decide) ?_
          refine lv_iload_n hx hb dX10_belief_45 rfl (lv_at hl 2 rfl) ?_
          refine lv_bipush (v := 10) hx hb dX10_belief_46 (by decide) ?_
          refine lv_irem' hx hb dX10_belief_48 (by decide) ?_
          obtain ⟨q49, e49, h⟩ := tB h
          refine rcV C hH hl.1 (mX10_weighs l e49) cf_RX10_227 ro_58 (RR_of (by decide) (by decide)) rfl (rest := []) rfl (Nat.le_of_ble_eq_true rfl) dX10_belief_49 ?_
          intro H locs hH
          refine lv_aload_n hx hb dX10_belief_52 rfl (lv_at hl 0 rfl) ?_
          refine rgS C hH fs_RX10_38_58 dX10_belief_53 ?_
          refine lv_iload_n hx hb dX10_belief_56 rfl (lv_at hl 3 rfl) ?_
          obtain ⟨hi57, h⟩ := tC h
          refine raL C hH (k := (Int32.toNatClampNeg v3)) (by decide) (show WS 68 = .inr (3, 6, 0) from rfl) hi57 rfl dX10_belief_57 ?_
          refine lv_aload_n hx hb dX10_belief_58 rfl (lv_at hl 0 rfl) ?_
          obtain ⟨q59, e59, h⟩ := tB h
          refine rcL C hH hl.1 (mX10_weightAll l e59) cf_RX10_231 ro_58 (RR_of (by decide) (by decide)) rfl (rest := [.long (gL q49.2 68 (Int32.toNatClampNeg v3))]) rfl (Nat.le_of_ble_eq_true rfl) dX10_belief_59 ?_
          intro H locs hH
          refine lv_iload hx hb dX10_belief_62 (lv_at hl 4 rfl) ?_
          obtain ⟨q64, e64, h⟩ := tB h
          refine rsL C hH hl.1 (mX10_partOf l e64) cs_RX10_235 (RR_of (by decide) (by decide)) rfl (rest := []) rfl (Nat.le_of_ble_eq_true rfl) dX10_belief_64 ?_
          intro H locs hH
          have h := Option.some.inj h
          subst h
          exact retL C hH dX10_belief_67
        · replace h := tT hc32 h
          exact wX10_belief_35 C h hH (lv_sub hl [] rfl)
set_option maxHeartbeats 2000000 in
set_option maxRecDepth 20000 in
theorem wX0_mostLikely_31 (C : Cx D ca A p s m args meth c cX0_mostLikely RX0 3 (some .int)) {q : Int32 × Mm} {k4 : Int32 → Int32 → Mm → Option (Int32 × Mm)} (hk4 : ∀ (v1 : Int32) (v2 : Int32) (mm : Mm), k4 v1 v2 mm = some q → ∀ (H : Heap) (locs : List Loc) (ls : Array Slot), Hx WN ad ca WS D A s.heap mm H locs → lv_has ls 3 [(0, .ref (ad 17)), (1, .int v1), (2, .int v2)] → W p l e (rmk 1) s m args below meth c H locs 0 0 (MQ below (QcI WN ad ca WS D A pzT q) args s 0 0 A) (F0 m 4 ls [])) {v2 : Int32} {s0 : Int32} {mm : Mm} (h : DX0_mostLikely_31 k4 v2 s0 mm = some q) (hH : Hx WN ad ca WS D A s.heap mm H locs) (hl : lv_has ls 3 [(0, .ref (ad 17)), (2, .int v2)]) : W p l e (rmk 1) s m args below meth c H locs 0 0 (MQ below (QcI WN ad ca WS D A pzT q) args s 0 0 A) (F0 m 31 ls [.int s0]) := by
  unfold DX0_mostLikely_31 at h
  have hx := C.1
  have hb := C.2.1
  refine lv_istore_n (lv' := [(1, .int s0), (0, .ref (ad 17)), (2, .int v2)]) hx hb dX0_mostLikely_31 rfl hl (by decide) rfl (fun ls hl => ?_)
  refine lv_iinc (v := (v2 + 1)) (lv' := [(2, .int (v2 + 1)), (1, .int s0), (0, .ref (ad 17))]) hx hb dX0_mostLikely_32 hl (k := 2) rfl rfl (by decide) rfl (fun ls hl => ?_)
  refine lv_goto (tgt := 4) hx hb dX0_mostLikely_35 (by decide) ?_
  exact hk4 _ _ _ h _ _ _ hH (lv_sub hl [2, 1, 0] rfl)
set_option maxHeartbeats 2000000 in
set_option maxRecDepth 20000 in
theorem wbX0_mostLikely_4 (C : Cx D ca A p s m args meth c cX0_mostLikely RX0 3 (some .int)) {q : Int32 × Mm} {k4 : Int32 → Int32 → Mm → Option (Int32 × Mm)} (hk4 : ∀ (v1 : Int32) (v2 : Int32) (mm : Mm), k4 v1 v2 mm = some q → ∀ (H : Heap) (locs : List Loc) (ls : Array Slot), Hx WN ad ca WS D A s.heap mm H locs → lv_has ls 3 [(0, .ref (ad 17)), (1, .int v1), (2, .int v2)] → W p l e (rmk 1) s m args below meth c H locs 0 0 (MQ below (QcI WN ad ca WS D A pzT q) args s 0 0 A) (F0 m 4 ls [])) {v1 : Int32} {v2 : Int32} {mm : Mm} (h : BX0_mostLikely_4 k4 v1 v2 mm = some q) (hH : Hx WN ad ca WS D A s.heap mm H locs) (hl : lv_has ls 3 [(0, .ref (ad 17)), (1, .int v1), (2, .int v2)]) : W p l e (rmk 1) s m args below meth c H locs 0 0 (MQ below (QcI WN ad ca WS D A pzT q) args s 0 0 A) (F0 m 4 ls []) := by
  unfold BX0_mostLikely_4 at h
  have hx := C.1
  have hb := C.2.1
  refine lv_iload_n hx hb dX0_mostLikely_4 rfl (lv_at hl 2 rfl) ?_
  refine lv_bipush (v := 6) hx hb dX0_mostLikely_5 (by decide) ?_
  refine lv_icmp_ge (tgt := 38) hx hb dX0_mostLikely_7 (by decide) (fun hc7 => ?_) (fun hc7 => ?_)
  · replace h := tT hc7 h
    refine lv_iload_n hx hb dX0_mostLikely_38 rfl (lv_at hl 1 rfl) ?_
    have h := Option.some.inj h
    subst h
    exact retI C hH trivial dX0_mostLikely_39
  · replace h := tF hc7 h
    refine lv_aload_n hx hb dX0_mostLikely_10 rfl (lv_at hl 0 rfl) ?_
    refine rgS C hH fs_RX0_9_17 dX0_mostLikely_11 ?_
    refine lv_iload_n hx hb dX0_mostLikely_14 rfl (lv_at hl 2 rfl) ?_
    obtain ⟨hi15, h⟩ := tC h
    refine raL C hH (k := (Int32.toNatClampNeg v2)) (by decide) (show WS 18 = .inr (3, 6, 0) from rfl) hi15 rfl dX0_mostLikely_15 ?_
    refine lv_aload_n hx hb dX0_mostLikely_16 rfl (lv_at hl 0 rfl) ?_
    refine rgS C hH fs_RX0_9_17 dX0_mostLikely_17 ?_
    refine lv_iload_n hx hb dX0_mostLikely_20 rfl (lv_at hl 1 rfl) ?_
    obtain ⟨hi21, h⟩ := tC h
    refine raL C hH (k := (Int32.toNatClampNeg v1)) (by decide) (show WS 18 = .inr (3, 6, 0) from rfl) hi21 rfl dX0_mostLikely_21 ?_
    refine lc_le (tgt := 30) hx hb dX0_mostLikely_22 dX0_mostLikely_23 (by decide) (fun hc23 => ?_) (fun hc23 => ?_)
    · replace h := tT hc23 h
      refine lv_iload_n hx hb dX0_mostLikely_30 rfl (lv_at hl 1 rfl) ?_
      exact wX0_mostLikely_31 C hk4 h hH (lv_sub hl [0, 2] rfl)
    · replace h := tF hc23 h
      refine lv_iload_n hx hb dX0_mostLikely_26 rfl (lv_at hl 2 rfl) ?_
      refine lv_goto (tgt := 31) hx hb dX0_mostLikely_27 (by decide) ?_
      exact wX0_mostLikely_31 C hk4 h hH (lv_sub hl [0, 2] rfl)
set_option maxHeartbeats 2000000 in
set_option maxRecDepth 20000 in
theorem wX0_mostLikely_4 (C : Cx D ca A p s m args meth c cX0_mostLikely RX0 3 (some .int)) {q : Int32 × Mm} : ∀ (N : Nat) (v1 : Int32) (v2 : Int32) (mm : Mm), DX0_mostLikely_4 N v1 v2 mm = some q → ∀ (H : Heap) (locs : List Loc) (ls : Array Slot), Hx WN ad ca WS D A s.heap mm H locs → lv_has ls 3 [(0, .ref (ad 17)), (1, .int v1), (2, .int v2)] → W p l e (rmk 1) s m args below meth c H locs 0 0 (MQ below (QcI WN ad ca WS D A pzT q) args s 0 0 A) (F0 m 4 ls []) := by
  intro N
  induction N with
  | zero =>
    intro v1 v2 mm h
    have h2 : (none : Option (Int32 × Mm)) = some q := h
    cases h2
  | succ N ih =>
    intro v1 v2 mm h H locs ls hH hl
    exact wbX0_mostLikely_4 C ih h hH hl
set_option maxHeartbeats 2000000 in
set_option maxRecDepth 20000 in
theorem mX0_mostLikely (l : Launch) {D : va_G} {ca : Nat → ClassId} {A : Nat → Prop} {ad : Nat → Nat} {mm : Mm} {q : Int32 × Mm} (h : dX0_mostLikely mm = some q) : Met l yX0_mostLikely (wsOf yX0_mostLikely cX0_mostLikely 3 (some .int)) (rmk 1) (PcX WN ad ca WS D A [.ref (ad 17)] mm) (QcI WN ad ca WS D A pzT q) 0 0 A := by
  unfold dX0_mostLikely at h
  refine ent (by decide) (Nat.le_of_ble_eq_true rfl) (fun p e s m args below meth c hargs C hH ls hl => ?_)
  have hx := C.1
  have hb := C.2.1
  have hl : lv_has ls 3 [(0, .ref (ad 17))] := hl
  refine lv_iconst (v := 0) hx hb dX0_mostLikely_0 (by decide) ?_
  refine lv_istore_n (lv' := [(1, .int 0), (0, .ref (ad 17))]) hx hb dX0_mostLikely_1 rfl hl (by decide) rfl (fun ls hl => ?_)
  refine lv_iconst (v := 1) hx hb dX0_mostLikely_2 (by decide) ?_
  refine lv_istore_n (lv' := [(2, .int 1), (1, .int 0), (0, .ref (ad 17))]) hx hb dX0_mostLikely_3 rfl hl (by decide) rfl (fun ls hl => ?_)
  exact wX0_mostLikely_4 C FU _ _ _ h _ _ _ hH (lv_sub hl [2, 1, 0] rfl)
set_option maxHeartbeats 2000000 in
set_option maxRecDepth 20000 in
theorem wbX0_worthSum_16 (C : Cx D ca A p s m args meth c cX0_worthSum RX0 7 (some .long)) {q : Int64 × Mm} {k16 : Int32 → Int64 → Int32 → Int32 → Mm → Option (Int64 × Mm)} (hk16 : ∀ (v1 : Int32) (v3 : Int64) (v5 : Int32) (v6 : Int32) (mm : Mm), k16 v1 v3 v5 v6 mm = some q → ∀ (H : Heap) (locs : List Loc) (ls : Array Slot), Hx WN ad ca WS D A s.heap mm H locs → lv_has ls 7 [(0, .ref (ad 17)), (1, .int v1), (3, .long v3), (5, .int v5), (6, .int v6)] → W p l e (rmk 4) s m args below meth c H locs 0 0 (MQ below (QcL WN ad ca WS D A q) args s 0 0 A) (F0 m 16 ls [])) {v1 : Int32} {v3 : Int64} {v5 : Int32} {v6 : Int32} {mm : Mm} (h : BX0_worthSum_16 k16 v1 v3 v5 v6 mm = some q) (hH : Hx WN ad ca WS D A s.heap mm H locs) (hl : lv_has ls 7 [(0, .ref (ad 17)), (1, .int v1), (3, .long v3), (5, .int v5), (6, .int v6)]) : W p l e (rmk 4) s m args below meth c H locs 0 0 (MQ below (QcL WN ad ca WS D A q) args s 0 0 A) (F0 m 16 ls []) := by
  unfold BX0_worthSum_16 at h
  have hx := C.1
  have hb := C.2.1
  refine lv_iload hx hb dX0_worthSum_16 (lv_at hl 4 rfl) ?_
  refine lv_bipush (v := 6) hx hb dX0_worthSum_18 (by decide) ?_
  refine lv_icmp_ge (tgt := 53) hx hb dX0_worthSum_20 (by decide) (fun hc20 => ?_) (fun hc20 => ?_)
  · replace h := tT hc20 h
    refine lv_lload_n hx hb dX0_worthSum_53 rfl (lv_at hl 2 rfl) ?_
    have h := Option.some.inj h
    subst h
    exact retL C hH dX0_worthSum_54
  · replace h := tF hc20 h
    refine lv_lload_n hx hb dX0_worthSum_23 rfl (lv_at hl 2 rfl) ?_
    refine lv_aload_n hx hb dX0_worthSum_24 rfl (lv_at hl 0 rfl) ?_
    refine rgS C hH fs_RX0_9_17 dX0_worthSum_25 ?_
    refine lv_iload hx hb dX0_worthSum_28 (lv_at hl 4 rfl) ?_
    obtain ⟨hi30, h⟩ := tC h
    refine raL C hH (k := (Int32.toNatClampNeg v6)) (by decide) (show WS 18 = .inr (3, 6, 0) from rfl) hi30 rfl dX0_worthSum_30 ?_
    refine lv_aload_n hx hb dX0_worthSum_31 rfl (lv_at hl 0 rfl) ?_
    refine rgS C hH fs_RX0_15_17 dX0_worthSum_32 ?_
    refine lv_iload_n hx hb dX0_worthSum_35 rfl (lv_at hl 1 rfl) ?_
    refine lv_iload hx hb dX0_worthSum_36 (lv_at hl 4 rfl) ?_
    refine lv_iload hx hb dX0_worthSum_38 (lv_at hl 3 rfl) ?_
    obtain ⟨q40, e40, h⟩ := tB h
    refine rcI C hH hl.1 (mX7_worthTo l e40) cf_RX0_57 ro_1 (RR_of (by decide) (by decide)) rfl (rest := [.long (gL mm 18 (Int32.toNatClampNeg v6)), .long v3]) rfl (Nat.le_of_ble_eq_true rfl) dX0_worthSum_40 ?_
    intro hz40 H locs hH
    refine lv_i2l' hx hb dX0_worthSum_43 ?_
    refine lv_lmul hx hb dX0_worthSum_44 ?_
    refine lv_ladd hx hb dX0_worthSum_45 ?_
    refine lv_lstore_n (lv' := [(3, .long (v3 + ((gL mm 18 (Int32.toNatClampNeg v6)) * (Int32.toInt64 q40.1)))), (0, .ref (ad 17)), (1, .int v1), (5, .int v5), (6, .int v6)]) hx hb dX0_worthSum_46 rfl hl (by decide) rfl (fun ls hl => ?_)
    refine lv_iinc (v := (v6 + 1)) (lv' := [(6, .int (v6 + 1)), (3, .long (v3 + ((gL mm 18 (Int32.toNatClampNeg v6)) * (Int32.toInt64 q40.1)))), (0, .ref (ad 17)), (1, .int v1), (5, .int v5)]) hx hb dX0_worthSum_47 hl (k := 4) rfl rfl (by decide) rfl (fun ls hl => ?_)
    refine lv_goto (tgt := 16) hx hb dX0_worthSum_50 (by decide) ?_
    exact hk16 _ _ _ _ _ h _ _ _ hH (lv_sub hl [2, 3, 1, 4, 0] rfl)
set_option maxHeartbeats 2000000 in
set_option maxRecDepth 20000 in
theorem wX0_worthSum_16 (C : Cx D ca A p s m args meth c cX0_worthSum RX0 7 (some .long)) {q : Int64 × Mm} : ∀ (N : Nat) (v1 : Int32) (v3 : Int64) (v5 : Int32) (v6 : Int32) (mm : Mm), DX0_worthSum_16 N v1 v3 v5 v6 mm = some q → ∀ (H : Heap) (locs : List Loc) (ls : Array Slot), Hx WN ad ca WS D A s.heap mm H locs → lv_has ls 7 [(0, .ref (ad 17)), (1, .int v1), (3, .long v3), (5, .int v5), (6, .int v6)] → W p l e (rmk 4) s m args below meth c H locs 0 0 (MQ below (QcL WN ad ca WS D A q) args s 0 0 A) (F0 m 16 ls []) := by
  intro N
  induction N with
  | zero =>
    intro v1 v3 v5 v6 mm h
    have h2 : (none : Option (Int64 × Mm)) = some q := h
    cases h2
  | succ N ih =>
    intro v1 v3 v5 v6 mm h H locs ls hH hl
    exact wbX0_worthSum_16 C ih h hH hl
set_option maxHeartbeats 2000000 in
set_option maxRecDepth 20000 in
theorem mX0_worthSum (l : Launch) {D : va_G} {ca : Nat → ClassId} {A : Nat → Prop} {ad : Nat → Nat} {v1 : Int32} {v2 : Int32} {mm : Mm} {q : Int64 × Mm} (h : dX0_worthSum v1 v2 mm = some q) : Met l yX0_worthSum (wsOf yX0_worthSum cX0_worthSum 7 (some .long)) (rmk 4) (PcX WN ad ca WS D A [.ref (ad 17), .int v1, .int v2] mm) (QcL WN ad ca WS D A q) 0 0 A := by
  unfold dX0_worthSum at h
  refine ent (by decide) (Nat.le_of_ble_eq_true rfl) (fun p e s m args below meth c hargs C hH ls hl => ?_)
  have hx := C.1
  have hb := C.2.1
  have hl : lv_has ls 7 [(0, .ref (ad 17)), (1, .int v1), (2, .int v2)] := hl
  refine lv_lconst (v := 0) hx hb dX0_worthSum_0 (by decide) ?_
  refine lv_lstore_n (lv' := [(3, .long 0), (0, .ref (ad 17)), (1, .int v1), (2, .int v2)]) hx hb dX0_worthSum_1 rfl hl (by decide) rfl (fun ls hl => ?_)
  refine lv_aload_n hx hb dX0_worthSum_2 rfl (lv_at hl 1 rfl) ?_
  refine rgS C hH fs_RX0_15_17 dX0_worthSum_3 ?_
  refine lv_iconst (v := 5) hx hb dX0_worthSum_6 (by decide) ?_
  refine lv_iload_n hx hb dX0_worthSum_7 rfl (lv_at hl 3 rfl) ?_
  obtain ⟨q8, e8, h⟩ := tB h
  refine rcI C hH hl.1 (mX7_told l e8) cf_RX0_25 ro_1 (RR_of (by decide) (by decide)) rfl (rest := []) rfl (Nat.le_of_ble_eq_true rfl) dX0_worthSum_8 ?_
  intro hz8 H locs hH
  refine lv_istore (lv' := [(5, .int q8.1), (3, .long 0), (0, .ref (ad 17)), (1, .int v1), (2, .int v2)]) hx hb dX0_worthSum_11 hl (by decide) rfl (fun ls hl => ?_)
  refine lv_iconst (v := 0) hx hb dX0_worthSum_13 (by decide) ?_
  refine lv_istore (lv' := [(6, .int 0), (5, .int q8.1), (3, .long 0), (0, .ref (ad 17)), (1, .int v1), (2, .int v2)]) hx hb dX0_worthSum_14 hl (by decide) rfl (fun ls hl => ?_)
  exact wX0_worthSum_16 C FU _ _ _ _ _ h _ _ _ hH (lv_sub hl [3, 4, 2, 1, 0] rfl)
set_option maxHeartbeats 2000000 in
set_option maxRecDepth 20000 in
theorem wX9_likeliest_17 (C : Cx D ca A p s m args meth c cX9_likeliest RX9 7 (some .int)) {q : Int32 × Mm} {v1 : Int32} {v2 : Int32} {v3 : Int32} {s0 : Int32} {mm : Mm} (h : DX9_likeliest_17 v1 v2 v3 s0 mm = some q) (hH : Hx WN ad ca WS D A s.heap mm H locs) (hl : lv_has ls 7 [(0, .ref (ad 0)), (1, .int v1), (2, .int v2), (3, .int v3)]) : W p l e (rmk 6) s m args below meth c H locs 0 0 (MQ below (QcI WN ad ca WS D A pzT q) args s 0 0 A) (F0 m 17 ls [.int s0]) := by
  unfold DX9_likeliest_17 at h
  have hx := C.1
  have hb := C.2.1
  refine lv_istore (lv' := [(4, .int s0), (0, .ref (ad 0)), (1, .int v1), (2, .int v2), (3, .int v3)]) hx hb dX9_likeliest_17 hl (by decide) rfl (fun ls hl => ?_)
  refine lv_iload hx hb dX9_likeliest_19 (lv_at hl 0 rfl) ?_
  refine lv_if_eq (tgt := 27) hx hb dX9_likeliest_21 (by decide) (fun hc21 => ?_) (fun hc21 => ?_)
  · replace h := tT hc21 h
    refine lv_iload_n hx hb dX9_likeliest_27 rfl (lv_at hl 3 rfl) ?_
    refine lv_bipush (v := 10) hx hb dX9_likeliest_28 (by decide) ?_
    refine lv_idiv hx hb dX9_likeliest_30 (by decide) ?_
    refine lv_istore (lv' := [(5, .int (v2 / 10)), (4, .int s0), (0, .ref (ad 0)), (1, .int v1), (2, .int v2), (3, .int v3)]) hx hb dX9_likeliest_31 hl (by decide) rfl (fun ls hl => ?_)
    refine lv_iload_n hx hb dX9_likeliest_33 rfl (lv_at hl 4 rfl) ?_
    refine lv_bipush (v := 10) hx hb dX9_likeliest_34 (by decide) ?_
    refine lv_irem' hx hb dX9_likeliest_36 (by decide) ?_
    refine lv_istore (lv' := [(6, .int (iRem v2 10)), (5, .int (v2 / 10)), (4, .int s0), (0, .ref (ad 0)), (1, .int v1), (2, .int v2), (3, .int v3)]) hx hb dX9_likeliest_37 hl (by decide) rfl (fun ls hl => ?_)
    refine lv_aload_n hx hb dX9_likeliest_39 rfl (lv_at hl 3 rfl) ?_
    refine rgS C hH fs_RX9_28_0 dX9_likeliest_40 ?_
    refine lv_aload_n hx hb dX9_likeliest_43 rfl (lv_at hl 3 rfl) ?_
    refine rgS C hH fs_RX9_62_0 dX9_likeliest_44 ?_
    refine lv_iload_n hx hb dX9_likeliest_47 rfl (lv_at hl 4 rfl) ?_
    obtain ⟨hi48, h⟩ := tC h
    refine raS C hH (o := 37) (k := (Int32.toNatClampNeg v1)) (by decide) (show WS 37 = .inr (4, 6, 38) from rfl) hi48 rfl dX9_likeliest_48 ?_
    refine lv_iload hx hb dX9_likeliest_49 (lv_at hl 1 rfl) ?_
    refine lv_iload hx hb dX9_likeliest_51 (lv_at hl 0 rfl) ?_
    obtain ⟨q53, e53, h⟩ := tB h
    refine rcV C hH hl.1 (mX0_weigh l e53) cf_RX9_140 ro_17 (RR_of (by decide) (by decide)) rfl (rest := []) rfl (Nat.le_of_ble_eq_true rfl) dX9_likeliest_53 ?_
    intro H locs hH
    refine lv_iload_n hx hb dX9_likeliest_56 rfl (lv_at hl 6 rfl) ?_
    refine lv_if_ne (tgt := 68) hx hb dX9_likeliest_57 (by decide) (fun hc57 => ?_) (fun hc57 => ?_)
    · replace h := tF hc57 h
      refine lv_aload_n hx hb dX9_likeliest_68 rfl (lv_at hl 3 rfl) ?_
      refine rgS C hH fs_RX9_28_0 dX9_likeliest_69 ?_
      refine lv_iload hx hb dX9_likeliest_72 (lv_at hl 1 rfl) ?_
      refine lv_iload hx hb dX9_likeliest_74 (lv_at hl 0 rfl) ?_
      obtain ⟨q76, e76, h⟩ := tB h
      refine rcL C hH hl.1 (mX0_worthSum l e76) cf_RX9_159 ro_17 (RR_of (by decide) (by decide)) rfl (rest := []) rfl (Nat.le_of_ble_eq_true rfl) dX9_likeliest_76 ?_
      intro H locs hH
      refine lv_aload_n hx hb dX9_likeliest_79 rfl (lv_at hl 3 rfl) ?_
      refine rgS C hH fs_RX9_10_0 dX9_likeliest_80 ?_
      refine lv_iconst (v := 5) hx hb dX9_likeliest_83 (by decide) ?_
      refine lv_iload hx hb dX9_likeliest_84 (lv_at hl 0 rfl) ?_
      obtain ⟨q86, e86, h⟩ := tB h
      refine rcI C hH hl.1 (mX7_told l e86) cf_RX9_98 ro_1 (RR_of (by decide) (by decide)) rfl (rest := [.long q76.1]) rfl (Nat.le_of_ble_eq_true rfl) dX9_likeliest_86 ?_
      intro hz86 H locs hH
      refine lv_i2l' hx hb dX9_likeliest_89 ?_
      refine lv_aload_n hx hb dX9_likeliest_90 rfl (lv_at hl 3 rfl) ?_
      refine rgS C hH fs_RX9_28_0 dX9_likeliest_91 ?_
      obtain ⟨q94, e94, h⟩ := tB h
      refine rcL C hH hl.1 (mX0_total l e94) cf_RX9_148 ro_17 (RR_of (by decide) (by decide)) rfl (rest := [.long (Int32.toInt64 q86.1), .long q76.1]) rfl (Nat.le_of_ble_eq_true rfl) dX9_likeliest_94 ?_
      intro H locs hH
      refine lv_lmul hx hb dX9_likeliest_97 ?_
      refine lc_le (tgt := 106) hx hb dX9_likeliest_98 dX9_likeliest_99 (by decide) (fun hc99 => ?_) (fun hc99 => ?_)
      · replace h := tT hc99 h
        refine lv_iconst (v := 0) hx hb dX9_likeliest_106 (by decide) ?_
        have h := Option.some.inj h
        subst h
        exact retI C hH trivial dX9_likeliest_107
      · replace h := tF hc99 h
        refine lv_iconst (v := 1) hx hb dX9_likeliest_102 (by decide) ?_
        refine lv_goto (tgt := 107) hx hb dX9_likeliest_103 (by decide) ?_
        have h := Option.some.inj h
        subst h
        exact retI C hH trivial dX9_likeliest_107
    · replace h := tT hc57 h
      refine lv_aload_n hx hb dX9_likeliest_60 rfl (lv_at hl 3 rfl) ?_
      refine rgS C hH fs_RX9_28_0 dX9_likeliest_61 ?_
      obtain ⟨q64, e64, h⟩ := tB h
      refine rcI C hH hl.1 (mX0_mostLikely l e64) cf_RX9_156 ro_17 (RR_of (by decide) (by decide)) rfl (rest := []) rfl (Nat.le_of_ble_eq_true rfl) dX9_likeliest_64 ?_
      intro hz64 H locs hH
      have h := Option.some.inj h
      subst h
      exact retI C hH trivial dX9_likeliest_67
  · replace h := tF hc21 h
    refine lv_iload hx hb dX9_likeliest_24 (lv_at hl 0 rfl) ?_
    have h := Option.some.inj h
    subst h
    exact retI C hH trivial dX9_likeliest_26
set_option maxHeartbeats 2000000 in
set_option maxRecDepth 20000 in
theorem mX9_likeliest (l : Launch) {D : va_G} {ca : Nat → ClassId} {A : Nat → Prop} {ad : Nat → Nat} {v1 : Int32} {v2 : Int32} {v3 : Int32} {mm : Mm} {q : Int32 × Mm} (h : dX9_likeliest v1 v2 v3 mm = some q) : Met l yX9_likeliest (wsOf yX9_likeliest cX9_likeliest 7 (some .int)) (rmk 6) (PcX WN ad ca WS D A [.ref (ad 0), .int v1, .int v2, .int v3] mm) (QcI WN ad ca WS D A pzT q) 0 0 A := by
  unfold dX9_likeliest at h
  refine ent (by decide) (Nat.le_of_ble_eq_true rfl) (fun p e s m args below meth c hargs C hH ls hl => ?_)
  have hx := C.1
  have hb := C.2.1
  have hl : lv_has ls 7 [(0, .ref (ad 0)), (1, .int v1), (2, .int v2), (3, .int v3)] := hl
  refine lv_iload_n hx hb dX9_likeliest_0 rfl (lv_at hl 3 rfl) ?_
  obtain ⟨q1, e1, h⟩ := tB h
  refine rsI C hH hl.1 (mX9_isPart l e1) cs_RX9_130 (RR_of (by decide) (by decide)) rfl (rest := []) rfl (Nat.le_of_ble_eq_true rfl) dX9_likeliest_1 ?_
  intro hz1 H locs hH
  refine lv_if_eq (tgt := 16) hx hb dX9_likeliest_4 (by decide) (fun hc4 => ?_) (fun hc4 => ?_)
  · replace h := tT hc4 h
    refine lv_iconst (v := (-1)) hx hb dX9_likeliest_16 (by decide) ?_
    exact wX9_likeliest_17 C h hH (lv_sub hl [0, 1, 2, 3] rfl)
  · replace h := tF hc4 h
    refine lv_aload_n hx hb dX9_likeliest_7 rfl (lv_at hl 0 rfl) ?_
    refine lv_iload_n hx hb dX9_likeliest_8 rfl (lv_at hl 1 rfl) ?_
    refine lv_iload_n hx hb dX9_likeliest_9 rfl (lv_at hl 2 rfl) ?_
    obtain ⟨q10, e10, h⟩ := tB h
    refine rcI C hH hl.1 (mX9_looksRefusal l e10) cf_RX9_133 ro_0 (RR_of (by decide) (by decide)) rfl (rest := []) rfl (Nat.le_of_ble_eq_true rfl) dX9_likeliest_10 ?_
    intro hz10 H locs hH
    refine lv_goto (tgt := 17) hx hb dX9_likeliest_13 (by decide) ?_
    exact wX9_likeliest_17 C h hH (lv_sub hl [0, 1, 2, 3] rfl)
set_option maxHeartbeats 2000000 in
set_option maxRecDepth 20000 in
theorem wX10_heaviest_31 (C : Cx D ca A p s m args meth c cX10_heaviest RX10 3 (some .int)) {q : Int32 × Mm} {k4 : Int32 → Int32 → Mm → Option (Int32 × Mm)} (hk4 : ∀ (v1 : Int32) (v2 : Int32) (mm : Mm), k4 v1 v2 mm = some q → ∀ (H : Heap) (locs : List Loc) (ls : Array Slot), Hx WN ad ca WS D A s.heap mm H locs → lv_has ls 3 [(0, .ref (ad 58)), (1, .int v1), (2, .int v2)] → W p l e (rmk 1) s m args below meth c H locs 0 0 (MQ below (QcI WN ad ca WS D A pzT q) args s 0 0 A) (F0 m 4 ls [])) {v2 : Int32} {s0 : Int32} {mm : Mm} (h : DX10_heaviest_31 k4 v2 s0 mm = some q) (hH : Hx WN ad ca WS D A s.heap mm H locs) (hl : lv_has ls 3 [(0, .ref (ad 58)), (2, .int v2)]) : W p l e (rmk 1) s m args below meth c H locs 0 0 (MQ below (QcI WN ad ca WS D A pzT q) args s 0 0 A) (F0 m 31 ls [.int s0]) := by
  unfold DX10_heaviest_31 at h
  have hx := C.1
  have hb := C.2.1
  refine lv_istore_n (lv' := [(1, .int s0), (0, .ref (ad 58)), (2, .int v2)]) hx hb dX10_heaviest_31 rfl hl (by decide) rfl (fun ls hl => ?_)
  refine lv_iinc (v := (v2 + 1)) (lv' := [(2, .int (v2 + 1)), (1, .int s0), (0, .ref (ad 58))]) hx hb dX10_heaviest_32 hl (k := 2) rfl rfl (by decide) rfl (fun ls hl => ?_)
  refine lv_goto (tgt := 4) hx hb dX10_heaviest_35 (by decide) ?_
  exact hk4 _ _ _ h _ _ _ hH (lv_sub hl [2, 1, 0] rfl)
set_option maxHeartbeats 2000000 in
set_option maxRecDepth 20000 in
theorem wbX10_heaviest_4 (C : Cx D ca A p s m args meth c cX10_heaviest RX10 3 (some .int)) {q : Int32 × Mm} {k4 : Int32 → Int32 → Mm → Option (Int32 × Mm)} (hk4 : ∀ (v1 : Int32) (v2 : Int32) (mm : Mm), k4 v1 v2 mm = some q → ∀ (H : Heap) (locs : List Loc) (ls : Array Slot), Hx WN ad ca WS D A s.heap mm H locs → lv_has ls 3 [(0, .ref (ad 58)), (1, .int v1), (2, .int v2)] → W p l e (rmk 1) s m args below meth c H locs 0 0 (MQ below (QcI WN ad ca WS D A pzT q) args s 0 0 A) (F0 m 4 ls [])) {v1 : Int32} {v2 : Int32} {mm : Mm} (h : BX10_heaviest_4 k4 v1 v2 mm = some q) (hH : Hx WN ad ca WS D A s.heap mm H locs) (hl : lv_has ls 3 [(0, .ref (ad 58)), (1, .int v1), (2, .int v2)]) : W p l e (rmk 1) s m args below meth c H locs 0 0 (MQ below (QcI WN ad ca WS D A pzT q) args s 0 0 A) (F0 m 4 ls []) := by
  unfold BX10_heaviest_4 at h
  have hx := C.1
  have hb := C.2.1
  refine lv_iload_n hx hb dX10_heaviest_4 rfl (lv_at hl 2 rfl) ?_
  refine lv_bipush (v := 6) hx hb dX10_heaviest_5 (by decide) ?_
  refine lv_icmp_ge (tgt := 38) hx hb dX10_heaviest_7 (by decide) (fun hc7 => ?_) (fun hc7 => ?_)
  · replace h := tT hc7 h
    refine lv_iload_n hx hb dX10_heaviest_38 rfl (lv_at hl 1 rfl) ?_
    have h := Option.some.inj h
    subst h
    exact retI C hH trivial dX10_heaviest_39
  · replace h := tF hc7 h
    refine lv_aload_n hx hb dX10_heaviest_10 rfl (lv_at hl 0 rfl) ?_
    refine rgS C hH fs_RX10_38_58 dX10_heaviest_11 ?_
    refine lv_iload_n hx hb dX10_heaviest_14 rfl (lv_at hl 2 rfl) ?_
    obtain ⟨hi15, h⟩ := tC h
    refine raL C hH (k := (Int32.toNatClampNeg v2)) (by decide) (show WS 68 = .inr (3, 6, 0) from rfl) hi15 rfl dX10_heaviest_15 ?_
    refine lv_aload_n hx hb dX10_heaviest_16 rfl (lv_at hl 0 rfl) ?_
    refine rgS C hH fs_RX10_38_58 dX10_heaviest_17 ?_
    refine lv_iload_n hx hb dX10_heaviest_20 rfl (lv_at hl 1 rfl) ?_
    obtain ⟨hi21, h⟩ := tC h
    refine raL C hH (k := (Int32.toNatClampNeg v1)) (by decide) (show WS 68 = .inr (3, 6, 0) from rfl) hi21 rfl dX10_heaviest_21 ?_
    refine lc_le (tgt := 30) hx hb dX10_heaviest_22 dX10_heaviest_23 (by decide) (fun hc23 => ?_) (fun hc23 => ?_)
    · replace h := tT hc23 h
      refine lv_iload_n hx hb dX10_heaviest_30 rfl (lv_at hl 1 rfl) ?_
      exact wX10_heaviest_31 C hk4 h hH (lv_sub hl [0, 2] rfl)
    · replace h := tF hc23 h
      refine lv_iload_n hx hb dX10_heaviest_26 rfl (lv_at hl 2 rfl) ?_
      refine lv_goto (tgt := 31) hx hb dX10_heaviest_27 (by decide) ?_
      exact wX10_heaviest_31 C hk4 h hH (lv_sub hl [0, 2] rfl)
set_option maxHeartbeats 2000000 in
set_option maxRecDepth 20000 in
theorem wX10_heaviest_4 (C : Cx D ca A p s m args meth c cX10_heaviest RX10 3 (some .int)) {q : Int32 × Mm} : ∀ (N : Nat) (v1 : Int32) (v2 : Int32) (mm : Mm), DX10_heaviest_4 N v1 v2 mm = some q → ∀ (H : Heap) (locs : List Loc) (ls : Array Slot), Hx WN ad ca WS D A s.heap mm H locs → lv_has ls 3 [(0, .ref (ad 58)), (1, .int v1), (2, .int v2)] → W p l e (rmk 1) s m args below meth c H locs 0 0 (MQ below (QcI WN ad ca WS D A pzT q) args s 0 0 A) (F0 m 4 ls []) := by
  intro N
  induction N with
  | zero =>
    intro v1 v2 mm h
    have h2 : (none : Option (Int32 × Mm)) = some q := h
    cases h2
  | succ N ih =>
    intro v1 v2 mm h H locs ls hH hl
    exact wbX10_heaviest_4 C ih h hH hl
set_option maxHeartbeats 2000000 in
set_option maxRecDepth 20000 in
theorem mX10_heaviest (l : Launch) {D : va_G} {ca : Nat → ClassId} {A : Nat → Prop} {ad : Nat → Nat} {mm : Mm} {q : Int32 × Mm} (h : dX10_heaviest mm = some q) : Met l yX10_heaviest (wsOf yX10_heaviest cX10_heaviest 3 (some .int)) (rmk 1) (PcX WN ad ca WS D A [.ref (ad 58)] mm) (QcI WN ad ca WS D A pzT q) 0 0 A := by
  unfold dX10_heaviest at h
  refine ent (by decide) (Nat.le_of_ble_eq_true rfl) (fun p e s m args below meth c hargs C hH ls hl => ?_)
  have hx := C.1
  have hb := C.2.1
  have hl : lv_has ls 3 [(0, .ref (ad 58))] := hl
  refine lv_iconst (v := 0) hx hb dX10_heaviest_0 (by decide) ?_
  refine lv_istore_n (lv' := [(1, .int 0), (0, .ref (ad 58))]) hx hb dX10_heaviest_1 rfl hl (by decide) rfl (fun ls hl => ?_)
  refine lv_iconst (v := 1) hx hb dX10_heaviest_2 (by decide) ?_
  refine lv_istore_n (lv' := [(2, .int 1), (1, .int 0), (0, .ref (ad 58))]) hx hb dX10_heaviest_3 rfl hl (by decide) rfl (fun ls hl => ?_)
  exact wX10_heaviest_4 C FU _ _ _ h _ _ _ hH (lv_sub hl [2, 1, 0] rfl)
set_option maxHeartbeats 2000000 in
set_option maxRecDepth 20000 in
theorem wbX10_worthAll_6 (C : Cx D ca A p s m args meth c cX10_worthAll RX10 7 (some .long)) {q : Int64 × Mm} {k6 : Int32 → Int32 → Int64 → Int32 → Mm → Option (Int64 × Mm)} (hk6 : ∀ (v1 : Int32) (v3 : Int32) (v4 : Int64) (v6 : Int32) (mm : Mm), k6 v1 v3 v4 v6 mm = some q → ∀ (H : Heap) (locs : List Loc) (ls : Array Slot), Hx WN ad ca WS D A s.heap mm H locs → lv_has ls 7 [(0, .ref (ad 58)), (1, .int v1), (3, .int v3), (4, .long v4), (6, .int v6)] → W p l e (rmk 106) s m args below meth c H locs 0 0 (MQ below (QcL WN ad ca WS D A q) args s 0 0 A) (F0 m 6 ls [])) {v1 : Int32} {v3 : Int32} {v4 : Int64} {v6 : Int32} {mm : Mm} (h : BX10_worthAll_6 k6 v1 v3 v4 v6 mm = some q) (hH : Hx WN ad ca WS D A s.heap mm H locs) (hl : lv_has ls 7 [(0, .ref (ad 58)), (1, .int v1), (3, .int v3), (4, .long v4), (6, .int v6)]) : W p l e (rmk 106) s m args below meth c H locs 0 0 (MQ below (QcL WN ad ca WS D A q) args s 0 0 A) (F0 m 6 ls []) := by
  unfold BX10_worthAll_6 at h
  have hx := C.1
  have hb := C.2.1
  refine lv_iload hx hb dX10_worthAll_6 (lv_at hl 4 rfl) ?_
  refine lv_bipush (v := 6) hx hb dX10_worthAll_8 (by decide) ?_
  refine lv_icmp_ge (tgt := 41) hx hb dX10_worthAll_10 (by decide) (fun hc10 => ?_) (fun hc10 => ?_)
  · replace h := tT hc10 h
    refine lv_lload hx hb dX10_worthAll_41 (lv_at hl 3 rfl) ?_
    have h := Option.some.inj h
    subst h
    exact retL C hH dX10_worthAll_43
  · replace h := tF hc10 h
    refine lv_lload hx hb dX10_worthAll_13 (lv_at hl 3 rfl) ?_
    refine lv_aload_n hx hb dX10_worthAll_15 rfl (lv_at hl 0 rfl) ?_
    refine rgS C hH fs_RX10_38_58 dX10_worthAll_16 ?_
    refine lv_iload hx hb dX10_worthAll_19 (lv_at hl 4 rfl) ?_
    obtain ⟨hi21, h⟩ := tC h
    refine raL C hH (k := (Int32.toNatClampNeg v6)) (by decide) (show WS 68 = .inr (3, 6, 0) from rfl) hi21 rfl dX10_worthAll_21 ?_
    refine lv_aload_n hx hb dX10_worthAll_22 rfl (lv_at hl 0 rfl) ?_
    refine lv_iload_n hx hb dX10_worthAll_23 rfl (lv_at hl 1 rfl) ?_
    refine lv_iload hx hb dX10_worthAll_24 (lv_at hl 4 rfl) ?_
    refine lv_iload_n hx hb dX10_worthAll_26 rfl (lv_at hl 2 rfl) ?_
    obtain ⟨q27, e27, h⟩ := tB h
    refine rcI C hH hl.1 (mX10_worthFor l e27) cf_RX10_207 ro_58 (RR_of (by decide) (by decide)) rfl (rest := [.long (gL mm 68 (Int32.toNatClampNeg v6)), .long v4]) rfl (Nat.le_of_ble_eq_true rfl) dX10_worthAll_27 ?_
    intro hz27 H locs hH
    refine lv_i2l' hx hb dX10_worthAll_30 ?_
    refine lv_lmul hx hb dX10_worthAll_31 ?_
    refine lv_ladd hx hb dX10_worthAll_32 ?_
    refine lv_lstore (lv' := [(4, .long (v4 + ((gL mm 68 (Int32.toNatClampNeg v6)) * (Int32.toInt64 q27.1)))), (0, .ref (ad 58)), (1, .int v1), (3, .int v3), (6, .int v6)]) hx hb dX10_worthAll_33 hl (by decide) rfl (fun ls hl => ?_)
    refine lv_iinc (v := (v6 + 1)) (lv' := [(6, .int (v6 + 1)), (4, .long (v4 + ((gL mm 68 (Int32.toNatClampNeg v6)) * (Int32.toInt64 q27.1)))), (0, .ref (ad 58)), (1, .int v1), (3, .int v3)]) hx hb dX10_worthAll_35 hl (k := 4) rfl rfl (by decide) rfl (fun ls hl => ?_)
    refine lv_goto (tgt := 6) hx hb dX10_worthAll_38 (by decide) ?_
    exact hk6 _ _ _ _ _ h _ _ _ hH (lv_sub hl [2, 3, 4, 1, 0] rfl)
set_option maxHeartbeats 2000000 in
set_option maxRecDepth 20000 in
theorem wX10_worthAll_6 (C : Cx D ca A p s m args meth c cX10_worthAll RX10 7 (some .long)) {q : Int64 × Mm} : ∀ (N : Nat) (v1 : Int32) (v3 : Int32) (v4 : Int64) (v6 : Int32) (mm : Mm), DX10_worthAll_6 N v1 v3 v4 v6 mm = some q → ∀ (H : Heap) (locs : List Loc) (ls : Array Slot), Hx WN ad ca WS D A s.heap mm H locs → lv_has ls 7 [(0, .ref (ad 58)), (1, .int v1), (3, .int v3), (4, .long v4), (6, .int v6)] → W p l e (rmk 106) s m args below meth c H locs 0 0 (MQ below (QcL WN ad ca WS D A q) args s 0 0 A) (F0 m 6 ls []) := by
  intro N
  induction N with
  | zero =>
    intro v1 v3 v4 v6 mm h
    have h2 : (none : Option (Int64 × Mm)) = some q := h
    cases h2
  | succ N ih =>
    intro v1 v3 v4 v6 mm h H locs ls hH hl
    exact wbX10_worthAll_6 C ih h hH hl
set_option maxHeartbeats 2000000 in
set_option maxRecDepth 20000 in
theorem mX10_worthAll (l : Launch) {D : va_G} {ca : Nat → ClassId} {A : Nat → Prop} {ad : Nat → Nat} {v1 : Int32} {v2 : Int32} {v3 : Int32} {mm : Mm} {q : Int64 × Mm} (h : dX10_worthAll v1 v2 v3 mm = some q) : Met l yX10_worthAll (wsOf yX10_worthAll cX10_worthAll 7 (some .long)) (rmk 106) (PcX WN ad ca WS D A [.ref (ad 58), .int v1, .int v2, .int v3] mm) (QcL WN ad ca WS D A q) 0 0 A := by
  unfold dX10_worthAll at h
  refine ent (by decide) (Nat.le_of_ble_eq_true rfl) (fun p e s m args below meth c hargs C hH ls hl => ?_)
  have hx := C.1
  have hb := C.2.1
  have hl : lv_has ls 7 [(0, .ref (ad 58)), (1, .int v1), (2, .int v2), (3, .int v3)] := hl
  refine lv_lconst (v := 0) hx hb dX10_worthAll_0 (by decide) ?_
  refine lv_lstore (lv' := [(4, .long 0), (0, .ref (ad 58)), (1, .int v1), (2, .int v2), (3, .int v3)]) hx hb dX10_worthAll_1 hl (by decide) rfl (fun ls hl => ?_)
  refine lv_iconst (v := 0) hx hb dX10_worthAll_3 (by decide) ?_
  refine lv_istore (lv' := [(6, .int 0), (4, .long 0), (0, .ref (ad 58)), (1, .int v1), (2, .int v2), (3, .int v3)]) hx hb dX10_worthAll_4 hl (by decide) rfl (fun ls hl => ?_)
  exact wX10_worthAll_6 C FU _ _ _ _ _ h _ _ _ hH (lv_sub hl [2, 3, 5, 1, 0] rfl)
set_option maxHeartbeats 2000000 in
set_option maxRecDepth 20000 in
theorem wX10_likeliest_27 (C : Cx D ca A p s m args meth c cX10_likeliest RX10 5 (some .int)) {q : Int32 × Mm} {mm : Mm} (h : DX10_likeliest_27 mm = some q) (hH : Hx WN ad ca WS D A s.heap mm H locs) (hl : lv_has ls 5 []) : W p l e (rmk 107) s m args below meth c H locs 0 0 (MQ below (QcI WN ad ca WS D A pzT q) args s 0 0 A) (F0 m 27 ls []) := by
  unfold DX10_likeliest_27 at h
  have hx := C.1
  have hb := C.2.1
  refine lv_iconst (v := (-1)) hx hb dX10_likeliest_27 (by decide) ?_
  have h := Option.some.inj h
  subst h
  exact retI C hH trivial dX10_likeliest_28
set_option maxHeartbeats 2000000 in
set_option maxRecDepth 20000 in
theorem mX10_likeliest (l : Launch) {D : va_G} {ca : Nat → ClassId} {A : Nat → Prop} {ad : Nat → Nat} {v1 : Int32} {v2 : Int32} {v3 : Int32} {mm : Mm} {q : Int32 × Mm} (h : dX10_likeliest v1 v2 v3 mm = some q) : Met l yX10_likeliest (wsOf yX10_likeliest cX10_likeliest 5 (some .int)) (rmk 107) (PcX WN ad ca WS D A [.ref (ad 58), .int v1, .int v2, .int v3] mm) (QcI WN ad ca WS D A pzT q) 0 0 A := by
  unfold dX10_likeliest at h
  refine ent (by decide) (Nat.le_of_ble_eq_true rfl) (fun p e s m args below meth c hargs C hH ls hl => ?_)
  have hx := C.1
  have hb := C.2.1
  have hl : lv_has ls 5 [(0, .ref (ad 58)), (1, .int v1), (2, .int v2), (3, .int v3)] := hl
  refine lv_aload_n hx hb dX10_likeliest_0 rfl (lv_at hl 0 rfl) ?_
  refine lv_iload_n hx hb dX10_likeliest_1 rfl (lv_at hl 1 rfl) ?_
  obtain ⟨q2, e2, h⟩ := tB h
  refine rcI C hH hl.1 (mX10_bytesIs l e2) cf_RX10_217 ro_58 (RR_of (by decide) (by decide)) rfl (rest := []) rfl (Nat.le_of_ble_eq_true rfl) dX10_likeliest_2 ?_
  intro hz2 H locs hH
  refine lv_iconst (v := (-1)) hx hb dX10_likeliest_5 (by decide) ?_
  refine lv_icmp_eq (tgt := 27) hx hb dX10_likeliest_6 (by decide) (fun hc6 => ?_) (fun hc6 => ?_)
  · replace h := tT hc6 h
    exact wX10_likeliest_27 C h hH (lv_sub hl [] rfl)
  · replace h := tF hc6 h
    refine lv_aload_n hx hb dX10_likeliest_9 rfl (lv_at hl 0 rfl) ?_
    refine lv_iload_n hx hb dX10_likeliest_10 rfl (lv_at hl 2 rfl) ?_
    obtain ⟨q11, e11, h⟩ := tB h
    refine rcI C hH hl.1 (mX10_isBs l e11) cf_RX10_220 ro_58 (RR_of (by decide) (by decide)) rfl (rest := []) rfl (Nat.le_of_ble_eq_true rfl) dX10_likeliest_11 ?_
    intro hz11 H locs hH
    refine lv_if_eq (tgt := 27) hx hb dX10_likeliest_14 (by decide) (fun hc14 => ?_) (fun hc14 => ?_)
    · replace h := tT hc14 h
      exact wX10_likeliest_27 C h hH (lv_sub hl [] rfl)
    · replace h := tF hc14 h
      refine lv_iload_n hx hb dX10_likeliest_17 rfl (lv_at hl 3 rfl) ?_
      refine lv_i2l' hx hb dX10_likeliest_18 ?_
      refine lv_lconst (v := 0) hx hb dX10_likeliest_19 (by decide) ?_
      refine lv_lconst (v := 1) hx hb dX10_likeliest_20 (by decide) ?_
      obtain ⟨q21, e21, h⟩ := tB h
      refine rsI C hH hl.1 (mX10_within l e21) cs_RX10_96 (RR_of (by decide) (by decide)) rfl (rest := []) rfl (Nat.le_of_ble_eq_true rfl) dX10_likeliest_21 ?_
      intro hz21 H locs hH
      refine lv_if_ne (tgt := 29) hx hb dX10_likeliest_24 (by decide) (fun hc24 => ?_) (fun hc24 => ?_)
      · replace h := tF hc24 h
        refine lv_aload_n hx hb dX10_likeliest_29 rfl (lv_at hl 0 rfl) ?_
        refine lv_iload_n hx hb dX10_likeliest_30 rfl (lv_at hl 1 rfl) ?_
        obtain ⟨q31, e31, h⟩ := tB h
        refine rcI C hH hl.1 (mX10_bytesIs l e31) cf_RX10_217 ro_58 (RR_of (by decide) (by decide)) rfl (rest := []) rfl (Nat.le_of_ble_eq_true rfl) dX10_likeliest_31 ?_
        intro hz31 H locs hH
        refine lv_if_ge (tgt := 43) hx hb dX10_likeliest_34 (by decide) (fun hc34 => ?_) (fun hc34 => ?_)
        · replace h := tT hc34 h
          refine lv_aload_n hx hb dX10_likeliest_43 rfl (lv_at hl 0 rfl) ?_
          refine lv_iload_n hx hb dX10_likeliest_44 rfl (lv_at hl 1 rfl) ?_
          refine lv_iload_n hx hb dX10_likeliest_45 rfl (lv_at hl 2 rfl) ?_
          refine lv_bipush (v := 10) hx hb dX10_likeliest_46 (by decide) ?_
          refine lv_idiv hx hb dX10_likeliest_48 (by decide) ?_
          refine lv_iload_n hx hb dX10_likeliest_49 rfl (lv_at hl 2 rfl) ?_
          refine lv_bipush (v := 10) hx hb dX10_likeliest_50 (by decide) ?_
          refine lv_irem' hx hb dX10_likeliest_52 (by decide) ?_
          obtain ⟨q53, e53, h⟩ := tB h
          refine rcV C hH hl.1 (mX10_weighs l e53) cf_RX10_227 ro_58 (RR_of (by decide) (by decide)) rfl (rest := []) rfl (Nat.le_of_ble_eq_true rfl) dX10_likeliest_53 ?_
          intro H locs hH
          refine lv_aload_n hx hb dX10_likeliest_56 rfl (lv_at hl 0 rfl) ?_
          refine rgS C hH fs_RX10_9_58 dX10_likeliest_57 ?_
          refine lv_bipush (v := 34) hx hb dX10_likeliest_60 (by decide) ?_
          refine lv_iload_n hx hb dX10_likeliest_62 rfl (lv_at hl 2 rfl) ?_
          refine lv_bipush (v := 10) hx hb dX10_likeliest_63 (by decide) ?_
          refine lv_irem' hx hb dX10_likeliest_65 (by decide) ?_
          refine lv_iadd hx hb dX10_likeliest_66 ?_
          obtain ⟨hi67, h⟩ := tC h
          refine raI C hH (k := (Int32.toNatClampNeg (34 + (iRem v2 10)))) (by decide) (show WS 59 = .inr (0, 62, 0) from rfl) hi67 rfl dX10_likeliest_67 ?_
          refine lv_istore (lv' := [(4, .int (gI q53.2 59 (Int32.toNatClampNeg (34 + (iRem v2 10))))), (0, .ref (ad 58)), (1, .int v1), (2, .int v2), (3, .int v3)]) hx hb dX10_likeliest_68 hl (by decide) rfl (fun ls hl => ?_)
          refine lv_iload_n hx hb dX10_likeliest_70 rfl (lv_at hl 4 rfl) ?_
          refine lv_if_ne (tgt := 81) hx hb dX10_likeliest_71 (by decide) (fun hc71 => ?_) (fun hc71 => ?_)
          · replace h := tF hc71 h
            refine lv_aload_n hx hb dX10_likeliest_81 rfl (lv_at hl 1 rfl) ?_
            refine lv_iload_n hx hb dX10_likeliest_82 rfl (lv_at hl 3 rfl) ?_
            refine lv_bipush (v := 10) hx hb dX10_likeliest_83 (by decide) ?_
            refine lv_idiv hx hb dX10_likeliest_85 (by decide) ?_
            refine lv_iload_n hx hb dX10_likeliest_86 rfl (lv_at hl 3 rfl) ?_
            refine lv_bipush (v := 10) hx hb dX10_likeliest_87 (by decide) ?_
            refine lv_irem' hx hb dX10_likeliest_89 (by decide) ?_
            refine lv_iload hx hb dX10_likeliest_90 (lv_at hl 0 rfl) ?_
            obtain ⟨q92, e92, h⟩ := tB h
            refine rcL C hH hl.1 (mX10_worthAll l e92) cf_RX10_242 ro_58 (RR_of (by decide) (by decide)) rfl (rest := []) rfl (Nat.le_of_ble_eq_true rfl) dX10_likeliest_92 ?_
            intro H locs hH
            refine lv_iload hx hb dX10_likeliest_95 (lv_at hl 0 rfl) ?_
            refine lv_i2l' hx hb dX10_likeliest_97 ?_
            refine lv_aload_n hx hb dX10_likeliest_98 rfl (lv_at hl 1 rfl) ?_
            obtain ⟨q99, e99, h⟩ := tB h
            refine rcL C hH hl.1 (mX10_weightAll l e99) cf_RX10_231 ro_58 (RR_of (by decide) (by decide)) rfl (rest := [.long (Int32.toInt64 (gI q53.2 59 (Int32.toNatClampNeg (34 + (iRem v2 10))))), .long q92.1]) rfl (Nat.le_of_ble_eq_true rfl) dX10_likeliest_99 ?_
            intro H locs hH
            refine lv_lmul hx hb dX10_likeliest_102 ?_
            refine lc_le (tgt := 111) hx hb dX10_likeliest_103 dX10_likeliest_104 (by decide) (fun hc104 => ?_) (fun hc104 => ?_)
            · replace h := tT hc104 h
              refine lv_iconst (v := 0) hx hb dX10_likeliest_111 (by decide) ?_
              have h := Option.some.inj h
              subst h
              exact retI C hH trivial dX10_likeliest_112
            · replace h := tF hc104 h
              refine lv_iconst (v := 1) hx hb dX10_likeliest_107 (by decide) ?_
              refine lv_goto (tgt := 112) hx hb dX10_likeliest_108 (by decide) ?_
              have h := Option.some.inj h
              subst h
              exact retI C hH trivial dX10_likeliest_112
          · replace h := tT hc71 h
            refine lv_aload_n hx hb dX10_likeliest_74 rfl (lv_at hl 1 rfl) ?_
            obtain ⟨q75, e75, h⟩ := tB h
            refine rcI C hH hl.1 (mX10_heaviest l e75) cf_RX10_239 ro_58 (RR_of (by decide) (by decide)) rfl (rest := []) rfl (Nat.le_of_ble_eq_true rfl) dX10_likeliest_75 ?_
            intro hz75 H locs hH
            refine lv_goto (tgt := 112) hx hb dX10_likeliest_78 (by decide) ?_
            have h := Option.some.inj h
            subst h
            exact retI C hH trivial dX10_likeliest_112
        · replace h := tF hc34 h
          refine lv_aload_n hx hb dX10_likeliest_37 rfl (lv_at hl 0 rfl) ?_
          refine lv_iload_n hx hb dX10_likeliest_38 rfl (lv_at hl 1 rfl) ?_
          obtain ⟨q39, e39, h⟩ := tB h
          refine rcI C hH hl.1 (mX10_bytesIs l e39) cf_RX10_217 ro_58 (RR_of (by decide) (by decide)) rfl (rest := []) rfl (Nat.le_of_ble_eq_true rfl) dX10_likeliest_39 ?_
          intro hz39 H locs hH
          have h := Option.some.inj h
          subst h
          exact retI C hH trivial dX10_likeliest_42
      · replace h := tT hc24 h
        exact wX10_likeliest_27 C h hH (lv_sub hl [] rfl)
set_option maxHeartbeats 2000000 in
set_option maxRecDepth 20000 in
theorem wX9_worth_16 (C : Cx D ca A p s m args meth c cX9_worth RX9 4 (some .long)) {q : Int64 × Mm} {mm : Mm} (h : DX9_worth_16 mm = some q) (hH : Hx WN ad ca WS D A s.heap mm H locs) (hl : lv_has ls 4 []) : W p l e (rmk 6) s m args below meth c H locs 0 0 (MQ below (QcL WN ad ca WS D A q) args s 0 0 A) (F0 m 16 ls []) := by
  unfold DX9_worth_16 at h
  have hx := C.1
  have hb := C.2.1
  refine rldc2 C (v := (-9223372036854775808)) k_RX9_138 dX9_worth_16 ?_
  have h := Option.some.inj h
  subst h
  exact retL C hH dX9_worth_19
set_option maxHeartbeats 2000000 in
set_option maxRecDepth 20000 in
theorem mX9_worth (l : Launch) {D : va_G} {ca : Nat → ClassId} {A : Nat → Prop} {ad : Nat → Nat} {v1 : Int32} {v2 : Int32} {v3 : Int32} {mm : Mm} {q : Int64 × Mm} (h : dX9_worth v1 v2 v3 mm = some q) : Met l yX9_worth (wsOf yX9_worth cX9_worth 4 (some .long)) (rmk 6) (PcX WN ad ca WS D A [.ref (ad 0), .int v1, .int v2, .int v3] mm) (QcL WN ad ca WS D A q) 0 0 A := by
  unfold dX9_worth at h
  refine ent (by decide) (Nat.le_of_ble_eq_true rfl) (fun p e s m args below meth c hargs C hH ls hl => ?_)
  have hx := C.1
  have hb := C.2.1
  have hl : lv_has ls 4 [(0, .ref (ad 0)), (1, .int v1), (2, .int v2), (3, .int v3)] := hl
  refine lv_iload_n hx hb dX9_worth_0 rfl (lv_at hl 3 rfl) ?_
  obtain ⟨q1, e1, h⟩ := tB h
  refine rsI C hH hl.1 (mX9_isPart l e1) cs_RX9_130 (RR_of (by decide) (by decide)) rfl (rest := []) rfl (Nat.le_of_ble_eq_true rfl) dX9_worth_1 ?_
  intro hz1 H locs hH
  refine lv_if_eq (tgt := 16) hx hb dX9_worth_4 (by decide) (fun hc4 => ?_) (fun hc4 => ?_)
  · replace h := tT hc4 h
    exact wX9_worth_16 C h hH (lv_sub hl [] rfl)
  · replace h := tF hc4 h
    refine lv_aload_n hx hb dX9_worth_7 rfl (lv_at hl 0 rfl) ?_
    refine lv_iload_n hx hb dX9_worth_8 rfl (lv_at hl 1 rfl) ?_
    refine lv_iload_n hx hb dX9_worth_9 rfl (lv_at hl 2 rfl) ?_
    obtain ⟨q10, e10, h⟩ := tB h
    refine rcI C hH hl.1 (mX9_looksRefusal l e10) cf_RX9_133 ro_0 (RR_of (by decide) (by decide)) rfl (rest := []) rfl (Nat.le_of_ble_eq_true rfl) dX9_worth_10 ?_
    intro hz10 H locs hH
    refine lv_if_eq (tgt := 20) hx hb dX9_worth_13 (by decide) (fun hc13 => ?_) (fun hc13 => ?_)
    · replace h := tT hc13 h
      refine lv_aload_n hx hb dX9_worth_20 rfl (lv_at hl 0 rfl) ?_
      refine rgS C hH fs_RX9_28_0 dX9_worth_21 ?_
      refine lv_aload_n hx hb dX9_worth_24 rfl (lv_at hl 0 rfl) ?_
      refine rgS C hH fs_RX9_62_0 dX9_worth_25 ?_
      refine lv_iload_n hx hb dX9_worth_28 rfl (lv_at hl 1 rfl) ?_
      obtain ⟨hi29, h⟩ := tC h
      refine raS C hH (o := 37) (k := (Int32.toNatClampNeg v1)) (by decide) (show WS 37 = .inr (4, 6, 38) from rfl) hi29 rfl dX9_worth_29 ?_
      refine lv_iload_n hx hb dX9_worth_30 rfl (lv_at hl 2 rfl) ?_
      refine lv_bipush (v := 10) hx hb dX9_worth_31 (by decide) ?_
      refine lv_idiv hx hb dX9_worth_33 (by decide) ?_
      refine lv_iload_n hx hb dX9_worth_34 rfl (lv_at hl 2 rfl) ?_
      refine lv_bipush (v := 10) hx hb dX9_worth_35 (by decide) ?_
      refine lv_irem' hx hb dX9_worth_37 (by decide) ?_
      obtain ⟨q38, e38, h⟩ := tB h
      refine rcV C hH hl.1 (mX0_weigh l e38) cf_RX9_140 ro_17 (RR_of (by decide) (by decide)) rfl (rest := []) rfl (Nat.le_of_ble_eq_true rfl) dX9_worth_38 ?_
      intro H locs hH
      refine lv_aload_n hx hb dX9_worth_41 rfl (lv_at hl 0 rfl) ?_
      refine rgS C hH fs_RX9_28_0 dX9_worth_42 ?_
      refine lv_iload_n hx hb dX9_worth_45 rfl (lv_at hl 2 rfl) ?_
      refine lv_bipush (v := 10) hx hb dX9_worth_46 (by decide) ?_
      refine lv_idiv hx hb dX9_worth_48 (by decide) ?_
      refine lv_iload_n hx hb dX9_worth_49 rfl (lv_at hl 2 rfl) ?_
      refine lv_bipush (v := 10) hx hb dX9_worth_50 (by decide) ?_
      refine lv_irem' hx hb dX9_worth_52 (by decide) ?_
      obtain ⟨q53, e53, h⟩ := tB h
      refine rcL C hH hl.1 (mX0_worthSum l e53) cf_RX9_159 ro_17 (RR_of (by decide) (by decide)) rfl (rest := []) rfl (Nat.le_of_ble_eq_true rfl) dX9_worth_53 ?_
      intro H locs hH
      refine lv_aload_n hx hb dX9_worth_56 rfl (lv_at hl 0 rfl) ?_
      refine rgS C hH fs_RX9_28_0 dX9_worth_57 ?_
      obtain ⟨q60, e60, h⟩ := tB h
      refine rcL C hH hl.1 (mX0_total l e60) cf_RX9_148 ro_17 (RR_of (by decide) (by decide)) rfl (rest := [.long q53.1]) rfl (Nat.le_of_ble_eq_true rfl) dX9_worth_60 ?_
      intro H locs hH
      refine lv_iload_n hx hb dX9_worth_63 rfl (lv_at hl 3 rfl) ?_
      obtain ⟨q64, e64, h⟩ := tB h
      refine rsL C hH hl.1 (mX9_reduced l e64) cs_RX9_152 (RR_of (by decide) (by decide)) rfl (rest := []) rfl (Nat.le_of_ble_eq_true rfl) dX9_worth_64 ?_
      intro H locs hH
      have h := Option.some.inj h
      subst h
      exact retL C hH dX9_worth_67
    · replace h := tF hc13 h
      exact wX9_worth_16 C h hH (lv_sub hl [] rfl)
set_option maxHeartbeats 2000000 in
set_option maxRecDepth 20000 in
theorem wX10_worth_26 (C : Cx D ca A p s m args meth c cX10_worth RX10 4 (some .long)) {q : Int64 × Mm} {mm : Mm} (h : DX10_worth_26 mm = some q) (hH : Hx WN ad ca WS D A s.heap mm H locs) (hl : lv_has ls 4 []) : W p l e (rmk 107) s m args below meth c H locs 0 0 (MQ below (QcL WN ad ca WS D A q) args s 0 0 A) (F0 m 26 ls []) := by
  unfold DX10_worth_26 at h
  have hx := C.1
  have hb := C.2.1
  refine rldc2 C (v := (-9223372036854775808)) k_RX10_225 dX10_worth_26 ?_
  have h := Option.some.inj h
  subst h
  exact retL C hH dX10_worth_29
set_option maxHeartbeats 2000000 in
set_option maxRecDepth 20000 in
theorem mX10_worth (l : Launch) {D : va_G} {ca : Nat → ClassId} {A : Nat → Prop} {ad : Nat → Nat} {v1 : Int32} {v2 : Int32} {v3 : Int32} {mm : Mm} {q : Int64 × Mm} (h : dX10_worth v1 v2 v3 mm = some q) : Met l yX10_worth (wsOf yX10_worth cX10_worth 4 (some .long)) (rmk 107) (PcX WN ad ca WS D A [.ref (ad 58), .int v1, .int v2, .int v3] mm) (QcL WN ad ca WS D A q) 0 0 A := by
  unfold dX10_worth at h
  refine ent (by decide) (Nat.le_of_ble_eq_true rfl) (fun p e s m args below meth c hargs C hH ls hl => ?_)
  have hx := C.1
  have hb := C.2.1
  have hl : lv_has ls 4 [(0, .ref (ad 58)), (1, .int v1), (2, .int v2), (3, .int v3)] := hl
  refine lv_aload_n hx hb dX10_worth_0 rfl (lv_at hl 0 rfl) ?_
  refine lv_iload_n hx hb dX10_worth_1 rfl (lv_at hl 1 rfl) ?_
  obtain ⟨q2, e2, h⟩ := tB h
  refine rcI C hH hl.1 (mX10_bytesIs l e2) cf_RX10_217 ro_58 (RR_of (by decide) (by decide)) rfl (rest := []) rfl (Nat.le_of_ble_eq_true rfl) dX10_worth_2 ?_
  intro hz2 H locs hH
  refine lv_if_lt (tgt := 26) hx hb dX10_worth_5 (by decide) (fun hc5 => ?_) (fun hc5 => ?_)
  · replace h := tT hc5 h
    exact wX10_worth_26 C h hH (lv_sub hl [] rfl)
  · replace h := tF hc5 h
    refine lv_aload_n hx hb dX10_worth_8 rfl (lv_at hl 0 rfl) ?_
    refine lv_iload_n hx hb dX10_worth_9 rfl (lv_at hl 2 rfl) ?_
    obtain ⟨q10, e10, h⟩ := tB h
    refine rcI C hH hl.1 (mX10_isBs l e10) cf_RX10_220 ro_58 (RR_of (by decide) (by decide)) rfl (rest := []) rfl (Nat.le_of_ble_eq_true rfl) dX10_worth_10 ?_
    intro hz10 H locs hH
    refine lv_if_eq (tgt := 26) hx hb dX10_worth_13 (by decide) (fun hc13 => ?_) (fun hc13 => ?_)
    · replace h := tT hc13 h
      exact wX10_worth_26 C h hH (lv_sub hl [] rfl)
    · replace h := tF hc13 h
      refine lv_iload_n hx hb dX10_worth_16 rfl (lv_at hl 3 rfl) ?_
      refine lv_i2l' hx hb dX10_worth_17 ?_
      refine lv_lconst (v := 0) hx hb dX10_worth_18 (by decide) ?_
      refine lv_lconst (v := 1) hx hb dX10_worth_19 (by decide) ?_
      obtain ⟨q20, e20, h⟩ := tB h
      refine rsI C hH hl.1 (mX10_within l e20) cs_RX10_96 (RR_of (by decide) (by decide)) rfl (rest := []) rfl (Nat.le_of_ble_eq_true rfl) dX10_worth_20 ?_
      intro hz20 H locs hH
      refine lv_if_ne (tgt := 30) hx hb dX10_worth_23 (by decide) (fun hc23 => ?_) (fun hc23 => ?_)
      · replace h := tF hc23 h
        refine lv_aload_n hx hb dX10_worth_30 rfl (lv_at hl 0 rfl) ?_
        refine lv_iload_n hx hb dX10_worth_31 rfl (lv_at hl 1 rfl) ?_
        refine lv_iload_n hx hb dX10_worth_32 rfl (lv_at hl 2 rfl) ?_
        refine lv_bipush (v := 10) hx hb dX10_worth_33 (by decide) ?_
        refine lv_idiv hx hb dX10_worth_35 (by decide) ?_
        refine lv_iload_n hx hb dX10_worth_36 rfl (lv_at hl 2 rfl) ?_
        refine lv_bipush (v := 10) hx hb dX10_worth_37 (by decide) ?_
        refine lv_irem' hx hb dX10_worth_39 (by decide) ?_
        obtain ⟨q40, e40, h⟩ := tB h
        refine rcV C hH hl.1 (mX10_weighs l e40) cf_RX10_227 ro_58 (RR_of (by decide) (by decide)) rfl (rest := []) rfl (Nat.le_of_ble_eq_true rfl) dX10_worth_40 ?_
        intro H locs hH
        refine lv_aload_n hx hb dX10_worth_43 rfl (lv_at hl 0 rfl) ?_
        refine lv_iload_n hx hb dX10_worth_44 rfl (lv_at hl 2 rfl) ?_
        refine lv_bipush (v := 10) hx hb dX10_worth_45 (by decide) ?_
        refine lv_idiv hx hb dX10_worth_47 (by decide) ?_
        refine lv_iload_n hx hb dX10_worth_48 rfl (lv_at hl 2 rfl) ?_
        refine lv_bipush (v := 10) hx hb dX10_worth_49 (by decide) ?_
        refine lv_irem' hx hb dX10_worth_51 (by decide) ?_
        refine lv_aload_n hx hb dX10_worth_52 rfl (lv_at hl 0 rfl) ?_
        refine rgS C hH fs_RX10_9_58 dX10_worth_53 ?_
        refine lv_bipush (v := 34) hx hb dX10_worth_56 (by decide) ?_
        refine lv_iload_n hx hb dX10_worth_58 rfl (lv_at hl 2 rfl) ?_
        refine lv_bipush (v := 10) hx hb dX10_worth_59 (by decide) ?_
        refine lv_irem' hx hb dX10_worth_61 (by decide) ?_
        refine lv_iadd hx hb dX10_worth_62 ?_
        obtain ⟨hi63, h⟩ := tC h
        refine raI C hH (k := (Int32.toNatClampNeg (34 + (iRem v2 10)))) (by decide) (show WS 59 = .inr (0, 62, 0) from rfl) hi63 rfl dX10_worth_63 ?_
        obtain ⟨q64, e64, h⟩ := tB h
        refine rcL C hH hl.1 (mX10_worthAll l e64) cf_RX10_242 ro_58 (RR_of (by decide) (by decide)) rfl (rest := []) rfl (Nat.le_of_ble_eq_true rfl) dX10_worth_64 ?_
        intro H locs hH
        refine lv_aload_n hx hb dX10_worth_67 rfl (lv_at hl 0 rfl) ?_
        obtain ⟨q68, e68, h⟩ := tB h
        refine rcL C hH hl.1 (mX10_weightAll l e68) cf_RX10_231 ro_58 (RR_of (by decide) (by decide)) rfl (rest := [.long q64.1]) rfl (Nat.le_of_ble_eq_true rfl) dX10_worth_68 ?_
        intro H locs hH
        refine lv_iload_n hx hb dX10_worth_71 rfl (lv_at hl 3 rfl) ?_
        obtain ⟨q72, e72, h⟩ := tB h
        refine rsL C hH hl.1 (mX10_partOf l e72) cs_RX10_235 (RR_of (by decide) (by decide)) rfl (rest := []) rfl (Nat.le_of_ble_eq_true rfl) dX10_worth_72 ?_
        intro H locs hH
        have h := Option.some.inj h
        subst h
        exact retL C hH dX10_worth_75
      · replace h := tT hc23 h
        exact wX10_worth_26 C h hH (lv_sub hl [] rfl)
end WALK
