/-! ===== the walks: each method by its denotation (laid by wip/whole/gen.py) ===== -/
section WALK
variable {p : Program} {l : Launch} {e : Env} {s : State} {m : MethodId} {args : Array Value} {below : List Frame} {meth : Method} {c : Code} {H : Heap} {locs : List Loc} {Q : State → Prop} {cells slots : Nat} {ls : Array Slot} {D : va_G} {ca : Nat → ClassId} {A : Nat → Prop} {ad : Nat → Nat}
set_option maxHeartbeats 2000000 in
set_option maxRecDepth 20000 in
theorem wX7_holds_14 (C : Cx D ca A p s m args meth c cX7_holds RX7 3 (some .boolean)) {q : Int32 × Mm} {mm : Mm} (h : DX7_holds_14 mm = some q) (hH : Hx WN ad ca WS D A s.heap mm H locs) (hl : lv_has ls 3 []) : W p l e (rmk 1) s m args below meth c H locs 0 0 (MQ below (QcI WN ad ca WS D A pzZ q) args s 0 0 A) (F0 m 14 ls []) := by
  unfold DX7_holds_14 at h
  have hx := C.1
  have hb := C.2.1
  refine lv_iconst (v := 0) hx hb dX7_holds_14 (by decide) ?_
  have h := Option.some.inj h
  subst h
  exact retZ C hH (Or.inl rfl) dX7_holds_15
set_option maxHeartbeats 2000000 in
set_option maxRecDepth 20000 in
theorem wX7_holds_57 (C : Cx D ca A p s m args meth c cX7_holds RX7 3 (some .boolean)) {q : Int32 × Mm} {s0 : Int32} {s1 : Int32} {mm : Mm} (h : DX7_holds_57 s0 s1 mm = some q) (hH : Hx WN ad ca WS D A s.heap mm H locs) (hl : lv_has ls 3 []) : W p l e (rmk 1) s m args below meth c H locs 0 0 (MQ below (QcI WN ad ca WS D A pzZ q) args s 0 0 A) (F0 m 57 ls [.int s0, .int s1]) := by
  unfold DX7_holds_57 at h
  have hx := C.1
  have hb := C.2.1
  refine lv_icmp_ge (tgt := 64) hx hb dX7_holds_57 (by decide) (fun hc57 => ?_) (fun hc57 => ?_)
  · replace h := tT hc57 h
    refine lv_iconst (v := 0) hx hb dX7_holds_64 (by decide) ?_
    have h := Option.some.inj h
    subst h
    exact retZ C hH (Or.inl rfl) dX7_holds_65
  · replace h := tF hc57 h
    refine lv_iconst (v := 1) hx hb dX7_holds_60 (by decide) ?_
    refine lv_goto (tgt := 65) hx hb dX7_holds_61 (by decide) ?_
    have h := Option.some.inj h
    subst h
    exact retZ C hH (Or.inr rfl) dX7_holds_65
set_option maxHeartbeats 2000000 in
set_option maxRecDepth 20000 in
theorem wX7_holds_53 (C : Cx D ca A p s m args meth c cX7_holds RX7 3 (some .boolean)) {q : Int32 × Mm} {s0 : Int32} {mm : Mm} (h : DX7_holds_53 s0 mm = some q) (hH : Hx WN ad ca WS D A s.heap mm H locs) (hl : lv_has ls 3 [(0, .ref (ad 1))]) : W p l e (rmk 1) s m args below meth c H locs 0 0 (MQ below (QcI WN ad ca WS D A pzZ q) args s 0 0 A) (F0 m 53 ls [.int s0]) := by
  unfold DX7_holds_53 at h
  have hx := C.1
  have hb := C.2.1
  refine lv_aload_n hx hb dX7_holds_53 rfl (lv_at hl 0 rfl) ?_
  refine rgI C hH fi_RX7_31_1 dX7_holds_54 ?_
  exact wX7_holds_57 C h hH (lv_sub hl [] rfl)
set_option maxHeartbeats 2000000 in
set_option maxRecDepth 20000 in
theorem mX7_holds (l : Launch) {D : va_G} {ca : Nat → ClassId} {A : Nat → Prop} {ad : Nat → Nat} {v1 : Int32} {v2 : Int32} {mm : Mm} {q : Int32 × Mm} (h : dX7_holds v1 v2 mm = some q) : Met l yX7_holds (wsOf yX7_holds cX7_holds 3 (some .boolean)) (rmk 1) (PcX WN ad ca WS D A [.ref (ad 1), .int v1, .int v2] mm) (QcI WN ad ca WS D A pzZ q) 0 0 A := by
  unfold dX7_holds at h
  refine ent (by decide) (Nat.le_of_ble_eq_true rfl) (fun p e s m args below meth c hargs C hH ls hl => ?_)
  have hx := C.1
  have hb := C.2.1
  have hl : lv_has ls 3 [(0, .ref (ad 1)), (1, .int v1), (2, .int v2)] := hl
  refine lv_iload_n hx hb dX7_holds_0 rfl (lv_at hl 1 rfl) ?_
  refine lv_if_lt (tgt := 14) hx hb dX7_holds_1 (by decide) (fun hc1 => ?_) (fun hc1 => ?_)
  · replace h := tT hc1 h
    exact wX7_holds_14 C h hH (lv_sub hl [] rfl)
  · replace h := tF hc1 h
    refine lv_iload_n hx hb dX7_holds_4 rfl (lv_at hl 1 rfl) ?_
    refine lv_bipush (v := 10) hx hb dX7_holds_5 (by decide) ?_
    refine lv_icmp_gt (tgt := 14) hx hb dX7_holds_7 (by decide) (fun hc7 => ?_) (fun hc7 => ?_)
    · replace h := tT hc7 h
      exact wX7_holds_14 C h hH (lv_sub hl [] rfl)
    · replace h := tF hc7 h
      refine lv_iload_n hx hb dX7_holds_10 rfl (lv_at hl 2 rfl) ?_
      refine lv_if_ge (tgt := 16) hx hb dX7_holds_11 (by decide) (fun hc11 => ?_) (fun hc11 => ?_)
      · replace h := tT hc11 h
        refine lv_iload_n hx hb dX7_holds_16 rfl (lv_at hl 1 rfl) ?_
        refine lv_iconst (v := 4) hx hb dX7_holds_17 (by decide) ?_
        refine lv_icmp_ge (tgt := 33) hx hb dX7_holds_18 (by decide) (fun hc18 => ?_) (fun hc18 => ?_)
        · replace h := tT hc18 h
          refine lv_iload_n hx hb dX7_holds_33 rfl (lv_at hl 2 rfl) ?_
          refine lv_iload_n hx hb dX7_holds_34 rfl (lv_at hl 1 rfl) ?_
          refine lv_bipush (v := 6) hx hb dX7_holds_35 (by decide) ?_
          refine lv_icmp_lt (tgt := 53) hx hb dX7_holds_37 (by decide) (fun hc37 => ?_) (fun hc37 => ?_)
          · replace h := tT hc37 h
            exact wX7_holds_53 C h hH (lv_sub hl [0] rfl)
          · replace h := tF hc37 h
            refine lv_iload_n hx hb dX7_holds_40 rfl (lv_at hl 1 rfl) ?_
            refine lv_bipush (v := 8) hx hb dX7_holds_41 (by decide) ?_
            refine lv_icmp_gt (tgt := 53) hx hb dX7_holds_43 (by decide) (fun hc43 => ?_) (fun hc43 => ?_)
            · replace h := tT hc43 h
              exact wX7_holds_53 C h hH (lv_sub hl [0] rfl)
            · replace h := tF hc43 h
              refine lv_aload_n hx hb dX7_holds_46 rfl (lv_at hl 0 rfl) ?_
              refine rgI C hH fi_RX7_27_1 dX7_holds_47 ?_
              refine lv_goto (tgt := 57) hx hb dX7_holds_50 (by decide) ?_
              exact wX7_holds_57 C h hH (lv_sub hl [] rfl)
        · replace h := tF hc18 h
          refine lv_iload_n hx hb dX7_holds_21 rfl (lv_at hl 2 rfl) ?_
          refine lv_bipush (v := 6) hx hb dX7_holds_22 (by decide) ?_
          refine lv_icmp_ge (tgt := 31) hx hb dX7_holds_24 (by decide) (fun hc24 => ?_) (fun hc24 => ?_)
          · replace h := tT hc24 h
            refine lv_iconst (v := 0) hx hb dX7_holds_31 (by decide) ?_
            have h := Option.some.inj h
            subst h
            exact retZ C hH (Or.inl rfl) dX7_holds_32
          · replace h := tF hc24 h
            refine lv_iconst (v := 1) hx hb dX7_holds_27 (by decide) ?_
            refine lv_goto (tgt := 32) hx hb dX7_holds_28 (by decide) ?_
            have h := Option.some.inj h
            subst h
            exact retZ C hH (Or.inr rfl) dX7_holds_32
      · replace h := tF hc11 h
        exact wX7_holds_14 C h hH (lv_sub hl [] rfl)
set_option maxHeartbeats 2000000 in
set_option maxRecDepth 20000 in
theorem mX7_addSack (l : Launch) {D : va_G} {ca : Nat → ClassId} {A : Nat → Prop} {ad : Nat → Nat} {v1 : Int32} {v2 : Int32} {mm : Mm} {q : Int32 × Mm} (h : dX7_addSack v1 v2 mm = some q) : Met l yX7_addSack (wsOf yX7_addSack cX7_addSack 4 (some .int)) (rmk 1) (PcX WN ad ca WS D A [.ref (ad 1), .int v1, .int v2] mm) (QcI WN ad ca WS D A pzT q) 0 0 A := by
  unfold dX7_addSack at h
  refine ent (by decide) (Nat.le_of_ble_eq_true rfl) (fun p e s m args below meth c hargs C hH ls hl => ?_)
  have hx := C.1
  have hb := C.2.1
  have hl : lv_has ls 4 [(0, .ref (ad 1)), (1, .int v1), (2, .int v2)] := hl
  refine lv_aload_n hx hb dX7_addSack_0 rfl (lv_at hl 0 rfl) ?_
  refine rgI C hH fi_RX7_31_1 dX7_addSack_1 ?_
  refine lv_bipush (v := 10) hx hb dX7_addSack_4 (by decide) ?_
  refine lv_icmp_lt (tgt := 12) hx hb dX7_addSack_6 (by decide) (fun hc6 => ?_) (fun hc6 => ?_)
  · replace h := tT hc6 h
    refine lv_aload_n hx hb dX7_addSack_12 rfl (lv_at hl 0 rfl) ?_
    refine lv_dup hx hb dX7_addSack_13 rfl ?_
    refine rgI C hH fi_RX7_31_1 dX7_addSack_14 ?_
    refine lv_dup_x1 hx hb dX7_addSack_17 rfl rfl ?_
    refine lv_iconst (v := 1) hx hb dX7_addSack_18 (by decide) ?_
    refine lv_iadd hx hb dX7_addSack_19 ?_
    refine rpI C hH fp_RX7_31_1 rfl rfl dX7_addSack_20 (fun H locs hH => ?_)
    refine lv_istore_n (lv' := [(3, .int (gI mm 1 2)), (0, .ref (ad 1)), (1, .int v1), (2, .int v2)]) hx hb dX7_addSack_23 rfl hl (by decide) rfl (fun ls hl => ?_)
    refine lv_aload_n hx hb dX7_addSack_24 rfl (lv_at hl 1 rfl) ?_
    refine rgS C hH fs_RX7_11_1 dX7_addSack_25 ?_
    refine lv_iconst (v := 4) hx hb dX7_addSack_28 (by decide) ?_
    refine raG C hH (o := 2) (k := 4) (by decide) (show WS 2 = .inr (5, 11, 3) from rfl) (show inB 4 11 from by decide) (by decide) dX7_addSack_29 ?_
    show W _ _ _ _ _ _ _ _ _ _ _ _ _ _ _ (F0 _ _ _ (.ref (ad 7) :: _))
    refine lv_iload_n hx hb dX7_addSack_30 rfl (lv_at hl 0 rfl) ?_
    refine lv_iload_n hx hb dX7_addSack_31 rfl (lv_at hl 2 rfl) ?_
    obtain ⟨hi32, h⟩ := tC h
    refine rwI C hH (k := (Int32.toNatClampNeg (gI mm 1 2))) (by decide) (show WS 7 = .inr (0, 10, 0) from rfl) hi32 rfl dX7_addSack_32 (fun H locs hH => ?_)
    refine lv_aload_n hx hb dX7_addSack_33 rfl (lv_at hl 1 rfl) ?_
    refine rgS C hH fs_RX7_11_1 dX7_addSack_34 ?_
    refine lv_iconst (v := 5) hx hb dX7_addSack_37 (by decide) ?_
    refine raG C hH (o := 2) (k := 5) (by decide) (show WS 2 = .inr (5, 11, 3) from rfl) (show inB 5 11 from by decide) (by decide) dX7_addSack_38 ?_
    show W _ _ _ _ _ _ _ _ _ _ _ _ _ _ _ (F0 _ _ _ (.ref (ad 8) :: _))
    refine lv_iload_n hx hb dX7_addSack_39 rfl (lv_at hl 0 rfl) ?_
    refine lv_iload_n hx hb dX7_addSack_40 rfl (lv_at hl 3 rfl) ?_
    obtain ⟨hi41, h⟩ := tC h
    refine rwI C hH (k := (Int32.toNatClampNeg (gI mm 1 2))) (by decide) (show WS 8 = .inr (0, 10, 0) from rfl) hi41 rfl dX7_addSack_41 (fun H locs hH => ?_)
    refine lv_aload_n hx hb dX7_addSack_42 rfl (lv_at hl 1 rfl) ?_
    refine rgS C hH fs_RX7_11_1 dX7_addSack_43 ?_
    refine lv_bipush (v := 9) hx hb dX7_addSack_46 (by decide) ?_
    refine raG C hH (o := 2) (k := 9) (by decide) (show WS 2 = .inr (5, 11, 3) from rfl) (show inB 9 11 from by decide) (by decide) dX7_addSack_48 ?_
    show W _ _ _ _ _ _ _ _ _ _ _ _ _ _ _ (F0 _ _ _ (.ref (ad 12) :: _))
    refine lv_iload_n hx hb dX7_addSack_49 rfl (lv_at hl 0 rfl) ?_
    refine lv_iconst (v := (-1)) hx hb dX7_addSack_50 (by decide) ?_
    obtain ⟨hi51, h⟩ := tC h
    refine rwI C hH (k := (Int32.toNatClampNeg (gI mm 1 2))) (by decide) (show WS 12 = .inr (0, 10, 0) from rfl) hi51 rfl dX7_addSack_51 (fun H locs hH => ?_)
    refine lv_aload_n hx hb dX7_addSack_52 rfl (lv_at hl 1 rfl) ?_
    refine rgS C hH fs_RX7_11_1 dX7_addSack_53 ?_
    refine lv_bipush (v := 10) hx hb dX7_addSack_56 (by decide) ?_
    refine raG C hH (o := 2) (k := 10) (by decide) (show WS 2 = .inr (5, 11, 3) from rfl) (show inB 10 11 from by decide) (by decide) dX7_addSack_58 ?_
    show W _ _ _ _ _ _ _ _ _ _ _ _ _ _ _ (F0 _ _ _ (.ref (ad 13) :: _))
    refine lv_iload_n hx hb dX7_addSack_59 rfl (lv_at hl 0 rfl) ?_
    refine lv_iconst (v := 0) hx hb dX7_addSack_60 (by decide) ?_
    obtain ⟨hi61, h⟩ := tC h
    refine rwI C hH (k := (Int32.toNatClampNeg (gI mm 1 2))) (by decide) (show WS 13 = .inr (0, 10, 0) from rfl) hi61 rfl dX7_addSack_61 (fun H locs hH => ?_)
    refine lv_iload_n hx hb dX7_addSack_62 rfl (lv_at hl 0 rfl) ?_
    have h := Option.some.inj h
    subst h
    exact retI C hH trivial dX7_addSack_63
  · replace h := tF hc6 h
    refine lv_bipush (v := (-3)) hx hb dX7_addSack_9 (by decide) ?_
    have h := Option.some.inj h
    subst h
    exact retI C hH trivial dX7_addSack_11
set_option maxHeartbeats 2000000 in
set_option maxRecDepth 20000 in
theorem mX9_sack (l : Launch) {D : va_G} {ca : Nat → ClassId} {A : Nat → Prop} {ad : Nat → Nat} {v1 : Int32} {mm : Mm} {q : Int32 × Mm} (h : dX9_sack v1 mm = some q) : Met l yX9_sack (wsOf yX9_sack cX9_sack 2 (some .int)) (rmk 2) (PcX WN ad ca WS D A [.ref (ad 0), .int v1] mm) (QcI WN ad ca WS D A pzT q) 0 0 A := by
  unfold dX9_sack at h
  refine ent (by decide) (Nat.le_of_ble_eq_true rfl) (fun p e s m args below meth c hargs C hH ls hl => ?_)
  have hx := C.1
  have hb := C.2.1
  have hl : lv_has ls 2 [(0, .ref (ad 0)), (1, .int v1)] := hl
  refine lv_aload_n hx hb dX9_sack_0 rfl (lv_at hl 0 rfl) ?_
  refine rgS C hH fs_RX9_10_0 dX9_sack_1 ?_
  refine lv_iconst (v := 0) hx hb dX9_sack_4 (by decide) ?_
  refine lv_iload_n hx hb dX9_sack_5 rfl (lv_at hl 1 rfl) ?_
  obtain ⟨q6, e6, h⟩ := tB h
  refine rcI C hH hl.1 (mX7_holds l e6) cf_RX9_67 ro_1 (RR_of (by decide) (by decide)) rfl (rest := []) rfl (Nat.le_of_ble_eq_true rfl) dX9_sack_6 ?_
  intro hz6 H locs hH
  refine lv_if_ne (tgt := 14) hx hb dX9_sack_9 (by decide) (fun hc9 => ?_) (fun hc9 => ?_)
  · replace h := tF hc9 h
    refine lv_aload_n hx hb dX9_sack_14 rfl (lv_at hl 0 rfl) ?_
    refine rgS C hH fs_RX9_10_0 dX9_sack_15 ?_
    refine lv_iload_n hx hb dX9_sack_18 rfl (lv_at hl 1 rfl) ?_
    refine lv_bipush (v := 10) hx hb dX9_sack_19 (by decide) ?_
    obtain ⟨q21, e21, h⟩ := tB h
    refine rcI C hH hl.1 (mX7_addSack l e21) cf_RX9_71 ro_1 (RR_of (by decide) (by decide)) rfl (rest := []) rfl (Nat.le_of_ble_eq_true rfl) dX9_sack_21 ?_
    intro hz21 H locs hH
    have h := Option.some.inj h
    subst h
    exact retI C hH trivial dX9_sack_24
  · replace h := tT hc9 h
    refine lv_iconst (v := (-1)) hx hb dX9_sack_12 (by decide) ?_
    have h := Option.some.inj h
    subst h
    exact retI C hH trivial dX9_sack_13
set_option maxHeartbeats 2000000 in
set_option maxRecDepth 20000 in
theorem wX10_within_17 (C : Cx D ca A p s m args meth c cX10_within RX10 6 (some .boolean)) {q : Int32 × Mm} {mm : Mm} (h : DX10_within_17 mm = some q) (hH : Hx WN ad ca WS D A s.heap mm H locs) (hl : lv_has ls 6 []) : W p l e (rmk 1) s m args below meth c H locs 0 0 (MQ below (QcI WN ad ca WS D A pzZ q) args s 0 0 A) (F0 m 17 ls []) := by
  unfold DX10_within_17 at h
  have hx := C.1
  have hb := C.2.1
  refine lv_iconst (v := 0) hx hb dX10_within_17 (by decide) ?_
  have h := Option.some.inj h
  subst h
  exact retZ C hH (Or.inl rfl) dX10_within_18
set_option maxHeartbeats 2000000 in
set_option maxRecDepth 20000 in
theorem mX10_within (l : Launch) {D : va_G} {ca : Nat → ClassId} {A : Nat → Prop} {ad : Nat → Nat} {v0 : Int64} {v2 : Int64} {v4 : Int64} {mm : Mm} {q : Int32 × Mm} (h : dX10_within v0 v2 v4 mm = some q) : Met l yX10_within (wsOf yX10_within cX10_within 6 (some .boolean)) (rmk 1) (PcX WN ad ca WS D A [.long v0, .long v2, .long v4] mm) (QcI WN ad ca WS D A pzZ q) 0 0 A := by
  unfold dX10_within at h
  refine ent (by decide) (Nat.le_of_ble_eq_true rfl) (fun p e s m args below meth c hargs C hH ls hl => ?_)
  have hx := C.1
  have hb := C.2.1
  have hl : lv_has ls 6 [(0, .long v0), (2, .long v2), (4, .long v4)] := hl
  refine lv_lload_n hx hb dX10_within_0 rfl (lv_at hl 0 rfl) ?_
  refine lv_lload_n hx hb dX10_within_1 rfl (lv_at hl 1 rfl) ?_
  refine lc_lt (tgt := 17) hx hb dX10_within_2 dX10_within_3 (by decide) (fun hc3 => ?_) (fun hc3 => ?_)
  · replace h := tT hc3 h
    exact wX10_within_17 C h hH (lv_sub hl [] rfl)
  · replace h := tF hc3 h
    refine lv_lload_n hx hb dX10_within_6 rfl (lv_at hl 0 rfl) ?_
    refine lv_lload hx hb dX10_within_7 (lv_at hl 2 rfl) ?_
    refine lc_gt (tgt := 17) hx hb dX10_within_9 dX10_within_10 (by decide) (fun hc10 => ?_) (fun hc10 => ?_)
    · replace h := tT hc10 h
      exact wX10_within_17 C h hH (lv_sub hl [] rfl)
    · replace h := tF hc10 h
      refine lv_iconst (v := 1) hx hb dX10_within_13 (by decide) ?_
      refine lv_goto (tgt := 18) hx hb dX10_within_14 (by decide) ?_
      have h := Option.some.inj h
      subst h
      exact retZ C hH (Or.inr rfl) dX10_within_18
set_option maxHeartbeats 2000000 in
set_option maxRecDepth 20000 in
theorem mX10_isGood (l : Launch) {D : va_G} {ca : Nat → ClassId} {A : Nat → Prop} {ad : Nat → Nat} {v0 : Int64} {mm : Mm} {q : Int32 × Mm} (h : dX10_isGood v0 mm = some q) : Met l yX10_isGood (wsOf yX10_isGood cX10_isGood 2 (some .boolean)) (rmk 2) (PcX WN ad ca WS D A [.long v0] mm) (QcI WN ad ca WS D A pzZ q) 0 0 A := by
  unfold dX10_isGood at h
  refine ent (by decide) (Nat.le_of_ble_eq_true rfl) (fun p e s m args below meth c hargs C hH ls hl => ?_)
  have hx := C.1
  have hb := C.2.1
  have hl : lv_has ls 2 [(0, .long v0)] := hl
  refine lv_lload_n hx hb dX10_isGood_0 rfl (lv_at hl 0 rfl) ?_
  refine lv_lconst (v := 0) hx hb dX10_isGood_1 (by decide) ?_
  refine rldc2 C (v := 5) k_RX10_94 dX10_isGood_2 ?_
  obtain ⟨q5, e5, h⟩ := tB h
  refine rsI C hH hl.1 (mX10_within l e5) cs_RX10_96 (RR_of (by decide) (by decide)) rfl (rest := []) rfl (Nat.le_of_ble_eq_true rfl) dX10_isGood_5 ?_
  intro hz5 H locs hH
  have h := Option.some.inj h
  subst h
  exact retZ C hH hz5 dX10_isGood_8
set_option maxHeartbeats 2000000 in
set_option maxRecDepth 20000 in
theorem mX10_adds (l : Launch) {D : va_G} {ca : Nat → ClassId} {A : Nat → Prop} {ad : Nat → Nat} {v1 : Int32} {v2 : Int32} {mm : Mm} {q : Unit × Mm} (h : dX10_adds v1 v2 mm = some q) : Met l yX10_adds (wsOf yX10_adds cX10_adds 3 none) (rmk 1) (PcX WN ad ca WS D A [.ref (ad 58), .int v1, .int v2] mm) (QcV WN ad ca WS D A q) 0 0 A := by
  unfold dX10_adds at h
  refine ent (by decide) (Nat.le_of_ble_eq_true rfl) (fun p e s m args below meth c hargs C hH ls hl => ?_)
  have hx := C.1
  have hb := C.2.1
  have hl : lv_has ls 3 [(0, .ref (ad 58)), (1, .int v1), (2, .int v2)] := hl
  refine lv_aload_n hx hb dX10_adds_0 rfl (lv_at hl 0 rfl) ?_
  refine rgS C hH fs_RX10_9_58 dX10_adds_1 ?_
  refine lv_bipush (v := 24) hx hb dX10_adds_4 (by decide) ?_
  refine lv_aload_n hx hb dX10_adds_6 rfl (lv_at hl 0 rfl) ?_
  refine rgI C hH fi_RX10_100_58 dX10_adds_7 ?_
  refine lv_iadd hx hb dX10_adds_10 ?_
  refine lv_iload_n hx hb dX10_adds_11 rfl (lv_at hl 1 rfl) ?_
  obtain ⟨hi12, h⟩ := tC h
  refine rwI C hH (k := (Int32.toNatClampNeg (24 + (gI mm 58 6)))) (by decide) (show WS 59 = .inr (0, 62, 0) from rfl) hi12 rfl dX10_adds_12 (fun H locs hH => ?_)
  refine lv_aload_n hx hb dX10_adds_13 rfl (lv_at hl 0 rfl) ?_
  refine rgS C hH fs_RX10_9_58 dX10_adds_14 ?_
  refine lv_bipush (v := 34) hx hb dX10_adds_17 (by decide) ?_
  refine lv_aload_n hx hb dX10_adds_19 rfl (lv_at hl 0 rfl) ?_
  refine rgI C hH fi_RX10_100_58 dX10_adds_20 ?_
  refine lv_iadd hx hb dX10_adds_23 ?_
  refine lv_iload_n hx hb dX10_adds_24 rfl (lv_at hl 2 rfl) ?_
  obtain ⟨hi25, h⟩ := tC h
  refine rwI C hH (k := (Int32.toNatClampNeg (34 + (gI (sI mm 59 (Int32.toNatClampNeg (24 + (gI mm 58 6))) v1) 58 6)))) (by decide) (show WS 59 = .inr (0, 62, 0) from rfl) hi25 rfl dX10_adds_25 (fun H locs hH => ?_)
  refine lv_aload_n hx hb dX10_adds_26 rfl (lv_at hl 0 rfl) ?_
  refine rgS C hH fs_RX10_22_58 dX10_adds_27 ?_
  refine lv_aload_n hx hb dX10_adds_30 rfl (lv_at hl 0 rfl) ?_
  refine rgI C hH fi_RX10_100_58 dX10_adds_31 ?_
  refine lv_iconst (v := (-1)) hx hb dX10_adds_34 (by decide) ?_
  obtain ⟨hi35, h⟩ := tC h
  refine rwI C hH (k := (Int32.toNatClampNeg (gI (sI (sI mm 59 (Int32.toNatClampNeg (24 + (gI mm 58 6))) v1) 59 (Int32.toNatClampNeg (34 + (gI (sI mm 59 (Int32.toNatClampNeg (24 + (gI mm 58 6))) v1) 58 6))) v2) 58 6))) (by decide) (show WS 63 = .inr (0, 10, 0) from rfl) hi35 rfl dX10_adds_35 (fun H locs hH => ?_)
  refine lv_aload_n hx hb dX10_adds_36 rfl (lv_at hl 0 rfl) ?_
  refine lv_dup hx hb dX10_adds_37 rfl ?_
  refine rgI C hH fi_RX10_100_58 dX10_adds_38 ?_
  refine lv_iconst (v := 1) hx hb dX10_adds_41 (by decide) ?_
  refine lv_iadd hx hb dX10_adds_42 ?_
  refine rpI C hH fp_RX10_100_58 rfl rfl dX10_adds_43 (fun H locs hH => ?_)
  have h := Option.some.inj h
  subst h
  exact retV C hH dX10_adds_46
set_option maxHeartbeats 2000000 in
set_option maxRecDepth 20000 in
theorem mX10_sack (l : Launch) {D : va_G} {ca : Nat → ClassId} {A : Nat → Prop} {ad : Nat → Nat} {v1 : Int32} {mm : Mm} {q : Int32 × Mm} (h : dX10_sack v1 mm = some q) : Met l yX10_sack (wsOf yX10_sack cX10_sack 2 (some .int)) (rmk 3) (PcX WN ad ca WS D A [.ref (ad 58), .int v1] mm) (QcI WN ad ca WS D A pzT q) 0 0 A := by
  unfold dX10_sack at h
  refine ent (by decide) (Nat.le_of_ble_eq_true rfl) (fun p e s m args below meth c hargs C hH ls hl => ?_)
  have hx := C.1
  have hb := C.2.1
  have hl : lv_has ls 2 [(0, .ref (ad 58)), (1, .int v1)] := hl
  refine lv_iload_n hx hb dX10_sack_0 rfl (lv_at hl 1 rfl) ?_
  refine lv_i2l' hx hb dX10_sack_1 ?_
  obtain ⟨q2, e2, h⟩ := tB h
  refine rsI C hH hl.1 (mX10_isGood l e2) cs_RX10_106 (RR_of (by decide) (by decide)) rfl (rest := []) rfl (Nat.le_of_ble_eq_true rfl) dX10_sack_2 ?_
  intro hz2 H locs hH
  refine lv_if_ne (tgt := 10) hx hb dX10_sack_5 (by decide) (fun hc5 => ?_) (fun hc5 => ?_)
  · replace h := tF hc5 h
    refine lv_aload_n hx hb dX10_sack_10 rfl (lv_at hl 0 rfl) ?_
    refine rgI C hH fi_RX10_100_58 dX10_sack_11 ?_
    refine lv_bipush (v := 10) hx hb dX10_sack_14 (by decide) ?_
    refine lv_icmp_ne (tgt := 22) hx hb dX10_sack_16 (by decide) (fun hc16 => ?_) (fun hc16 => ?_)
    · replace h := tF hc16 h
      refine lv_aload_n hx hb dX10_sack_22 rfl (lv_at hl 0 rfl) ?_
      refine lv_iload_n hx hb dX10_sack_23 rfl (lv_at hl 1 rfl) ?_
      refine lv_bipush (v := 10) hx hb dX10_sack_24 (by decide) ?_
      obtain ⟨q26, e26, h⟩ := tB h
      refine rcV C hH hl.1 (mX10_adds l e26) cf_RX10_110 ro_58 (RR_of (by decide) (by decide)) rfl (rest := []) rfl (Nat.le_of_ble_eq_true rfl) dX10_sack_26 ?_
      intro H locs hH
      refine lv_aload_n hx hb dX10_sack_29 rfl (lv_at hl 0 rfl) ?_
      refine rgI C hH fi_RX10_100_58 dX10_sack_30 ?_
      refine lv_iconst (v := 1) hx hb dX10_sack_33 (by decide) ?_
      refine lv_isub hx hb dX10_sack_34 ?_
      have h := Option.some.inj h
      subst h
      exact retI C hH trivial dX10_sack_35
    · replace h := tT hc16 h
      refine lv_bipush (v := (-3)) hx hb dX10_sack_19 (by decide) ?_
      have h := Option.some.inj h
      subst h
      exact retI C hH trivial dX10_sack_21
  · replace h := tT hc5 h
    refine lv_iconst (v := (-1)) hx hb dX10_sack_8 (by decide) ?_
    have h := Option.some.inj h
    subst h
    exact retI C hH trivial dX10_sack_9
set_option maxHeartbeats 2000000 in
set_option maxRecDepth 20000 in
theorem wX9_isShelf_14 (C : Cx D ca A p s m args meth c cX9_isShelf RX9 1 (some .boolean)) {q : Int32 × Mm} {mm : Mm} (h : DX9_isShelf_14 mm = some q) (hH : Hx WN ad ca WS D A s.heap mm H locs) (hl : lv_has ls 1 []) : W p l e (rmk 1) s m args below meth c H locs 0 0 (MQ below (QcI WN ad ca WS D A pzZ q) args s 0 0 A) (F0 m 14 ls []) := by
  unfold DX9_isShelf_14 at h
  have hx := C.1
  have hb := C.2.1
  refine lv_iconst (v := 0) hx hb dX9_isShelf_14 (by decide) ?_
  have h := Option.some.inj h
  subst h
  exact retZ C hH (Or.inl rfl) dX9_isShelf_15
set_option maxHeartbeats 2000000 in
set_option maxRecDepth 20000 in
theorem mX9_isShelf (l : Launch) {D : va_G} {ca : Nat → ClassId} {A : Nat → Prop} {ad : Nat → Nat} {v0 : Int32} {mm : Mm} {q : Int32 × Mm} (h : dX9_isShelf v0 mm = some q) : Met l yX9_isShelf (wsOf yX9_isShelf cX9_isShelf 1 (some .boolean)) (rmk 1) (PcX WN ad ca WS D A [.int v0] mm) (QcI WN ad ca WS D A pzZ q) 0 0 A := by
  unfold dX9_isShelf at h
  refine ent (by decide) (Nat.le_of_ble_eq_true rfl) (fun p e s m args below meth c hargs C hH ls hl => ?_)
  have hx := C.1
  have hb := C.2.1
  have hl : lv_has ls 1 [(0, .int v0)] := hl
  refine lv_iload_n hx hb dX9_isShelf_0 rfl (lv_at hl 0 rfl) ?_
  refine lv_if_lt (tgt := 14) hx hb dX9_isShelf_1 (by decide) (fun hc1 => ?_) (fun hc1 => ?_)
  · replace h := tT hc1 h
    exact wX9_isShelf_14 C h hH (lv_sub hl [] rfl)
  · replace h := tF hc1 h
    refine lv_iload_n hx hb dX9_isShelf_4 rfl (lv_at hl 0 rfl) ?_
    refine lv_bipush (v := 6) hx hb dX9_isShelf_5 (by decide) ?_
    refine lv_icmp_ge (tgt := 14) hx hb dX9_isShelf_7 (by decide) (fun hc7 => ?_) (fun hc7 => ?_)
    · replace h := tT hc7 h
      exact wX9_isShelf_14 C h hH (lv_sub hl [] rfl)
    · replace h := tF hc7 h
      refine lv_iconst (v := 1) hx hb dX9_isShelf_10 (by decide) ?_
      refine lv_goto (tgt := 15) hx hb dX9_isShelf_11 (by decide) ?_
      have h := Option.some.inj h
      subst h
      exact retZ C hH (Or.inr rfl) dX9_isShelf_15
set_option maxHeartbeats 2000000 in
set_option maxRecDepth 20000 in
theorem wX8_bytesRefusal_29 (C : Cx D ca A p s m args meth c cX8_bytesRefusal RX8 1 (some .int)) {q : Int32 × Mm} {mm : Mm} (h : DX8_bytesRefusal_29 mm = some q) (hH : Hx WN ad ca WS D A s.heap mm H locs) (hl : lv_has ls 1 []) : W p l e (rmk 1) s m args below meth c H locs 0 0 (MQ below (QcI WN ad ca WS D A pzT q) args s 0 0 A) (F0 m 29 ls []) := by
  unfold DX8_bytesRefusal_29 at h
  have hx := C.1
  have hb := C.2.1
  refine lv_bipush (v := (-12)) hx hb dX8_bytesRefusal_29 (by decide) ?_
  have h := Option.some.inj h
  subst h
  exact retI C hH trivial dX8_bytesRefusal_31
set_option maxHeartbeats 2000000 in
set_option maxRecDepth 20000 in
theorem mX8_bytesRefusal (l : Launch) {D : va_G} {ca : Nat → ClassId} {A : Nat → Prop} {ad : Nat → Nat} {v0 : Nat} {mm : Mm} {q : Int32 × Mm} (h : dX8_bytesRefusal v0 mm = some q) : Met l yX8_bytesRefusal (wsOf yX8_bytesRefusal cX8_bytesRefusal 1 (some .int)) (rmk 1) (PcX WN ad ca WS D A [.ref (ad v0)] mm) (QcI WN ad ca WS D A pzT q) 0 0 A := by
  unfold dX8_bytesRefusal at h
  refine ent (by decide) (Nat.le_of_ble_eq_true rfl) (fun p e s m args below meth c hargs C hH ls hl => ?_)
  have hx := C.1
  have hb := C.2.1
  have hl : lv_has ls 1 [(0, .ref (ad v0))] := hl
  obtain ⟨ho0, h⟩ := tC h
  refine lv_aload_n hx hb dX8_bytesRefusal_0 rfl (lv_at hl 0 rfl) ?_
  refine rgI C hH (fiSH_RX8_15 ho0) dX8_bytesRefusal_1 ?_
  refine lv_if_ne (tgt := 10) hx hb dX8_bytesRefusal_4 (by decide) (fun hc4 => ?_) (fun hc4 => ?_)
  · replace h := tF hc4 h
    refine lv_aload_n hx hb dX8_bytesRefusal_10 rfl (lv_at hl 0 rfl) ?_
    refine rgI C hH (fiSH_RX8_15 ho0) dX8_bytesRefusal_11 ?_
    refine lv_iconst (v := 2) hx hb dX8_bytesRefusal_14 (by decide) ?_
    refine lv_icmp_ne (tgt := 29) hx hb dX8_bytesRefusal_15 (by decide) (fun hc15 => ?_) (fun hc15 => ?_)
    · replace h := tF hc15 h
      exact wX8_bytesRefusal_29 C h hH (lv_sub hl [] rfl)
    · replace h := tT hc15 h
      refine lv_aload_n hx hb dX8_bytesRefusal_18 rfl (lv_at hl 0 rfl) ?_
      refine rgI C hH (fiSH_RX8_22 ho0) dX8_bytesRefusal_19 ?_
      refine lv_if_ne (tgt := 29) hx hb dX8_bytesRefusal_22 (by decide) (fun hc22 => ?_) (fun hc22 => ?_)
      · replace h := tF hc22 h
        exact wX8_bytesRefusal_29 C h hH (lv_sub hl [] rfl)
      · replace h := tT hc22 h
        refine lv_iconst (v := 0) hx hb dX8_bytesRefusal_25 (by decide) ?_
        refine lv_goto (tgt := 31) hx hb dX8_bytesRefusal_26 (by decide) ?_
        have h := Option.some.inj h
        subst h
        exact retI C hH trivial dX8_bytesRefusal_31
  · replace h := tT hc4 h
    refine lv_bipush (v := (-11)) hx hb dX8_bytesRefusal_7 (by decide) ?_
    have h := Option.some.inj h
    subst h
    exact retI C hH trivial dX8_bytesRefusal_9
set_option maxHeartbeats 2000000 in
set_option maxRecDepth 20000 in
theorem wX8_hasPlaces_30 (C : Cx D ca A p s m args meth c cX8_hasPlaces RX8 3 (some .boolean)) {q : Int32 × Mm} {mm : Mm} (h : DX8_hasPlaces_30 mm = some q) (hH : Hx WN ad ca WS D A s.heap mm H locs) (hl : lv_has ls 3 []) : W p l e (rmk 1) s m args below meth c H locs 0 0 (MQ below (QcI WN ad ca WS D A pzZ q) args s 0 0 A) (F0 m 30 ls []) := by
  unfold DX8_hasPlaces_30 at h
  have hx := C.1
  have hb := C.2.1
  refine lv_iconst (v := 0) hx hb dX8_hasPlaces_30 (by decide) ?_
  have h := Option.some.inj h
  subst h
  exact retZ C hH (Or.inl rfl) dX8_hasPlaces_31
set_option maxHeartbeats 2000000 in
set_option maxRecDepth 20000 in
theorem mX8_hasPlaces (l : Launch) {D : va_G} {ca : Nat → ClassId} {A : Nat → Prop} {ad : Nat → Nat} {v0 : Nat} {v1 : Int32} {v2 : Int32} {mm : Mm} {q : Int32 × Mm} (h : dX8_hasPlaces v0 v1 v2 mm = some q) : Met l yX8_hasPlaces (wsOf yX8_hasPlaces cX8_hasPlaces 3 (some .boolean)) (rmk 1) (PcX WN ad ca WS D A [.ref (ad v0), .int v1, .int v2] mm) (QcI WN ad ca WS D A pzZ q) 0 0 A := by
  unfold dX8_hasPlaces at h
  refine ent (by decide) (Nat.le_of_ble_eq_true rfl) (fun p e s m args below meth c hargs C hH ls hl => ?_)
  have hx := C.1
  have hb := C.2.1
  have hl : lv_has ls 3 [(0, .ref (ad v0)), (1, .int v1), (2, .int v2)] := hl
  obtain ⟨ho0, h⟩ := tC h
  refine lv_iload_n hx hb dX8_hasPlaces_0 rfl (lv_at hl 1 rfl) ?_
  refine lv_if_lt (tgt := 30) hx hb dX8_hasPlaces_1 (by decide) (fun hc1 => ?_) (fun hc1 => ?_)
  · replace h := tT hc1 h
    exact wX8_hasPlaces_30 C h hH (lv_sub hl [] rfl)
  · replace h := tF hc1 h
    refine lv_iload_n hx hb dX8_hasPlaces_4 rfl (lv_at hl 2 rfl) ?_
    refine lv_if_lt (tgt := 30) hx hb dX8_hasPlaces_5 (by decide) (fun hc5 => ?_) (fun hc5 => ?_)
    · replace h := tT hc5 h
      exact wX8_hasPlaces_30 C h hH (lv_sub hl [] rfl)
    · replace h := tF hc5 h
      refine lv_iload_n hx hb dX8_hasPlaces_8 rfl (lv_at hl 2 rfl) ?_
      refine lv_aload_n hx hb dX8_hasPlaces_9 rfl (lv_at hl 0 rfl) ?_
      refine rgI C hH (fiSH_RX8_25 ho0) dX8_hasPlaces_10 ?_
      refine lv_icmp_gt (tgt := 30) hx hb dX8_hasPlaces_13 (by decide) (fun hc13 => ?_) (fun hc13 => ?_)
      · replace h := tT hc13 h
        exact wX8_hasPlaces_30 C h hH (lv_sub hl [] rfl)
      · replace h := tF hc13 h
        refine lv_iload_n hx hb dX8_hasPlaces_16 rfl (lv_at hl 1 rfl) ?_
        refine lv_aload_n hx hb dX8_hasPlaces_17 rfl (lv_at hl 0 rfl) ?_
        refine rgI C hH (fiSH_RX8_25 ho0) dX8_hasPlaces_18 ?_
        refine lv_iload_n hx hb dX8_hasPlaces_21 rfl (lv_at hl 2 rfl) ?_
        refine lv_isub hx hb dX8_hasPlaces_22 ?_
        refine lv_icmp_gt (tgt := 30) hx hb dX8_hasPlaces_23 (by decide) (fun hc23 => ?_) (fun hc23 => ?_)
        · replace h := tT hc23 h
          exact wX8_hasPlaces_30 C h hH (lv_sub hl [] rfl)
        · replace h := tF hc23 h
          refine lv_iconst (v := 1) hx hb dX8_hasPlaces_26 (by decide) ?_
          refine lv_goto (tgt := 31) hx hb dX8_hasPlaces_27 (by decide) ?_
          have h := Option.some.inj h
          subst h
          exact retZ C hH (Or.inr rfl) dX8_hasPlaces_31
set_option maxHeartbeats 2000000 in
set_option maxRecDepth 20000 in
theorem mX8_byteAt (l : Launch) {D : va_G} {ca : Nat → ClassId} {A : Nat → Prop} {ad : Nat → Nat} {v0 : Nat} {v1 : Int32} {mm : Mm} {q : Int32 × Mm} (h : dX8_byteAt v0 v1 mm = some q) : Met l yX8_byteAt (wsOf yX8_byteAt cX8_byteAt 2 (some .int)) (rmk 2) (PcX WN ad ca WS D A [.ref (ad v0), .int v1] mm) (QcI WN ad ca WS D A pzT q) 0 0 A := by
  unfold dX8_byteAt at h
  refine ent (by decide) (Nat.le_of_ble_eq_true rfl) (fun p e s m args below meth c hargs C hH ls hl => ?_)
  have hx := C.1
  have hb := C.2.1
  have hl : lv_has ls 2 [(0, .ref (ad v0)), (1, .int v1)] := hl
  obtain ⟨ho0, h⟩ := tC h
  refine lv_aload_n hx hb dX8_byteAt_0 rfl (lv_at hl 0 rfl) ?_
  refine lv_iload_n hx hb dX8_byteAt_1 rfl (lv_at hl 1 rfl) ?_
  refine lv_iconst (v := 1) hx hb dX8_byteAt_2 (by decide) ?_
  obtain ⟨q3, e3, h⟩ := tB h
  refine rcI C hH hl.1 (mX8_hasPlaces l e3) cf_RX8_34 (ro_sh ho0) (RR_of (by decide) (by decide)) rfl (rest := []) rfl (Nat.le_of_ble_eq_true rfl) dX8_byteAt_3 ?_
  intro hz3 H locs hH
  refine lv_if_eq (tgt := 19) hx hb dX8_byteAt_6 (by decide) (fun hc6 => ?_) (fun hc6 => ?_)
  · replace h := tT hc6 h
    refine lv_sipush (v := (-1000)) hx hb dX8_byteAt_19 (by decide) ?_
    have h := Option.some.inj h
    subst h
    exact retI C hH trivial dX8_byteAt_22
  · replace h := tF hc6 h
    refine lv_aload_n hx hb dX8_byteAt_9 rfl (lv_at hl 0 rfl) ?_
    refine rgS C hH (fsSH_RX8_11 ho0) dX8_byteAt_10 ?_
    refine lv_iload_n hx hb dX8_byteAt_13 rfl (lv_at hl 1 rfl) ?_
    obtain ⟨hi14, h⟩ := tC h
    refine raL C hH (k := (Int32.toNatClampNeg v1)) (shE ho0).2.2.1 (shE ho0).2.2.2 hi14 rfl dX8_byteAt_14 ?_
    refine lv_l2i' hx hb dX8_byteAt_15 ?_
    refine lv_goto (tgt := 22) hx hb dX8_byteAt_16 (by decide) ?_
    have h := Option.some.inj h
    subst h
    exact retI C hH trivial dX8_byteAt_22
set_option maxHeartbeats 2000000 in
set_option maxRecDepth 20000 in
theorem wX9_within_34 (C : Cx D ca A p s m args meth c cX9_within RX9 2 (some .boolean)) {q : Int32 × Mm} {mm : Mm} (h : DX9_within_34 mm = some q) (hH : Hx WN ad ca WS D A s.heap mm H locs) (hl : lv_has ls 2 []) : W p l e (rmk 1) s m args below meth c H locs 0 0 (MQ below (QcI WN ad ca WS D A pzZ q) args s 0 0 A) (F0 m 34 ls []) := by
  unfold DX9_within_34 at h
  have hx := C.1
  have hb := C.2.1
  refine lv_iconst (v := 0) hx hb dX9_within_34 (by decide) ?_
  have h := Option.some.inj h
  subst h
  exact retZ C hH (Or.inl rfl) dX9_within_35
set_option maxHeartbeats 2000000 in
set_option maxRecDepth 20000 in
theorem mX9_within (l : Launch) {D : va_G} {ca : Nat → ClassId} {A : Nat → Prop} {ad : Nat → Nat} {v0 : Int32} {v1 : Int32} {mm : Mm} {q : Int32 × Mm} (h : dX9_within v0 v1 mm = some q) : Met l yX9_within (wsOf yX9_within cX9_within 2 (some .boolean)) (rmk 1) (PcX WN ad ca WS D A [.int v0, .int v1] mm) (QcI WN ad ca WS D A pzZ q) 0 0 A := by
  unfold dX9_within at h
  refine ent (by decide) (Nat.le_of_ble_eq_true rfl) (fun p e s m args below meth c hargs C hH ls hl => ?_)
  have hx := C.1
  have hb := C.2.1
  have hl : lv_has ls 2 [(0, .int v0), (1, .int v1)] := hl
  refine lv_iload_n hx hb dX9_within_0 rfl (lv_at hl 0 rfl) ?_
  refine lv_if_lt (tgt := 34) hx hb dX9_within_1 (by decide) (fun hc1 => ?_) (fun hc1 => ?_)
  · replace h := tT hc1 h
    exact wX9_within_34 C h hH (lv_sub hl [] rfl)
  · replace h := tF hc1 h
    refine lv_iload_n hx hb dX9_within_4 rfl (lv_at hl 0 rfl) ?_
    refine rst C hH C.2.2.2.2.2.2.2.2.1 st_RX9_346 dX9_within_5 (fun t5 hT5 => ?_)
    refine rstl C hH (v := 9) hT5 (by decide) dX9_within_8 ?_
    refine lv_icmp_ge (tgt := 34) hx hb dX9_within_9 (by decide) (fun hc9 => ?_) (fun hc9 => ?_)
    · replace h := tT hc9 h
      exact wX9_within_34 C h hH (lv_sub hl [] rfl)
    · replace h := tF hc9 h
      refine lv_iload_n hx hb dX9_within_12 rfl (lv_at hl 1 rfl) ?_
      refine rst C hH C.2.2.2.2.2.2.2.2.1 st_RX9_346 dX9_within_13 (fun t13 hT13 => ?_)
      refine lv_iload_n hx hb dX9_within_16 rfl (lv_at hl 0 rfl) ?_
      obtain ⟨hi17, h⟩ := tC h
      refine rsti C hH hT13 hi17 dX9_within_17 ?_
      refine lv_icmp_lt (tgt := 34) hx hb dX9_within_18 (by decide) (fun hc18 => ?_) (fun hc18 => ?_)
      · replace h := tT hc18 h
        exact wX9_within_34 C h hH (lv_sub hl [] rfl)
      · replace h := tF hc18 h
        refine lv_iload_n hx hb dX9_within_21 rfl (lv_at hl 1 rfl) ?_
        refine rst C hH C.2.2.2.2.2.2.2.2.2.1 st_RX9_350 dX9_within_22 (fun t22 hT22 => ?_)
        refine lv_iload_n hx hb dX9_within_25 rfl (lv_at hl 0 rfl) ?_
        obtain ⟨hi26, h⟩ := tC h
        refine rsti C hH hT22 hi26 dX9_within_26 ?_
        refine lv_icmp_gt (tgt := 34) hx hb dX9_within_27 (by decide) (fun hc27 => ?_) (fun hc27 => ?_)
        · replace h := tT hc27 h
          exact wX9_within_34 C h hH (lv_sub hl [] rfl)
        · replace h := tF hc27 h
          refine lv_iconst (v := 1) hx hb dX9_within_30 (by decide) ?_
          refine lv_goto (tgt := 35) hx hb dX9_within_31 (by decide) ?_
          have h := Option.some.inj h
          subst h
          exact retZ C hH (Or.inr rfl) dX9_within_35
set_option maxHeartbeats 2000000 in
set_option maxRecDepth 20000 in
theorem wX9_cameFrom_49 (C : Cx D ca A p s m args meth c cX9_cameFrom RX9 5 (some .boolean)) {q : Int32 × Mm} {mm : Mm} (h : DX9_cameFrom_49 mm = some q) (hH : Hx WN ad ca WS D A s.heap mm H locs) (hl : lv_has ls 5 []) : W p l e (rmk 3) s m args below meth c H locs 0 0 (MQ below (QcI WN ad ca WS D A pzZ q) args s 0 0 A) (F0 m 49 ls []) := by
  unfold DX9_cameFrom_49 at h
  have hx := C.1
  have hb := C.2.1
  refine lv_iconst (v := 0) hx hb dX9_cameFrom_49 (by decide) ?_
  have h := Option.some.inj h
  subst h
  exact retZ C hH (Or.inl rfl) dX9_cameFrom_50
set_option maxHeartbeats 2000000 in
set_option maxRecDepth 20000 in
theorem mX9_cameFrom (l : Launch) {D : va_G} {ca : Nat → ClassId} {A : Nat → Prop} {ad : Nat → Nat} {v1 : Nat} {v2 : Int32} {mm : Mm} {q : Int32 × Mm} (h : dX9_cameFrom v1 v2 mm = some q) : Met l yX9_cameFrom (wsOf yX9_cameFrom cX9_cameFrom 5 (some .boolean)) (rmk 3) (PcX WN ad ca WS D A [.ref (ad 0), .ref (ad v1), .int v2] mm) (QcI WN ad ca WS D A pzZ q) 0 0 A := by
  unfold dX9_cameFrom at h
  refine ent (by decide) (Nat.le_of_ble_eq_true rfl) (fun p e s m args below meth c hargs C hH ls hl => ?_)
  have hx := C.1
  have hb := C.2.1
  have hl : lv_has ls 5 [(0, .ref (ad 0)), (1, .ref (ad v1)), (2, .int v2)] := hl
  obtain ⟨ho1, h⟩ := tC h
  refine lv_aload_n hx hb dX9_cameFrom_0 rfl (lv_at hl 1 rfl) ?_
  refine lv_iload_n hx hb dX9_cameFrom_1 rfl (lv_at hl 2 rfl) ?_
  obtain ⟨q2, e2, h⟩ := tB h
  refine rcI C hH hl.1 (mX8_byteAt l e2) cf_RX9_87 (ro_sh ho1) (RR_of (by decide) (by decide)) rfl (rest := []) rfl (Nat.le_of_ble_eq_true rfl) dX9_cameFrom_2 ?_
  intro hz2 H locs hH
  refine lv_istore_n (lv' := [(3, .int q2.1), (0, .ref (ad 0)), (1, .ref (ad v1)), (2, .int v2)]) hx hb dX9_cameFrom_5 rfl hl (by decide) rfl (fun ls hl => ?_)
  refine lv_aload_n hx hb dX9_cameFrom_6 rfl (lv_at hl 2 rfl) ?_
  refine lv_iload_n hx hb dX9_cameFrom_7 rfl (lv_at hl 3 rfl) ?_
  refine lv_iconst (v := 1) hx hb dX9_cameFrom_8 (by decide) ?_
  refine lv_iadd hx hb dX9_cameFrom_9 ?_
  obtain ⟨q10, e10, h⟩ := tB h
  refine rcI C hH hl.1 (mX8_byteAt l e10) cf_RX9_87 (ro_sh ho1) (RR_of (by decide) (by decide)) rfl (rest := []) rfl (Nat.le_of_ble_eq_true rfl) dX9_cameFrom_10 ?_
  intro hz10 H locs hH
  refine lv_istore (lv' := [(4, .int q10.1), (3, .int q2.1), (0, .ref (ad 0)), (1, .ref (ad v1)), (2, .int v2)]) hx hb dX9_cameFrom_13 hl (by decide) rfl (fun ls hl => ?_)
  refine lv_iconst (v := 4) hx hb dX9_cameFrom_15 (by decide) ?_
  refine lv_iload_n hx hb dX9_cameFrom_16 rfl (lv_at hl 1 rfl) ?_
  obtain ⟨q17, e17, h⟩ := tB h
  refine rsI C hH hl.1 (mX9_within l e17) cs_RX9_91 (RR_of (by decide) (by decide)) rfl (rest := []) rfl (Nat.le_of_ble_eq_true rfl) dX9_cameFrom_17 ?_
  intro hz17 H locs hH
  refine lv_if_eq (tgt := 49) hx hb dX9_cameFrom_20 (by decide) (fun hc20 => ?_) (fun hc20 => ?_)
  · replace h := tT hc20 h
    exact wX9_cameFrom_49 C h hH (lv_sub hl [] rfl)
  · replace h := tF hc20 h
    refine lv_iconst (v := 5) hx hb dX9_cameFrom_23 (by decide) ?_
    refine lv_iload hx hb dX9_cameFrom_24 (lv_at hl 0 rfl) ?_
    obtain ⟨q26, e26, h⟩ := tB h
    refine rsI C hH hl.1 (mX9_within l e26) cs_RX9_91 (RR_of (by decide) (by decide)) rfl (rest := []) rfl (Nat.le_of_ble_eq_true rfl) dX9_cameFrom_26 ?_
    intro hz26 H locs hH
    refine lv_if_eq (tgt := 49) hx hb dX9_cameFrom_29 (by decide) (fun hc29 => ?_) (fun hc29 => ?_)
    · replace h := tT hc29 h
      exact wX9_cameFrom_49 C h hH (lv_sub hl [] rfl)
    · replace h := tF hc29 h
      refine lv_aload_n hx hb dX9_cameFrom_32 rfl (lv_at hl 2 rfl) ?_
      refine rgS C hH fs_RX9_10_0 dX9_cameFrom_33 ?_
      refine lv_iload_n hx hb dX9_cameFrom_36 rfl (lv_at hl 1 rfl) ?_
      refine lv_iload hx hb dX9_cameFrom_37 (lv_at hl 0 rfl) ?_
      obtain ⟨q39, e39, h⟩ := tB h
      refine rcI C hH hl.1 (mX7_addSack l e39) cf_RX9_71 ro_1 (RR_of (by decide) (by decide)) rfl (rest := []) rfl (Nat.le_of_ble_eq_true rfl) dX9_cameFrom_39 ?_
      intro hz39 H locs hH
      refine lv_if_lt (tgt := 49) hx hb dX9_cameFrom_42 (by decide) (fun hc42 => ?_) (fun hc42 => ?_)
      · replace h := tT hc42 h
        exact wX9_cameFrom_49 C h hH (lv_sub hl [] rfl)
      · replace h := tF hc42 h
        refine lv_iconst (v := 1) hx hb dX9_cameFrom_45 (by decide) ?_
        refine lv_goto (tgt := 50) hx hb dX9_cameFrom_46 (by decide) ?_
        have h := Option.some.inj h
        subst h
        exact retZ C hH (Or.inr rfl) dX9_cameFrom_50
set_option maxHeartbeats 2000000 in
set_option maxRecDepth 20000 in
theorem wX9_sacks_18 (C : Cx D ca A p s m args meth c cX9_sacks RX9 6 (some .int)) {q : Int32 × Mm} {mm : Mm} (h : DX9_sacks_18 mm = some q) (hH : Hx WN ad ca WS D A s.heap mm H locs) (hl : lv_has ls 6 []) : W p l e (rmk 4) s m args below meth c H locs 0 0 (MQ below (QcI WN ad ca WS D A pzT q) args s 0 0 A) (F0 m 18 ls []) := by
  unfold DX9_sacks_18 at h
  have hx := C.1
  have hb := C.2.1
  refine lv_iconst (v := (-1)) hx hb dX9_sacks_18 (by decide) ?_
  have h := Option.some.inj h
  subst h
  exact retI C hH trivial dX9_sacks_19
set_option maxHeartbeats 2000000 in
set_option maxRecDepth 20000 in
theorem wX9_sacks_82 (C : Cx D ca A p s m args meth c cX9_sacks RX9 6 (some .int)) {q : Int32 × Mm} {v5 : Int32} {mm : Mm} (h : DX9_sacks_82 v5 mm = some q) (hH : Hx WN ad ca WS D A s.heap mm H locs) (hl : lv_has ls 6 [(5, .int v5)]) : W p l e (rmk 4) s m args below meth c H locs 0 0 (MQ below (QcI WN ad ca WS D A pzT q) args s 0 0 A) (F0 m 82 ls []) := by
  unfold DX9_sacks_82 at h
  have hx := C.1
  have hb := C.2.1
  refine lv_iload hx hb dX9_sacks_82 (lv_at hl 0 rfl) ?_
  have h := Option.some.inj h
  subst h
  exact retI C hH trivial dX9_sacks_84
set_option maxHeartbeats 2000000 in
set_option maxRecDepth 20000 in
theorem wbX9_sacks_51 (C : Cx D ca A p s m args meth c cX9_sacks RX9 6 (some .int)) {q : Int32 × Mm} {k51 : Int32 → Int32 → Int32 → Int32 → Mm → Option (Int32 × Mm)} (hk51 : ∀ (v1 : Int32) (v2 : Int32) (v3 : Int32) (v5 : Int32) (mm : Mm), k51 v1 v2 v3 v5 mm = some q → ∀ (H : Heap) (locs : List Loc) (ls : Array Slot), Hx WN ad ca WS D A s.heap mm H locs → lv_has ls 6 [(0, .ref (ad 0)), (1, .int v1), (2, .int v2), (3, .int v3), (5, .int v5)] → W p l e (rmk 4) s m args below meth c H locs 0 0 (MQ below (QcI WN ad ca WS D A pzT q) args s 0 0 A) (F0 m 51 ls [])) {v1 : Int32} {v2 : Int32} {v3 : Int32} {v5 : Int32} {mm : Mm} (h : BX9_sacks_51 k51 v1 v2 v3 v5 mm = some q) (hH : Hx WN ad ca WS D A s.heap mm H locs) (hl : lv_has ls 6 [(0, .ref (ad 0)), (1, .int v1), (2, .int v2), (3, .int v3), (5, .int v5)]) : W p l e (rmk 4) s m args below meth c H locs 0 0 (MQ below (QcI WN ad ca WS D A pzT q) args s 0 0 A) (F0 m 51 ls []) := by
  unfold BX9_sacks_51 at h
  have hx := C.1
  have hb := C.2.1
  refine lv_iload hx hb dX9_sacks_51 (lv_at hl 4 rfl) ?_
  refine lv_iload_n hx hb dX9_sacks_53 rfl (lv_at hl 3 rfl) ?_
  refine lv_icmp_ge (tgt := 82) hx hb dX9_sacks_54 (by decide) (fun hc54 => ?_) (fun hc54 => ?_)
  · replace h := tT hc54 h
    exact wX9_sacks_82 C h hH (lv_sub hl [4] rfl)
  · replace h := tF hc54 h
    refine lv_aload_n hx hb dX9_sacks_57 rfl (lv_at hl 0 rfl) ?_
    refine lv_aload_n hx hb dX9_sacks_58 rfl (lv_at hl 0 rfl) ?_
    refine rgS C hH fs_RX9_62_0 dX9_sacks_59 ?_
    refine lv_iload_n hx hb dX9_sacks_62 rfl (lv_at hl 1 rfl) ?_
    obtain ⟨hi63, h⟩ := tC h
    refine raS C hH (o := 37) (k := (Int32.toNatClampNeg v1)) (by decide) (show WS 37 = .inr (4, 6, 38) from rfl) hi63 rfl dX9_sacks_63 ?_
    refine lv_iload_n hx hb dX9_sacks_64 rfl (lv_at hl 2 rfl) ?_
    refine lv_iconst (v := 2) hx hb dX9_sacks_65 (by decide) ?_
    refine lv_iload hx hb dX9_sacks_66 (lv_at hl 4 rfl) ?_
    refine lv_imul hx hb dX9_sacks_68 ?_
    refine lv_iadd hx hb dX9_sacks_69 ?_
    obtain ⟨q70, e70, h⟩ := tB h
    refine rcI C hH hl.1 (mX9_cameFrom l e70) cf_RX9_83 ro_0 (RR_of (by decide) (by decide)) rfl (rest := []) rfl (Nat.le_of_ble_eq_true rfl) dX9_sacks_70 ?_
    intro hz70 H locs hH
    refine lv_if_eq (tgt := 82) hx hb dX9_sacks_73 (by decide) (fun hc73 => ?_) (fun hc73 => ?_)
    · replace h := tT hc73 h
      exact wX9_sacks_82 C h hH (lv_sub hl [4] rfl)
    · replace h := tF hc73 h
      refine lv_iinc (v := (v5 + 1)) (lv' := [(5, .int (v5 + 1)), (0, .ref (ad 0)), (1, .int v1), (2, .int v2), (3, .int v3)]) hx hb dX9_sacks_76 hl (k := 4) rfl rfl (by decide) rfl (fun ls hl => ?_)
      refine lv_goto (tgt := 51) hx hb dX9_sacks_79 (by decide) ?_
      exact hk51 _ _ _ _ _ h _ _ _ hH (lv_sub hl [1, 2, 3, 4, 0] rfl)
set_option maxHeartbeats 2000000 in
set_option maxRecDepth 20000 in
theorem wX9_sacks_51 (C : Cx D ca A p s m args meth c cX9_sacks RX9 6 (some .int)) {q : Int32 × Mm} : ∀ (N : Nat) (v1 : Int32) (v2 : Int32) (v3 : Int32) (v5 : Int32) (mm : Mm), DX9_sacks_51 N v1 v2 v3 v5 mm = some q → ∀ (H : Heap) (locs : List Loc) (ls : Array Slot), Hx WN ad ca WS D A s.heap mm H locs → lv_has ls 6 [(0, .ref (ad 0)), (1, .int v1), (2, .int v2), (3, .int v3), (5, .int v5)] → W p l e (rmk 4) s m args below meth c H locs 0 0 (MQ below (QcI WN ad ca WS D A pzT q) args s 0 0 A) (F0 m 51 ls []) := by
  intro N
  induction N with
  | zero =>
    intro v1 v2 v3 v5 mm h
    have h2 : (none : Option (Int32 × Mm)) = some q := h
    cases h2
  | succ N ih =>
    intro v1 v2 v3 v5 mm h H locs ls hH hl
    exact wbX9_sacks_51 C ih h hH hl
set_option maxHeartbeats 2000000 in
set_option maxRecDepth 20000 in
theorem mX9_sacks (l : Launch) {D : va_G} {ca : Nat → ClassId} {A : Nat → Prop} {ad : Nat → Nat} {v1 : Int32} {v2 : Int32} {v3 : Int32} {mm : Mm} {q : Int32 × Mm} (h : dX9_sacks v1 v2 v3 mm = some q) : Met l yX9_sacks (wsOf yX9_sacks cX9_sacks 6 (some .int)) (rmk 4) (PcX WN ad ca WS D A [.ref (ad 0), .int v1, .int v2, .int v3] mm) (QcI WN ad ca WS D A pzT q) 0 0 A := by
  unfold dX9_sacks at h
  refine ent (by decide) (Nat.le_of_ble_eq_true rfl) (fun p e s m args below meth c hargs C hH ls hl => ?_)
  have hx := C.1
  have hb := C.2.1
  have hl : lv_has ls 6 [(0, .ref (ad 0)), (1, .int v1), (2, .int v2), (3, .int v3)] := hl
  refine lv_iload_n hx hb dX9_sacks_0 rfl (lv_at hl 1 rfl) ?_
  obtain ⟨q1, e1, h⟩ := tB h
  refine rsI C hH hl.1 (mX9_isShelf l e1) cs_RX9_75 (RR_of (by decide) (by decide)) rfl (rest := []) rfl (Nat.le_of_ble_eq_true rfl) dX9_sacks_1 ?_
  intro hz1 H locs hH
  refine lv_if_eq (tgt := 18) hx hb dX9_sacks_4 (by decide) (fun hc4 => ?_) (fun hc4 => ?_)
  · replace h := tT hc4 h
    exact wX9_sacks_18 C h hH (lv_sub hl [] rfl)
  · replace h := tF hc4 h
    refine lv_iload_n hx hb dX9_sacks_7 rfl (lv_at hl 3 rfl) ?_
    refine lv_iconst (v := 1) hx hb dX9_sacks_8 (by decide) ?_
    refine lv_icmp_lt (tgt := 18) hx hb dX9_sacks_9 (by decide) (fun hc9 => ?_) (fun hc9 => ?_)
    · replace h := tT hc9 h
      exact wX9_sacks_18 C h hH (lv_sub hl [] rfl)
    · replace h := tF hc9 h
      refine lv_iload_n hx hb dX9_sacks_12 rfl (lv_at hl 3 rfl) ?_
      refine lv_bipush (v := 10) hx hb dX9_sacks_13 (by decide) ?_
      refine lv_icmp_le (tgt := 20) hx hb dX9_sacks_15 (by decide) (fun hc15 => ?_) (fun hc15 => ?_)
      · replace h := tT hc15 h
        refine lv_aload_n hx hb dX9_sacks_20 rfl (lv_at hl 0 rfl) ?_
        refine rgS C hH fs_RX9_62_0 dX9_sacks_21 ?_
        refine lv_iload_n hx hb dX9_sacks_24 rfl (lv_at hl 1 rfl) ?_
        obtain ⟨hi25, h⟩ := tC h
        refine raS C hH (o := 37) (k := (Int32.toNatClampNeg v1)) (by decide) (show WS 37 = .inr (4, 6, 38) from rfl) hi25 rfl dX9_sacks_25 ?_
        obtain ⟨q26, e26, h⟩ := tB h
        refine rcI C hH hl.1 (mX8_bytesRefusal l e26) cf_RX9_79 (ro_sh (sh_of hi25)) (RR_of (by decide) (by decide)) rfl (rest := []) rfl (Nat.le_of_ble_eq_true rfl) dX9_sacks_26 ?_
        intro hz26 H locs hH
        refine lv_istore (lv' := [(4, .int q26.1), (0, .ref (ad 0)), (1, .int v1), (2, .int v2), (3, .int v3)]) hx hb dX9_sacks_29 hl (by decide) rfl (fun ls hl => ?_)
        refine lv_iload hx hb dX9_sacks_31 (lv_at hl 0 rfl) ?_
        refine lv_bipush (v := (-11)) hx hb dX9_sacks_33 (by decide) ?_
        refine lv_icmp_ne (tgt := 40) hx hb dX9_sacks_35 (by decide) (fun hc35 => ?_) (fun hc35 => ?_)
        · replace h := tF hc35 h
          refine lv_iload hx hb dX9_sacks_40 (lv_at hl 0 rfl) ?_
          refine lv_if_eq (tgt := 48) hx hb dX9_sacks_42 (by decide) (fun hc42 => ?_) (fun hc42 => ?_)
          · replace h := tT hc42 h
            refine lv_iconst (v := 0) hx hb dX9_sacks_48 (by decide) ?_
            refine lv_istore (lv' := [(5, .int 0), (4, .int q26.1), (0, .ref (ad 0)), (1, .int v1), (2, .int v2), (3, .int v3)]) hx hb dX9_sacks_49 hl (by decide) rfl (fun ls hl => ?_)
            exact wX9_sacks_51 C FU _ _ _ _ _ h _ _ _ hH (lv_sub hl [2, 3, 4, 5, 0] rfl)
          · replace h := tF hc42 h
            refine lv_iload hx hb dX9_sacks_45 (lv_at hl 0 rfl) ?_
            have h := Option.some.inj h
            subst h
            exact retI C hH trivial dX9_sacks_47
        · replace h := tT hc35 h
          refine lv_iconst (v := 0) hx hb dX9_sacks_38 (by decide) ?_
          have h := Option.some.inj h
          subst h
          exact retI C hH trivial dX9_sacks_39
      · replace h := tF hc15 h
        exact wX9_sacks_18 C h hH (lv_sub hl [] rfl)
set_option maxHeartbeats 2000000 in
set_option maxRecDepth 20000 in
theorem mX10_isShelf (l : Launch) {D : va_G} {ca : Nat → ClassId} {A : Nat → Prop} {ad : Nat → Nat} {v0 : Int32} {mm : Mm} {q : Int32 × Mm} (h : dX10_isShelf v0 mm = some q) : Met l yX10_isShelf (wsOf yX10_isShelf cX10_isShelf 1 (some .boolean)) (rmk 2) (PcX WN ad ca WS D A [.int v0] mm) (QcI WN ad ca WS D A pzZ q) 0 0 A := by
  unfold dX10_isShelf at h
  refine ent (by decide) (Nat.le_of_ble_eq_true rfl) (fun p e s m args below meth c hargs C hH ls hl => ?_)
  have hx := C.1
  have hb := C.2.1
  have hl : lv_has ls 1 [(0, .int v0)] := hl
  refine lv_iload_n hx hb dX10_isShelf_0 rfl (lv_at hl 0 rfl) ?_
  refine lv_i2l' hx hb dX10_isShelf_1 ?_
  refine lv_lconst (v := 0) hx hb dX10_isShelf_2 (by decide) ?_
  refine rldc2 C (v := 5) k_RX10_94 dX10_isShelf_3 ?_
  obtain ⟨q6, e6, h⟩ := tB h
  refine rsI C hH hl.1 (mX10_within l e6) cs_RX10_96 (RR_of (by decide) (by decide)) rfl (rest := []) rfl (Nat.le_of_ble_eq_true rfl) dX10_isShelf_6 ?_
  intro hz6 H locs hH
  have h := Option.some.inj h
  subst h
  exact retZ C hH hz6 dX10_isShelf_9
set_option maxHeartbeats 2000000 in
set_option maxRecDepth 20000 in
theorem wX10_sacks_19 (C : Cx D ca A p s m args meth c cX10_sacks RX10 7 (some .int)) {q : Int32 × Mm} {mm : Mm} (h : DX10_sacks_19 mm = some q) (hH : Hx WN ad ca WS D A s.heap mm H locs) (hl : lv_has ls 7 []) : W p l e (rmk 3) s m args below meth c H locs 0 0 (MQ below (QcI WN ad ca WS D A pzT q) args s 0 0 A) (F0 m 19 ls []) := by
  unfold DX10_sacks_19 at h
  have hx := C.1
  have hb := C.2.1
  refine lv_iconst (v := (-1)) hx hb dX10_sacks_19 (by decide) ?_
  have h := Option.some.inj h
  subst h
  exact retI C hH trivial dX10_sacks_20
set_option maxHeartbeats 2000000 in
set_option maxRecDepth 20000 in
theorem wX10_sacks_203 (C : Cx D ca A p s m args meth c cX10_sacks RX10 7 (some .int)) {q : Int32 × Mm} {v4 : Int32} {mm : Mm} (h : DX10_sacks_203 v4 mm = some q) (hH : Hx WN ad ca WS D A s.heap mm H locs) (hl : lv_has ls 7 [(4, .int v4)]) : W p l e (rmk 3) s m args below meth c H locs 0 0 (MQ below (QcI WN ad ca WS D A pzT q) args s 0 0 A) (F0 m 203 ls []) := by
  unfold DX10_sacks_203 at h
  have hx := C.1
  have hb := C.2.1
  refine lv_iload hx hb dX10_sacks_203 (lv_at hl 0 rfl) ?_
  have h := Option.some.inj h
  subst h
  exact retI C hH trivial dX10_sacks_205
set_option maxHeartbeats 2000000 in
set_option maxRecDepth 20000 in
theorem wX10_sacks_200 (C : Cx D ca A p s m args meth c cX10_sacks RX10 7 (some .int)) {q : Int32 × Mm} {k69 : Int32 → Int32 → Int32 → Int32 → Int32 → Mm → Option (Int32 × Mm)} (hk69 : ∀ (v1 : Int32) (v2 : Int32) (v3 : Int32) (v4 : Int32) (v5 : Int32) (mm : Mm), k69 v1 v2 v3 v4 v5 mm = some q → ∀ (H : Heap) (locs : List Loc) (ls : Array Slot), Hx WN ad ca WS D A s.heap mm H locs → lv_has ls 7 [(0, .ref (ad 58)), (1, .int v1), (2, .int v2), (3, .int v3), (4, .int v4), (5, .int v5)] → W p l e (rmk 3) s m args below meth c H locs 0 0 (MQ below (QcI WN ad ca WS D A pzT q) args s 0 0 A) (F0 m 69 ls [])) {v1 : Int32} {v2 : Int32} {v3 : Int32} {v4 : Int32} {v5 : Int32} {mm : Mm} (h : DX10_sacks_200 k69 v1 v2 v3 v4 v5 mm = some q) (hH : Hx WN ad ca WS D A s.heap mm H locs) (hl : lv_has ls 7 [(0, .ref (ad 58)), (1, .int v1), (2, .int v2), (3, .int v3), (4, .int v4), (5, .int v5)]) : W p l e (rmk 3) s m args below meth c H locs 0 0 (MQ below (QcI WN ad ca WS D A pzT q) args s 0 0 A) (F0 m 200 ls []) := by
  unfold DX10_sacks_200 at h
  have hx := C.1
  have hb := C.2.1
  refine lv_goto (tgt := 69) hx hb dX10_sacks_200 (by decide) ?_
  exact hk69 _ _ _ _ _ _ h _ _ _ hH (lv_sub hl [0, 1, 2, 3, 4, 5] rfl)
set_option maxHeartbeats 2000000 in
set_option maxRecDepth 20000 in
theorem wX10_sacks_168 (C : Cx D ca A p s m args meth c cX10_sacks RX10 7 (some .int)) {q : Int32 × Mm} {k69 : Int32 → Int32 → Int32 → Int32 → Int32 → Mm → Option (Int32 × Mm)} (hk69 : ∀ (v1 : Int32) (v2 : Int32) (v3 : Int32) (v4 : Int32) (v5 : Int32) (mm : Mm), k69 v1 v2 v3 v4 v5 mm = some q → ∀ (H : Heap) (locs : List Loc) (ls : Array Slot), Hx WN ad ca WS D A s.heap mm H locs → lv_has ls 7 [(0, .ref (ad 58)), (1, .int v1), (2, .int v2), (3, .int v3), (4, .int v4), (5, .int v5)] → W p l e (rmk 3) s m args below meth c H locs 0 0 (MQ below (QcI WN ad ca WS D A pzT q) args s 0 0 A) (F0 m 69 ls [])) {v1 : Int32} {v2 : Int32} {v3 : Int32} {v4 : Int32} {v6 : Int32} {s0 : Int32} {mm : Mm} (h : DX10_sacks_168 k69 v1 v2 v3 v4 v6 s0 mm = some q) (hH : Hx WN ad ca WS D A s.heap mm H locs) (hl : lv_has ls 7 [(0, .ref (ad 58)), (1, .int v1), (2, .int v2), (3, .int v3), (4, .int v4), (6, .int v6)]) : W p l e (rmk 3) s m args below meth c H locs 0 0 (MQ below (QcI WN ad ca WS D A pzT q) args s 0 0 A) (F0 m 168 ls [.int s0]) := by
  unfold DX10_sacks_168 at h
  have hx := C.1
  have hb := C.2.1
  refine lv_istore (lv' := [(5, .int s0), (0, .ref (ad 58)), (1, .int v1), (2, .int v2), (3, .int v3), (4, .int v4), (6, .int v6)]) hx hb dX10_sacks_168 hl (by decide) rfl (fun ls hl => ?_)
  refine lv_iload hx hb dX10_sacks_170 (lv_at hl 0 rfl) ?_
  refine lv_if_eq (tgt := 200) hx hb dX10_sacks_172 (by decide) (fun hc172 => ?_) (fun hc172 => ?_)
  · replace h := tT hc172 h
    exact wX10_sacks_200 C hk69 h hH (lv_sub hl [1, 2, 3, 4, 5, 0] rfl)
  · replace h := tF hc172 h
    refine lv_aload_n hx hb dX10_sacks_175 rfl (lv_at hl 1 rfl) ?_
    refine lv_aload_n hx hb dX10_sacks_176 rfl (lv_at hl 1 rfl) ?_
    refine rgS C hH fs_RX10_78_58 dX10_sacks_177 ?_
    refine lv_iload hx hb dX10_sacks_180 (lv_at hl 6 rfl) ?_
    obtain ⟨hi182, h⟩ := tC h
    refine raL C hH (k := (Int32.toNatClampNeg v6)) (by decide) (show WS 81 = .inr (3, 360, 0) from rfl) hi182 rfl dX10_sacks_182 ?_
    refine lv_l2i' hx hb dX10_sacks_183 ?_
    refine lv_aload_n hx hb dX10_sacks_184 rfl (lv_at hl 1 rfl) ?_
    refine rgS C hH fs_RX10_78_58 dX10_sacks_185 ?_
    refine lv_iload hx hb dX10_sacks_188 (lv_at hl 6 rfl) ?_
    refine lv_iconst (v := 1) hx hb dX10_sacks_190 (by decide) ?_
    refine lv_iadd hx hb dX10_sacks_191 ?_
    obtain ⟨hi192, h⟩ := tC h
    refine raL C hH (k := (Int32.toNatClampNeg (v6 + 1))) (by decide) (show WS 81 = .inr (3, 360, 0) from rfl) hi192 rfl dX10_sacks_192 ?_
    refine lv_l2i' hx hb dX10_sacks_193 ?_
    obtain ⟨q194, e194, h⟩ := tB h
    refine rcV C hH hl.1 (mX10_adds l e194) cf_RX10_110 ro_58 (RR_of (by decide) (by decide)) rfl (rest := []) rfl (Nat.le_of_ble_eq_true rfl) dX10_sacks_194 ?_
    intro H locs hH
    refine lv_iinc (v := (v4 + 1)) (lv' := [(4, .int (v4 + 1)), (5, .int s0), (0, .ref (ad 58)), (1, .int v1), (2, .int v2), (3, .int v3), (6, .int v6)]) hx hb dX10_sacks_197 hl (k := 5) rfl rfl (by decide) rfl (fun ls hl => ?_)
    exact wX10_sacks_200 C hk69 h hH (lv_sub hl [2, 3, 4, 5, 0, 1] rfl)
set_option maxHeartbeats 2000000 in
set_option maxRecDepth 20000 in
theorem wX10_sacks_167 (C : Cx D ca A p s m args meth c cX10_sacks RX10 7 (some .int)) {q : Int32 × Mm} {k69 : Int32 → Int32 → Int32 → Int32 → Int32 → Mm → Option (Int32 × Mm)} (hk69 : ∀ (v1 : Int32) (v2 : Int32) (v3 : Int32) (v4 : Int32) (v5 : Int32) (mm : Mm), k69 v1 v2 v3 v4 v5 mm = some q → ∀ (H : Heap) (locs : List Loc) (ls : Array Slot), Hx WN ad ca WS D A s.heap mm H locs → lv_has ls 7 [(0, .ref (ad 58)), (1, .int v1), (2, .int v2), (3, .int v3), (4, .int v4), (5, .int v5)] → W p l e (rmk 3) s m args below meth c H locs 0 0 (MQ below (QcI WN ad ca WS D A pzT q) args s 0 0 A) (F0 m 69 ls [])) {v1 : Int32} {v2 : Int32} {v3 : Int32} {v4 : Int32} {v6 : Int32} {mm : Mm} (h : DX10_sacks_167 k69 v1 v2 v3 v4 v6 mm = some q) (hH : Hx WN ad ca WS D A s.heap mm H locs) (hl : lv_has ls 7 [(0, .ref (ad 58)), (1, .int v1), (2, .int v2), (3, .int v3), (4, .int v4), (6, .int v6)]) : W p l e (rmk 3) s m args below meth c H locs 0 0 (MQ below (QcI WN ad ca WS D A pzT q) args s 0 0 A) (F0 m 167 ls []) := by
  unfold DX10_sacks_167 at h
  have hx := C.1
  have hb := C.2.1
  refine lv_iconst (v := 0) hx hb dX10_sacks_167 (by decide) ?_
  exact wX10_sacks_168 C hk69 h hH (lv_sub hl [0, 1, 2, 3, 4, 5] rfl)
set_option maxHeartbeats 2000000 in
set_option maxRecDepth 20000 in
theorem wX10_sacks_111 (C : Cx D ca A p s m args meth c cX10_sacks RX10 7 (some .int)) {q : Int32 × Mm} {k69 : Int32 → Int32 → Int32 → Int32 → Int32 → Mm → Option (Int32 × Mm)} (hk69 : ∀ (v1 : Int32) (v2 : Int32) (v3 : Int32) (v4 : Int32) (v5 : Int32) (mm : Mm), k69 v1 v2 v3 v4 v5 mm = some q → ∀ (H : Heap) (locs : List Loc) (ls : Array Slot), Hx WN ad ca WS D A s.heap mm H locs → lv_has ls 7 [(0, .ref (ad 58)), (1, .int v1), (2, .int v2), (3, .int v3), (4, .int v4), (5, .int v5)] → W p l e (rmk 3) s m args below meth c H locs 0 0 (MQ below (QcI WN ad ca WS D A pzT q) args s 0 0 A) (F0 m 69 ls [])) {v1 : Int32} {v2 : Int32} {v3 : Int32} {v4 : Int32} {s0 : Int32} {mm : Mm} (h : DX10_sacks_111 k69 v1 v2 v3 v4 s0 mm = some q) (hH : Hx WN ad ca WS D A s.heap mm H locs) (hl : lv_has ls 7 [(0, .ref (ad 58)), (1, .int v1), (2, .int v2), (3, .int v3), (4, .int v4)]) : W p l e (rmk 3) s m args below meth c H locs 0 0 (MQ below (QcI WN ad ca WS D A pzT q) args s 0 0 A) (F0 m 111 ls [.int s0]) := by
  unfold DX10_sacks_111 at h
  have hx := C.1
  have hb := C.2.1
  refine lv_istore (lv' := [(5, .int s0), (0, .ref (ad 58)), (1, .int v1), (2, .int v2), (3, .int v3), (4, .int v4)]) hx hb dX10_sacks_111 hl (by decide) rfl (fun ls hl => ?_)
  refine lv_bipush (v := 60) hx hb dX10_sacks_113 (by decide) ?_
  refine lv_iload_n hx hb dX10_sacks_115 rfl (lv_at hl 2 rfl) ?_
  refine lv_imul hx hb dX10_sacks_116 ?_
  refine lv_iload_n hx hb dX10_sacks_117 rfl (lv_at hl 3 rfl) ?_
  refine lv_iadd hx hb dX10_sacks_118 ?_
  refine lv_iconst (v := 2) hx hb dX10_sacks_119 (by decide) ?_
  refine lv_iload hx hb dX10_sacks_120 (lv_at hl 5 rfl) ?_
  refine lv_imul hx hb dX10_sacks_122 ?_
  refine lv_iadd hx hb dX10_sacks_123 ?_
  refine lv_istore (lv' := [(6, .int (((60 * v1) + v2) + (2 * v4))), (5, .int s0), (0, .ref (ad 58)), (1, .int v1), (2, .int v2), (3, .int v3), (4, .int v4)]) hx hb dX10_sacks_124 hl (by decide) rfl (fun ls hl => ?_)
  refine lv_iload hx hb dX10_sacks_126 (lv_at hl 1 rfl) ?_
  refine lv_if_eq (tgt := 167) hx hb dX10_sacks_128 (by decide) (fun hc128 => ?_) (fun hc128 => ?_)
  · replace h := tT hc128 h
    exact wX10_sacks_167 C hk69 h hH (lv_sub hl [2, 3, 4, 5, 6, 0] rfl)
  · replace h := tF hc128 h
    refine lv_aload_n hx hb dX10_sacks_131 rfl (lv_at hl 2 rfl) ?_
    refine rgS C hH fs_RX10_78_58 dX10_sacks_132 ?_
    refine lv_iload hx hb dX10_sacks_135 (lv_at hl 0 rfl) ?_
    obtain ⟨hi137, h⟩ := tC h
    refine raL C hH (k := (Int32.toNatClampNeg (((60 * v1) + v2) + (2 * v4)))) (by decide) (show WS 81 = .inr (3, 360, 0) from rfl) hi137 rfl dX10_sacks_137 ?_
    obtain ⟨q138, e138, h⟩ := tB h
    refine rsI C hH hl.1 (mX10_isGood l e138) cs_RX10_106 (RR_of (by decide) (by decide)) rfl (rest := []) rfl (Nat.le_of_ble_eq_true rfl) dX10_sacks_138 ?_
    intro hz138 H locs hH
    refine lv_if_eq (tgt := 167) hx hb dX10_sacks_141 (by decide) (fun hc141 => ?_) (fun hc141 => ?_)
    · replace h := tT hc141 h
      exact wX10_sacks_167 C hk69 h hH (lv_sub hl [2, 3, 4, 5, 6, 0] rfl)
    · replace h := tF hc141 h
      refine lv_aload_n hx hb dX10_sacks_144 rfl (lv_at hl 2 rfl) ?_
      refine rgS C hH fs_RX10_78_58 dX10_sacks_145 ?_
      refine lv_iload hx hb dX10_sacks_148 (lv_at hl 0 rfl) ?_
      refine lv_iconst (v := 1) hx hb dX10_sacks_150 (by decide) ?_
      refine lv_iadd hx hb dX10_sacks_151 ?_
      obtain ⟨hi152, h⟩ := tC h
      refine raL C hH (k := (Int32.toNatClampNeg ((((60 * v1) + v2) + (2 * v4)) + 1))) (by decide) (show WS 81 = .inr (3, 360, 0) from rfl) hi152 rfl dX10_sacks_152 ?_
      refine lv_lconst (v := 0) hx hb dX10_sacks_153 (by decide) ?_
      refine rldc2 C (v := 99) k_RX10_120 dX10_sacks_154 ?_
      obtain ⟨q157, e157, h⟩ := tB h
      refine rsI C hH hl.1 (mX10_within l e157) cs_RX10_96 (RR_of (by decide) (by decide)) rfl (rest := []) rfl (Nat.le_of_ble_eq_true rfl) dX10_sacks_157 ?_
      intro hz157 H locs hH
      refine lv_if_eq (tgt := 167) hx hb dX10_sacks_160 (by decide) (fun hc160 => ?_) (fun hc160 => ?_)
      · replace h := tT hc160 h
        exact wX10_sacks_167 C hk69 h hH (lv_sub hl [2, 3, 4, 5, 6, 0] rfl)
      · replace h := tF hc160 h
        refine lv_iconst (v := 1) hx hb dX10_sacks_163 (by decide) ?_
        refine lv_goto (tgt := 168) hx hb dX10_sacks_164 (by decide) ?_
        exact wX10_sacks_168 C hk69 h hH (lv_sub hl [2, 3, 4, 5, 6, 0] rfl)
set_option maxHeartbeats 2000000 in
set_option maxRecDepth 20000 in
theorem wX10_sacks_110 (C : Cx D ca A p s m args meth c cX10_sacks RX10 7 (some .int)) {q : Int32 × Mm} {k69 : Int32 → Int32 → Int32 → Int32 → Int32 → Mm → Option (Int32 × Mm)} (hk69 : ∀ (v1 : Int32) (v2 : Int32) (v3 : Int32) (v4 : Int32) (v5 : Int32) (mm : Mm), k69 v1 v2 v3 v4 v5 mm = some q → ∀ (H : Heap) (locs : List Loc) (ls : Array Slot), Hx WN ad ca WS D A s.heap mm H locs → lv_has ls 7 [(0, .ref (ad 58)), (1, .int v1), (2, .int v2), (3, .int v3), (4, .int v4), (5, .int v5)] → W p l e (rmk 3) s m args below meth c H locs 0 0 (MQ below (QcI WN ad ca WS D A pzT q) args s 0 0 A) (F0 m 69 ls [])) {v1 : Int32} {v2 : Int32} {v3 : Int32} {v4 : Int32} {mm : Mm} (h : DX10_sacks_110 k69 v1 v2 v3 v4 mm = some q) (hH : Hx WN ad ca WS D A s.heap mm H locs) (hl : lv_has ls 7 [(0, .ref (ad 58)), (1, .int v1), (2, .int v2), (3, .int v3), (4, .int v4)]) : W p l e (rmk 3) s m args below meth c H locs 0 0 (MQ below (QcI WN ad ca WS D A pzT q) args s 0 0 A) (F0 m 110 ls []) := by
  unfold DX10_sacks_110 at h
  have hx := C.1
  have hb := C.2.1
  refine lv_iconst (v := 0) hx hb dX10_sacks_110 (by decide) ?_
  exact wX10_sacks_111 C hk69 h hH (lv_sub hl [0, 1, 2, 3, 4] rfl)
set_option maxHeartbeats 2000000 in
set_option maxRecDepth 20000 in
theorem wbX10_sacks_69 (C : Cx D ca A p s m args meth c cX10_sacks RX10 7 (some .int)) {q : Int32 × Mm} {k69 : Int32 → Int32 → Int32 → Int32 → Int32 → Mm → Option (Int32 × Mm)} (hk69 : ∀ (v1 : Int32) (v2 : Int32) (v3 : Int32) (v4 : Int32) (v5 : Int32) (mm : Mm), k69 v1 v2 v3 v4 v5 mm = some q → ∀ (H : Heap) (locs : List Loc) (ls : Array Slot), Hx WN ad ca WS D A s.heap mm H locs → lv_has ls 7 [(0, .ref (ad 58)), (1, .int v1), (2, .int v2), (3, .int v3), (4, .int v4), (5, .int v5)] → W p l e (rmk 3) s m args below meth c H locs 0 0 (MQ below (QcI WN ad ca WS D A pzT q) args s 0 0 A) (F0 m 69 ls [])) {v1 : Int32} {v2 : Int32} {v3 : Int32} {v4 : Int32} {v5 : Int32} {mm : Mm} (h : BX10_sacks_69 k69 v1 v2 v3 v4 v5 mm = some q) (hH : Hx WN ad ca WS D A s.heap mm H locs) (hl : lv_has ls 7 [(0, .ref (ad 58)), (1, .int v1), (2, .int v2), (3, .int v3), (4, .int v4), (5, .int v5)]) : W p l e (rmk 3) s m args below meth c H locs 0 0 (MQ below (QcI WN ad ca WS D A pzT q) args s 0 0 A) (F0 m 69 ls []) := by
  unfold BX10_sacks_69 at h
  have hx := C.1
  have hb := C.2.1
  refine lv_iload hx hb dX10_sacks_69 (lv_at hl 5 rfl) ?_
  refine lv_if_eq (tgt := 203) hx hb dX10_sacks_71 (by decide) (fun hc71 => ?_) (fun hc71 => ?_)
  · replace h := tT hc71 h
    exact wX10_sacks_203 C h hH (lv_sub hl [4] rfl)
  · replace h := tF hc71 h
    refine lv_iload hx hb dX10_sacks_74 (lv_at hl 4 rfl) ?_
    refine lv_iload_n hx hb dX10_sacks_76 rfl (lv_at hl 3 rfl) ?_
    refine lv_icmp_ge (tgt := 203) hx hb dX10_sacks_77 (by decide) (fun hc77 => ?_) (fun hc77 => ?_)
    · replace h := tT hc77 h
      exact wX10_sacks_203 C h hH (lv_sub hl [4] rfl)
    · replace h := tF hc77 h
      refine lv_iload_n hx hb dX10_sacks_80 rfl (lv_at hl 2 rfl) ?_
      refine lv_aload_n hx hb dX10_sacks_81 rfl (lv_at hl 0 rfl) ?_
      refine rgS C hH fs_RX10_75_58 dX10_sacks_82 ?_
      refine lv_iload_n hx hb dX10_sacks_85 rfl (lv_at hl 1 rfl) ?_
      obtain ⟨hi86, h⟩ := tC h
      refine raI C hH (k := (Int32.toNatClampNeg v1)) (by decide) (show WS 80 = .inr (0, 6, 0) from rfl) hi86 rfl dX10_sacks_86 ?_
      refine lv_iconst (v := 2) hx hb dX10_sacks_87 (by decide) ?_
      refine lv_isub hx hb dX10_sacks_88 ?_
      refine lv_iconst (v := 2) hx hb dX10_sacks_89 (by decide) ?_
      refine lv_iload hx hb dX10_sacks_90 (lv_at hl 4 rfl) ?_
      refine lv_imul hx hb dX10_sacks_92 ?_
      refine lv_isub hx hb dX10_sacks_93 ?_
      refine lv_icmp_gt (tgt := 110) hx hb dX10_sacks_94 (by decide) (fun hc94 => ?_) (fun hc94 => ?_)
      · replace h := tT hc94 h
        exact wX10_sacks_110 C hk69 h hH (lv_sub hl [0, 1, 2, 3, 4] rfl)
      · replace h := tF hc94 h
        refine lv_aload_n hx hb dX10_sacks_97 rfl (lv_at hl 0 rfl) ?_
        refine rgI C hH fi_RX10_100_58 dX10_sacks_98 ?_
        refine lv_bipush (v := 10) hx hb dX10_sacks_101 (by decide) ?_
        refine lv_icmp_ge (tgt := 110) hx hb dX10_sacks_103 (by decide) (fun hc103 => ?_) (fun hc103 => ?_)
        · replace h := tT hc103 h
          exact wX10_sacks_110 C hk69 h hH (lv_sub hl [0, 1, 2, 3, 4] rfl)
        · replace h := tF hc103 h
          refine lv_iconst (v := 1) hx hb dX10_sacks_106 (by decide) ?_
          refine lv_goto (tgt := 111) hx hb dX10_sacks_107 (by decide) ?_
          exact wX10_sacks_111 C hk69 h hH (lv_sub hl [0, 1, 2, 3, 4] rfl)
set_option maxHeartbeats 2000000 in
set_option maxRecDepth 20000 in
theorem wX10_sacks_69 (C : Cx D ca A p s m args meth c cX10_sacks RX10 7 (some .int)) {q : Int32 × Mm} : ∀ (N : Nat) (v1 : Int32) (v2 : Int32) (v3 : Int32) (v4 : Int32) (v5 : Int32) (mm : Mm), DX10_sacks_69 N v1 v2 v3 v4 v5 mm = some q → ∀ (H : Heap) (locs : List Loc) (ls : Array Slot), Hx WN ad ca WS D A s.heap mm H locs → lv_has ls 7 [(0, .ref (ad 58)), (1, .int v1), (2, .int v2), (3, .int v3), (4, .int v4), (5, .int v5)] → W p l e (rmk 3) s m args below meth c H locs 0 0 (MQ below (QcI WN ad ca WS D A pzT q) args s 0 0 A) (F0 m 69 ls []) := by
  intro N
  induction N with
  | zero =>
    intro v1 v2 v3 v4 v5 mm h
    have h2 : (none : Option (Int32 × Mm)) = some q := h
    cases h2
  | succ N ih =>
    intro v1 v2 v3 v4 v5 mm h H locs ls hH hl
    exact wbX10_sacks_69 C ih h hH hl
set_option maxHeartbeats 2000000 in
set_option maxRecDepth 20000 in
theorem wX10_sacks_67 (C : Cx D ca A p s m args meth c cX10_sacks RX10 7 (some .int)) {q : Int32 × Mm} {v1 : Int32} {v2 : Int32} {v3 : Int32} {v4 : Int32} {s0 : Int32} {mm : Mm} (h : DX10_sacks_67 v1 v2 v3 v4 s0 mm = some q) (hH : Hx WN ad ca WS D A s.heap mm H locs) (hl : lv_has ls 7 [(0, .ref (ad 58)), (1, .int v1), (2, .int v2), (3, .int v3), (4, .int v4)]) : W p l e (rmk 3) s m args below meth c H locs 0 0 (MQ below (QcI WN ad ca WS D A pzT q) args s 0 0 A) (F0 m 67 ls [.int s0]) := by
  unfold DX10_sacks_67 at h
  have hx := C.1
  have hb := C.2.1
  refine lv_istore (lv' := [(5, .int s0), (0, .ref (ad 58)), (1, .int v1), (2, .int v2), (3, .int v3), (4, .int v4)]) hx hb dX10_sacks_67 hl (by decide) rfl (fun ls hl => ?_)
  exact wX10_sacks_69 C FU _ _ _ _ _ _ h _ _ _ hH (lv_sub hl [1, 2, 3, 4, 5, 0] rfl)
set_option maxHeartbeats 2000000 in
set_option maxRecDepth 20000 in
theorem wX10_sacks_66 (C : Cx D ca A p s m args meth c cX10_sacks RX10 7 (some .int)) {q : Int32 × Mm} {v1 : Int32} {v2 : Int32} {v3 : Int32} {v4 : Int32} {mm : Mm} (h : DX10_sacks_66 v1 v2 v3 v4 mm = some q) (hH : Hx WN ad ca WS D A s.heap mm H locs) (hl : lv_has ls 7 [(0, .ref (ad 58)), (1, .int v1), (2, .int v2), (3, .int v3), (4, .int v4)]) : W p l e (rmk 3) s m args below meth c H locs 0 0 (MQ below (QcI WN ad ca WS D A pzT q) args s 0 0 A) (F0 m 66 ls []) := by
  unfold DX10_sacks_66 at h
  have hx := C.1
  have hb := C.2.1
  refine lv_iconst (v := 0) hx hb dX10_sacks_66 (by decide) ?_
  exact wX10_sacks_67 C h hH (lv_sub hl [0, 1, 2, 3, 4] rfl)
set_option maxHeartbeats 2000000 in
set_option maxRecDepth 20000 in
theorem wX10_sacks_44 (C : Cx D ca A p s m args meth c cX10_sacks RX10 7 (some .int)) {q : Int32 × Mm} {v1 : Int32} {v2 : Int32} {v3 : Int32} {mm : Mm} (h : DX10_sacks_44 v1 v2 v3 mm = some q) (hH : Hx WN ad ca WS D A s.heap mm H locs) (hl : lv_has ls 7 [(0, .ref (ad 58)), (1, .int v1), (2, .int v2), (3, .int v3)]) : W p l e (rmk 3) s m args below meth c H locs 0 0 (MQ below (QcI WN ad ca WS D A pzT q) args s 0 0 A) (F0 m 44 ls []) := by
  unfold DX10_sacks_44 at h
  have hx := C.1
  have hb := C.2.1
  refine lv_iconst (v := 0) hx hb dX10_sacks_44 (by decide) ?_
  refine lv_istore (lv' := [(4, .int 0), (0, .ref (ad 58)), (1, .int v1), (2, .int v2), (3, .int v3)]) hx hb dX10_sacks_45 hl (by decide) rfl (fun ls hl => ?_)
  refine lv_aload_n hx hb dX10_sacks_47 rfl (lv_at hl 1 rfl) ?_
  refine rgS C hH fs_RX10_72_58 dX10_sacks_48 ?_
  refine lv_iload_n hx hb dX10_sacks_51 rfl (lv_at hl 2 rfl) ?_
  obtain ⟨hi52, h⟩ := tC h
  refine raI C hH (k := (Int32.toNatClampNeg v1)) (by decide) (show WS 79 = .inr (0, 6, 0) from rfl) hi52 rfl dX10_sacks_52 ?_
  refine lv_bipush (v := 50) hx hb dX10_sacks_53 (by decide) ?_
  refine lv_icmp_ne (tgt := 66) hx hb dX10_sacks_55 (by decide) (fun hc55 => ?_) (fun hc55 => ?_)
  · replace h := tF hc55 h
    exact wX10_sacks_66 C h hH (lv_sub hl [1, 2, 3, 4, 0] rfl)
  · replace h := tT hc55 h
    refine lv_iload_n hx hb dX10_sacks_58 rfl (lv_at hl 3 rfl) ?_
    refine lv_if_lt (tgt := 66) hx hb dX10_sacks_59 (by decide) (fun hc59 => ?_) (fun hc59 => ?_)
    · replace h := tT hc59 h
      exact wX10_sacks_66 C h hH (lv_sub hl [1, 2, 3, 4, 0] rfl)
    · replace h := tF hc59 h
      refine lv_iconst (v := 1) hx hb dX10_sacks_62 (by decide) ?_
      refine lv_goto (tgt := 67) hx hb dX10_sacks_63 (by decide) ?_
      exact wX10_sacks_67 C h hH (lv_sub hl [1, 2, 3, 4, 0] rfl)
set_option maxHeartbeats 2000000 in
set_option maxRecDepth 20000 in
theorem mX10_sacks (l : Launch) {D : va_G} {ca : Nat → ClassId} {A : Nat → Prop} {ad : Nat → Nat} {v1 : Int32} {v2 : Int32} {v3 : Int32} {mm : Mm} {q : Int32 × Mm} (h : dX10_sacks v1 v2 v3 mm = some q) : Met l yX10_sacks (wsOf yX10_sacks cX10_sacks 7 (some .int)) (rmk 3) (PcX WN ad ca WS D A [.ref (ad 58), .int v1, .int v2, .int v3] mm) (QcI WN ad ca WS D A pzT q) 0 0 A := by
  unfold dX10_sacks at h
  refine ent (by decide) (Nat.le_of_ble_eq_true rfl) (fun p e s m args below meth c hargs C hH ls hl => ?_)
  have hx := C.1
  have hb := C.2.1
  have hl : lv_has ls 7 [(0, .ref (ad 58)), (1, .int v1), (2, .int v2), (3, .int v3)] := hl
  refine lv_iload_n hx hb dX10_sacks_0 rfl (lv_at hl 1 rfl) ?_
  obtain ⟨q1, e1, h⟩ := tB h
  refine rsI C hH hl.1 (mX10_isShelf l e1) cs_RX10_114 (RR_of (by decide) (by decide)) rfl (rest := []) rfl (Nat.le_of_ble_eq_true rfl) dX10_sacks_1 ?_
  intro hz1 H locs hH
  refine lv_if_eq (tgt := 19) hx hb dX10_sacks_4 (by decide) (fun hc4 => ?_) (fun hc4 => ?_)
  · replace h := tT hc4 h
    exact wX10_sacks_19 C h hH (lv_sub hl [] rfl)
  · replace h := tF hc4 h
    refine lv_iload_n hx hb dX10_sacks_7 rfl (lv_at hl 3 rfl) ?_
    refine lv_i2l' hx hb dX10_sacks_8 ?_
    refine lv_lconst (v := 1) hx hb dX10_sacks_9 (by decide) ?_
    refine rldc2 C (v := 10) k_RX10_118 dX10_sacks_10 ?_
    obtain ⟨q13, e13, h⟩ := tB h
    refine rsI C hH hl.1 (mX10_within l e13) cs_RX10_96 (RR_of (by decide) (by decide)) rfl (rest := []) rfl (Nat.le_of_ble_eq_true rfl) dX10_sacks_13 ?_
    intro hz13 H locs hH
    refine lv_if_ne (tgt := 21) hx hb dX10_sacks_16 (by decide) (fun hc16 => ?_) (fun hc16 => ?_)
    · replace h := tF hc16 h
      refine lv_aload_n hx hb dX10_sacks_21 rfl (lv_at hl 0 rfl) ?_
      refine rgS C hH fs_RX10_72_58 dX10_sacks_22 ?_
      refine lv_iload_n hx hb dX10_sacks_25 rfl (lv_at hl 1 rfl) ?_
      obtain ⟨hi26, h⟩ := tC h
      refine raI C hH (k := (Int32.toNatClampNeg v1)) (by decide) (show WS 79 = .inr (0, 6, 0) from rfl) hi26 rfl dX10_sacks_26 ?_
      refine lv_if_lt (tgt := 44) hx hb dX10_sacks_27 (by decide) (fun hc27 => ?_) (fun hc27 => ?_)
      · replace h := tT hc27 h
        exact wX10_sacks_44 C h hH (lv_sub hl [0, 1, 2, 3] rfl)
      · replace h := tF hc27 h
        refine lv_aload_n hx hb dX10_sacks_30 rfl (lv_at hl 0 rfl) ?_
        refine rgS C hH fs_RX10_72_58 dX10_sacks_31 ?_
        refine lv_iload_n hx hb dX10_sacks_34 rfl (lv_at hl 1 rfl) ?_
        obtain ⟨hi35, h⟩ := tC h
        refine raI C hH (k := (Int32.toNatClampNeg v1)) (by decide) (show WS 79 = .inr (0, 6, 0) from rfl) hi35 rfl dX10_sacks_35 ?_
        refine lv_bipush (v := 50) hx hb dX10_sacks_36 (by decide) ?_
        refine lv_icmp_eq (tgt := 44) hx hb dX10_sacks_38 (by decide) (fun hc38 => ?_) (fun hc38 => ?_)
        · replace h := tT hc38 h
          exact wX10_sacks_44 C h hH (lv_sub hl [0, 1, 2, 3] rfl)
        · replace h := tF hc38 h
          refine lv_bipush (v := (-12)) hx hb dX10_sacks_41 (by decide) ?_
          have h := Option.some.inj h
          subst h
          exact retI C hH trivial dX10_sacks_43
    · replace h := tT hc16 h
      exact wX10_sacks_19 C h hH (lv_sub hl [] rfl)
set_option maxHeartbeats 2000000 in
set_option maxRecDepth 20000 in
theorem mX7_addBuyer (l : Launch) {D : va_G} {ca : Nat → ClassId} {A : Nat → Prop} {ad : Nat → Nat} {v1 : Int32} {v2 : Int32} {mm : Mm} {q : Int32 × Mm} (h : dX7_addBuyer v1 v2 mm = some q) : Met l yX7_addBuyer (wsOf yX7_addBuyer cX7_addBuyer 4 (some .int)) (rmk 1) (PcX WN ad ca WS D A [.ref (ad 1), .int v1, .int v2] mm) (QcI WN ad ca WS D A pzT q) 0 0 A := by
  unfold dX7_addBuyer at h
  refine ent (by decide) (Nat.le_of_ble_eq_true rfl) (fun p e s m args below meth c hargs C hH ls hl => ?_)
  have hx := C.1
  have hb := C.2.1
  have hl : lv_has ls 4 [(0, .ref (ad 1)), (1, .int v1), (2, .int v2)] := hl
  refine lv_aload_n hx hb dX7_addBuyer_0 rfl (lv_at hl 0 rfl) ?_
  refine rgI C hH fi_RX7_27_1 dX7_addBuyer_1 ?_
  refine lv_bipush (v := 6) hx hb dX7_addBuyer_4 (by decide) ?_
  refine lv_icmp_lt (tgt := 12) hx hb dX7_addBuyer_6 (by decide) (fun hc6 => ?_) (fun hc6 => ?_)
  · replace h := tT hc6 h
    refine lv_aload_n hx hb dX7_addBuyer_12 rfl (lv_at hl 0 rfl) ?_
    refine lv_dup hx hb dX7_addBuyer_13 rfl ?_
    refine rgI C hH fi_RX7_27_1 dX7_addBuyer_14 ?_
    refine lv_dup_x1 hx hb dX7_addBuyer_17 rfl rfl ?_
    refine lv_iconst (v := 1) hx hb dX7_addBuyer_18 (by decide) ?_
    refine lv_iadd hx hb dX7_addBuyer_19 ?_
    refine rpI C hH fp_RX7_27_1 rfl rfl dX7_addBuyer_20 (fun H locs hH => ?_)
    refine lv_istore_n (lv' := [(3, .int (gI mm 1 3)), (0, .ref (ad 1)), (1, .int v1), (2, .int v2)]) hx hb dX7_addBuyer_23 rfl hl (by decide) rfl (fun ls hl => ?_)
    refine lv_aload_n hx hb dX7_addBuyer_24 rfl (lv_at hl 1 rfl) ?_
    refine rgS C hH fs_RX7_11_1 dX7_addBuyer_25 ?_
    refine lv_bipush (v := 6) hx hb dX7_addBuyer_28 (by decide) ?_
    refine raG C hH (o := 2) (k := 6) (by decide) (show WS 2 = .inr (5, 11, 3) from rfl) (show inB 6 11 from by decide) (by decide) dX7_addBuyer_30 ?_
    show W _ _ _ _ _ _ _ _ _ _ _ _ _ _ _ (F0 _ _ _ (.ref (ad 9) :: _))
    refine lv_iload_n hx hb dX7_addBuyer_31 rfl (lv_at hl 0 rfl) ?_
    refine lv_iload_n hx hb dX7_addBuyer_32 rfl (lv_at hl 2 rfl) ?_
    obtain ⟨hi33, h⟩ := tC h
    refine rwI C hH (k := (Int32.toNatClampNeg (gI mm 1 3))) (by decide) (show WS 9 = .inr (0, 10, 0) from rfl) hi33 rfl dX7_addBuyer_33 (fun H locs hH => ?_)
    refine lv_aload_n hx hb dX7_addBuyer_34 rfl (lv_at hl 1 rfl) ?_
    refine rgS C hH fs_RX7_11_1 dX7_addBuyer_35 ?_
    refine lv_bipush (v := 7) hx hb dX7_addBuyer_38 (by decide) ?_
    refine raG C hH (o := 2) (k := 7) (by decide) (show WS 2 = .inr (5, 11, 3) from rfl) (show inB 7 11 from by decide) (by decide) dX7_addBuyer_40 ?_
    show W _ _ _ _ _ _ _ _ _ _ _ _ _ _ _ (F0 _ _ _ (.ref (ad 10) :: _))
    refine lv_iload_n hx hb dX7_addBuyer_41 rfl (lv_at hl 0 rfl) ?_
    refine lv_iload_n hx hb dX7_addBuyer_42 rfl (lv_at hl 3 rfl) ?_
    obtain ⟨hi43, h⟩ := tC h
    refine rwI C hH (k := (Int32.toNatClampNeg (gI mm 1 3))) (by decide) (show WS 10 = .inr (0, 10, 0) from rfl) hi43 rfl dX7_addBuyer_43 (fun H locs hH => ?_)
    refine lv_aload_n hx hb dX7_addBuyer_44 rfl (lv_at hl 1 rfl) ?_
    refine rgS C hH fs_RX7_11_1 dX7_addBuyer_45 ?_
    refine lv_bipush (v := 8) hx hb dX7_addBuyer_48 (by decide) ?_
    refine raG C hH (o := 2) (k := 8) (by decide) (show WS 2 = .inr (5, 11, 3) from rfl) (show inB 8 11 from by decide) (by decide) dX7_addBuyer_50 ?_
    show W _ _ _ _ _ _ _ _ _ _ _ _ _ _ _ (F0 _ _ _ (.ref (ad 11) :: _))
    refine lv_iload_n hx hb dX7_addBuyer_51 rfl (lv_at hl 0 rfl) ?_
    refine lv_bipush (v := 9) hx hb dX7_addBuyer_52 (by decide) ?_
    obtain ⟨hi54, h⟩ := tC h
    refine rwI C hH (k := (Int32.toNatClampNeg (gI mm 1 3))) (by decide) (show WS 11 = .inr (0, 10, 0) from rfl) hi54 rfl dX7_addBuyer_54 (fun H locs hH => ?_)
    refine lv_iload_n hx hb dX7_addBuyer_55 rfl (lv_at hl 0 rfl) ?_
    have h := Option.some.inj h
    subst h
    exact retI C hH trivial dX7_addBuyer_56
  · replace h := tF hc6 h
    refine lv_bipush (v := (-3)) hx hb dX7_addBuyer_9 (by decide) ?_
    have h := Option.some.inj h
    subst h
    exact retI C hH trivial dX7_addBuyer_11
set_option maxHeartbeats 2000000 in
set_option maxRecDepth 20000 in
theorem wX9_buyer_18 (C : Cx D ca A p s m args meth c cX9_buyer RX9 3 (some .int)) {q : Int32 × Mm} {mm : Mm} (h : DX9_buyer_18 mm = some q) (hH : Hx WN ad ca WS D A s.heap mm H locs) (hl : lv_has ls 3 []) : W p l e (rmk 2) s m args below meth c H locs 0 0 (MQ below (QcI WN ad ca WS D A pzT q) args s 0 0 A) (F0 m 18 ls []) := by
  unfold DX9_buyer_18 at h
  have hx := C.1
  have hb := C.2.1
  refine lv_iconst (v := (-1)) hx hb dX9_buyer_18 (by decide) ?_
  have h := Option.some.inj h
  subst h
  exact retI C hH trivial dX9_buyer_19
set_option maxHeartbeats 2000000 in
set_option maxRecDepth 20000 in
theorem mX9_buyer (l : Launch) {D : va_G} {ca : Nat → ClassId} {A : Nat → Prop} {ad : Nat → Nat} {v1 : Int32} {v2 : Int32} {mm : Mm} {q : Int32 × Mm} (h : dX9_buyer v1 v2 mm = some q) : Met l yX9_buyer (wsOf yX9_buyer cX9_buyer 3 (some .int)) (rmk 2) (PcX WN ad ca WS D A [.ref (ad 0), .int v1, .int v2] mm) (QcI WN ad ca WS D A pzT q) 0 0 A := by
  unfold dX9_buyer at h
  refine ent (by decide) (Nat.le_of_ble_eq_true rfl) (fun p e s m args below meth c hargs C hH ls hl => ?_)
  have hx := C.1
  have hb := C.2.1
  have hl : lv_has ls 3 [(0, .ref (ad 0)), (1, .int v1), (2, .int v2)] := hl
  refine lv_bipush (v := 6) hx hb dX9_buyer_0 (by decide) ?_
  refine lv_iload_n hx hb dX9_buyer_2 rfl (lv_at hl 1 rfl) ?_
  obtain ⟨q3, e3, h⟩ := tB h
  refine rsI C hH hl.1 (mX9_within l e3) cs_RX9_91 (RR_of (by decide) (by decide)) rfl (rest := []) rfl (Nat.le_of_ble_eq_true rfl) dX9_buyer_3 ?_
  intro hz3 H locs hH
  refine lv_if_eq (tgt := 18) hx hb dX9_buyer_6 (by decide) (fun hc6 => ?_) (fun hc6 => ?_)
  · replace h := tT hc6 h
    exact wX9_buyer_18 C h hH (lv_sub hl [] rfl)
  · replace h := tF hc6 h
    refine lv_bipush (v := 7) hx hb dX9_buyer_9 (by decide) ?_
    refine lv_iload_n hx hb dX9_buyer_11 rfl (lv_at hl 2 rfl) ?_
    obtain ⟨q12, e12, h⟩ := tB h
    refine rsI C hH hl.1 (mX9_within l e12) cs_RX9_91 (RR_of (by decide) (by decide)) rfl (rest := []) rfl (Nat.le_of_ble_eq_true rfl) dX9_buyer_12 ?_
    intro hz12 H locs hH
    refine lv_if_ne (tgt := 20) hx hb dX9_buyer_15 (by decide) (fun hc15 => ?_) (fun hc15 => ?_)
    · replace h := tF hc15 h
      refine lv_aload_n hx hb dX9_buyer_20 rfl (lv_at hl 0 rfl) ?_
      refine rgS C hH fs_RX9_10_0 dX9_buyer_21 ?_
      refine lv_iload_n hx hb dX9_buyer_24 rfl (lv_at hl 1 rfl) ?_
      refine lv_iload_n hx hb dX9_buyer_25 rfl (lv_at hl 2 rfl) ?_
      obtain ⟨q26, e26, h⟩ := tB h
      refine rcI C hH hl.1 (mX7_addBuyer l e26) cf_RX9_94 ro_1 (RR_of (by decide) (by decide)) rfl (rest := []) rfl (Nat.le_of_ble_eq_true rfl) dX9_buyer_26 ?_
      intro hz26 H locs hH
      have h := Option.some.inj h
      subst h
      exact retI C hH trivial dX9_buyer_29
    · replace h := tT hc15 h
      exact wX9_buyer_18 C h hH (lv_sub hl [] rfl)
set_option maxHeartbeats 2000000 in
set_option maxRecDepth 20000 in
theorem wX10_buyer_24 (C : Cx D ca A p s m args meth c cX10_buyer RX10 3 (some .int)) {q : Int32 × Mm} {mm : Mm} (h : DX10_buyer_24 mm = some q) (hH : Hx WN ad ca WS D A s.heap mm H locs) (hl : lv_has ls 3 []) : W p l e (rmk 2) s m args below meth c H locs 0 0 (MQ below (QcI WN ad ca WS D A pzT q) args s 0 0 A) (F0 m 24 ls []) := by
  unfold DX10_buyer_24 at h
  have hx := C.1
  have hb := C.2.1
  refine lv_iconst (v := (-1)) hx hb dX10_buyer_24 (by decide) ?_
  have h := Option.some.inj h
  subst h
  exact retI C hH trivial dX10_buyer_25
set_option maxHeartbeats 2000000 in
set_option maxRecDepth 20000 in
theorem mX10_buyer (l : Launch) {D : va_G} {ca : Nat → ClassId} {A : Nat → Prop} {ad : Nat → Nat} {v1 : Int32} {v2 : Int32} {mm : Mm} {q : Int32 × Mm} (h : dX10_buyer v1 v2 mm = some q) : Met l yX10_buyer (wsOf yX10_buyer cX10_buyer 3 (some .int)) (rmk 2) (PcX WN ad ca WS D A [.ref (ad 58), .int v1, .int v2] mm) (QcI WN ad ca WS D A pzT q) 0 0 A := by
  unfold dX10_buyer at h
  refine ent (by decide) (Nat.le_of_ble_eq_true rfl) (fun p e s m args below meth c hargs C hH ls hl => ?_)
  have hx := C.1
  have hb := C.2.1
  have hl : lv_has ls 3 [(0, .ref (ad 58)), (1, .int v1), (2, .int v2)] := hl
  refine lv_iload_n hx hb dX10_buyer_0 rfl (lv_at hl 1 rfl) ?_
  refine lv_i2l' hx hb dX10_buyer_1 ?_
  refine lv_lconst (v := 0) hx hb dX10_buyer_2 (by decide) ?_
  refine rldc2 C (v := 999) k_RX10_122 dX10_buyer_3 ?_
  obtain ⟨q6, e6, h⟩ := tB h
  refine rsI C hH hl.1 (mX10_within l e6) cs_RX10_96 (RR_of (by decide) (by decide)) rfl (rest := []) rfl (Nat.le_of_ble_eq_true rfl) dX10_buyer_6 ?_
  intro hz6 H locs hH
  refine lv_if_eq (tgt := 24) hx hb dX10_buyer_9 (by decide) (fun hc9 => ?_) (fun hc9 => ?_)
  · replace h := tT hc9 h
    exact wX10_buyer_24 C h hH (lv_sub hl [] rfl)
  · replace h := tF hc9 h
    refine lv_iload_n hx hb dX10_buyer_12 rfl (lv_at hl 2 rfl) ?_
    refine lv_i2l' hx hb dX10_buyer_13 ?_
    refine lv_lconst (v := 0) hx hb dX10_buyer_14 (by decide) ?_
    refine rldc2 C (v := 6) k_RX10_124 dX10_buyer_15 ?_
    obtain ⟨q18, e18, h⟩ := tB h
    refine rsI C hH hl.1 (mX10_within l e18) cs_RX10_96 (RR_of (by decide) (by decide)) rfl (rest := []) rfl (Nat.le_of_ble_eq_true rfl) dX10_buyer_18 ?_
    intro hz18 H locs hH
    refine lv_if_ne (tgt := 26) hx hb dX10_buyer_21 (by decide) (fun hc21 => ?_) (fun hc21 => ?_)
    · replace h := tF hc21 h
      refine lv_aload_n hx hb dX10_buyer_26 rfl (lv_at hl 0 rfl) ?_
      refine rgI C hH fi_RX10_103_58 dX10_buyer_27 ?_
      refine lv_bipush (v := 6) hx hb dX10_buyer_30 (by decide) ?_
      refine lv_icmp_ne (tgt := 38) hx hb dX10_buyer_32 (by decide) (fun hc32 => ?_) (fun hc32 => ?_)
      · replace h := tF hc32 h
        refine lv_aload_n hx hb dX10_buyer_38 rfl (lv_at hl 0 rfl) ?_
        refine rgS C hH fs_RX10_9_58 dX10_buyer_39 ?_
        refine lv_bipush (v := 44) hx hb dX10_buyer_42 (by decide) ?_
        refine lv_aload_n hx hb dX10_buyer_44 rfl (lv_at hl 0 rfl) ?_
        refine rgI C hH fi_RX10_103_58 dX10_buyer_45 ?_
        refine lv_iadd hx hb dX10_buyer_48 ?_
        refine lv_iload_n hx hb dX10_buyer_49 rfl (lv_at hl 1 rfl) ?_
        obtain ⟨hi50, h⟩ := tC h
        refine rwI C hH (k := (Int32.toNatClampNeg (44 + (gI q18.2 58 7)))) (by decide) (show WS 59 = .inr (0, 62, 0) from rfl) hi50 rfl dX10_buyer_50 (fun H locs hH => ?_)
        refine lv_aload_n hx hb dX10_buyer_51 rfl (lv_at hl 0 rfl) ?_
        refine rgS C hH fs_RX10_9_58 dX10_buyer_52 ?_
        refine lv_bipush (v := 50) hx hb dX10_buyer_55 (by decide) ?_
        refine lv_aload_n hx hb dX10_buyer_57 rfl (lv_at hl 0 rfl) ?_
        refine rgI C hH fi_RX10_103_58 dX10_buyer_58 ?_
        refine lv_iadd hx hb dX10_buyer_61 ?_
        refine lv_iload_n hx hb dX10_buyer_62 rfl (lv_at hl 2 rfl) ?_
        obtain ⟨hi63, h⟩ := tC h
        refine rwI C hH (k := (Int32.toNatClampNeg (50 + (gI (sI q18.2 59 (Int32.toNatClampNeg (44 + (gI q18.2 58 7))) v1) 58 7)))) (by decide) (show WS 59 = .inr (0, 62, 0) from rfl) hi63 rfl dX10_buyer_63 (fun H locs hH => ?_)
        refine lv_aload_n hx hb dX10_buyer_64 rfl (lv_at hl 0 rfl) ?_
        refine rgS C hH fs_RX10_9_58 dX10_buyer_65 ?_
        refine lv_bipush (v := 56) hx hb dX10_buyer_68 (by decide) ?_
        refine lv_aload_n hx hb dX10_buyer_70 rfl (lv_at hl 0 rfl) ?_
        refine rgI C hH fi_RX10_103_58 dX10_buyer_71 ?_
        refine lv_iadd hx hb dX10_buyer_74 ?_
        refine lv_bipush (v := 9) hx hb dX10_buyer_75 (by decide) ?_
        obtain ⟨hi77, h⟩ := tC h
        refine rwI C hH (k := (Int32.toNatClampNeg (56 + (gI (sI (sI q18.2 59 (Int32.toNatClampNeg (44 + (gI q18.2 58 7))) v1) 59 (Int32.toNatClampNeg (50 + (gI (sI q18.2 59 (Int32.toNatClampNeg (44 + (gI q18.2 58 7))) v1) 58 7))) v2) 58 7)))) (by decide) (show WS 59 = .inr (0, 62, 0) from rfl) hi77 rfl dX10_buyer_77 (fun H locs hH => ?_)
        refine lv_aload_n hx hb dX10_buyer_78 rfl (lv_at hl 0 rfl) ?_
        refine lv_dup hx hb dX10_buyer_79 rfl ?_
        refine rgI C hH fi_RX10_103_58 dX10_buyer_80 ?_
        refine lv_iconst (v := 1) hx hb dX10_buyer_83 (by decide) ?_
        refine lv_iadd hx hb dX10_buyer_84 ?_
        refine rpI C hH fp_RX10_103_58 rfl rfl dX10_buyer_85 (fun H locs hH => ?_)
        refine lv_aload_n hx hb dX10_buyer_88 rfl (lv_at hl 0 rfl) ?_
        refine rgI C hH fi_RX10_103_58 dX10_buyer_89 ?_
        refine lv_iconst (v := 1) hx hb dX10_buyer_92 (by decide) ?_
        refine lv_isub hx hb dX10_buyer_93 ?_
        have h := Option.some.inj h
        subst h
        exact retI C hH trivial dX10_buyer_94
      · replace h := tT hc32 h
        refine lv_bipush (v := (-3)) hx hb dX10_buyer_35 (by decide) ?_
        have h := Option.some.inj h
        subst h
        exact retI C hH trivial dX10_buyer_37
    · replace h := tT hc21 h
      exact wX10_buyer_24 C h hH (lv_sub hl [] rfl)
set_option maxHeartbeats 2000000 in
set_option maxRecDepth 20000 in
theorem mX7_told (l : Launch) {D : va_G} {ca : Nat → ClassId} {A : Nat → Prop} {ad : Nat → Nat} {v1 : Int32} {v2 : Int32} {mm : Mm} {q : Int32 × Mm} (h : dX7_told v1 v2 mm = some q) : Met l yX7_told (wsOf yX7_told cX7_told 3 (some .int)) (rmk 2) (PcX WN ad ca WS D A [.ref (ad 1), .int v1, .int v2] mm) (QcI WN ad ca WS D A pzT q) 0 0 A := by
  unfold dX7_told at h
  refine ent (by decide) (Nat.le_of_ble_eq_true rfl) (fun p e s m args below meth c hargs C hH ls hl => ?_)
  have hx := C.1
  have hb := C.2.1
  have hl : lv_has ls 3 [(0, .ref (ad 1)), (1, .int v1), (2, .int v2)] := hl
  refine lv_aload_n hx hb dX7_told_0 rfl (lv_at hl 0 rfl) ?_
  refine lv_iload_n hx hb dX7_told_1 rfl (lv_at hl 1 rfl) ?_
  refine lv_iload_n hx hb dX7_told_2 rfl (lv_at hl 2 rfl) ?_
  obtain ⟨q3, e3, h⟩ := tB h
  refine rcI C hH hl.1 (mX7_holds l e3) cf_RX7_34 ro_1 (RR_of (by decide) (by decide)) rfl (rest := []) rfl (Nat.le_of_ble_eq_true rfl) dX7_told_3 ?_
  intro hz3 H locs hH
  refine lv_if_eq (tgt := 20) hx hb dX7_told_6 (by decide) (fun hc6 => ?_) (fun hc6 => ?_)
  · replace h := tT hc6 h
    refine lv_iconst (v := 0) hx hb dX7_told_20 (by decide) ?_
    have h := Option.some.inj h
    subst h
    exact retI C hH trivial dX7_told_21
  · replace h := tF hc6 h
    refine lv_aload_n hx hb dX7_told_9 rfl (lv_at hl 0 rfl) ?_
    refine rgS C hH fs_RX7_11_1 dX7_told_10 ?_
    refine lv_iload_n hx hb dX7_told_13 rfl (lv_at hl 1 rfl) ?_
    obtain ⟨hi14, h⟩ := tC h
    refine raG C hH (o := 2) (k := (Int32.toNatClampNeg v1)) (by decide) (show WS 2 = .inr (5, 11, 3) from rfl) hi14 rfl dX7_told_14 ?_
    refine lv_iload_n hx hb dX7_told_15 rfl (lv_at hl 2 rfl) ?_
    obtain ⟨hi16, h⟩ := tC h
    refine raI C hH (k := (Int32.toNatClampNeg v2)) (row_of hi14).1 (row_of hi14).2 hi16 rfl dX7_told_16 ?_
    refine lv_goto (tgt := 21) hx hb dX7_told_17 (by decide) ?_
    have h := Option.some.inj h
    subst h
    exact retI C hH trivial dX7_told_21
set_option maxHeartbeats 2000000 in
set_option maxRecDepth 20000 in
theorem mX7_set (l : Launch) {D : va_G} {ca : Nat → ClassId} {A : Nat → Prop} {ad : Nat → Nat} {v1 : Int32} {v2 : Int32} {v3 : Int32} {mm : Mm} {q : Unit × Mm} (h : dX7_set v1 v2 v3 mm = some q) : Met l yX7_set (wsOf yX7_set cX7_set 4 none) (rmk 2) (PcX WN ad ca WS D A [.ref (ad 1), .int v1, .int v2, .int v3] mm) (QcV WN ad ca WS D A q) 0 0 A := by
  unfold dX7_set at h
  refine ent (by decide) (Nat.le_of_ble_eq_true rfl) (fun p e s m args below meth c hargs C hH ls hl => ?_)
  have hx := C.1
  have hb := C.2.1
  have hl : lv_has ls 4 [(0, .ref (ad 1)), (1, .int v1), (2, .int v2), (3, .int v3)] := hl
  refine lv_aload_n hx hb dX7_set_0 rfl (lv_at hl 0 rfl) ?_
  refine lv_iload_n hx hb dX7_set_1 rfl (lv_at hl 1 rfl) ?_
  refine lv_iload_n hx hb dX7_set_2 rfl (lv_at hl 2 rfl) ?_
  obtain ⟨q3, e3, h⟩ := tB h
  refine rcI C hH hl.1 (mX7_holds l e3) cf_RX7_34 ro_1 (RR_of (by decide) (by decide)) rfl (rest := []) rfl (Nat.le_of_ble_eq_true rfl) dX7_set_3 ?_
  intro hz3 H locs hH
  refine lv_if_eq (tgt := 18) hx hb dX7_set_6 (by decide) (fun hc6 => ?_) (fun hc6 => ?_)
  · replace h := tT hc6 h
    have h := Option.some.inj h
    subst h
    exact retV C hH dX7_set_18
  · replace h := tF hc6 h
    refine lv_aload_n hx hb dX7_set_9 rfl (lv_at hl 0 rfl) ?_
    refine rgS C hH fs_RX7_11_1 dX7_set_10 ?_
    refine lv_iload_n hx hb dX7_set_13 rfl (lv_at hl 1 rfl) ?_
    obtain ⟨hi14, h⟩ := tC h
    refine raG C hH (o := 2) (k := (Int32.toNatClampNeg v1)) (by decide) (show WS 2 = .inr (5, 11, 3) from rfl) hi14 rfl dX7_set_14 ?_
    refine lv_iload_n hx hb dX7_set_15 rfl (lv_at hl 2 rfl) ?_
    refine lv_iload_n hx hb dX7_set_16 rfl (lv_at hl 3 rfl) ?_
    obtain ⟨hi17, h⟩ := tC h
    refine rwI C hH (k := (Int32.toNatClampNeg v2)) (row_of hi14).1 (row_of hi14).2 hi17 rfl dX7_set_17 (fun H locs hH => ?_)
    have h := Option.some.inj h
    subst h
    exact retV C hH dX7_set_18
set_option maxHeartbeats 2000000 in
set_option maxRecDepth 20000 in
theorem mX1_forgetFirst (l : Launch) {D : va_G} {ca : Nat → ClassId} {A : Nat → Prop} {ad : Nat → Nat} {mm : Mm} {q : Unit × Mm} (h : dX1_forgetFirst mm = some q) : Met l yX1_forgetFirst (wsOf yX1_forgetFirst cX1_forgetFirst 1 none) (rmk 2) (PcX WN ad ca WS D A [.ref (ad 29)] mm) (QcV WN ad ca WS D A q) 0 0 A := by
  unfold dX1_forgetFirst at h
  refine ent (by decide) (Nat.le_of_ble_eq_true rfl) (fun p e s m args below meth c hargs C hH ls hl => ?_)
  have hx := C.1
  have hb := C.2.1
  have hl : lv_has ls 1 [(0, .ref (ad 29))] := hl
  refine lv_aload_n hx hb dX1_forgetFirst_0 rfl (lv_at hl 0 rfl) ?_
  refine rgS C hH fs_RX1_9_29 dX1_forgetFirst_1 ?_
  refine lv_iconst (v := 1) hx hb dX1_forgetFirst_4 (by decide) ?_
  refine lv_aload_n hx hb dX1_forgetFirst_5 rfl (lv_at hl 0 rfl) ?_
  refine rgS C hH fs_RX1_9_29 dX1_forgetFirst_6 ?_
  refine lv_iconst (v := 0) hx hb dX1_forgetFirst_9 (by decide) ?_
  refine lv_bipush (v := 39) hx hb dX1_forgetFirst_10 (by decide) ?_
  refine rcpI C hH hl.1 cc_RX1_32 (by decide) (show WS 30 = .inr (0, 40, 0) from rfl) (by decide) (show WS 30 = .inr (0, 40, 0) from rfl) (by decide) (RR_of (by decide) (by decide)) (by first | decide | (simp only [rmk]; omega)) dX1_forgetFirst_12 (fun H locs hH => ?_)
  refine lv_aload_n hx hb dX1_forgetFirst_15 rfl (lv_at hl 0 rfl) ?_
  refine rgS C hH fs_RX1_13_29 dX1_forgetFirst_16 ?_
  refine lv_iconst (v := 1) hx hb dX1_forgetFirst_19 (by decide) ?_
  refine lv_aload_n hx hb dX1_forgetFirst_20 rfl (lv_at hl 0 rfl) ?_
  refine rgS C hH fs_RX1_13_29 dX1_forgetFirst_21 ?_
  refine lv_iconst (v := 0) hx hb dX1_forgetFirst_24 (by decide) ?_
  refine lv_bipush (v := 39) hx hb dX1_forgetFirst_25 (by decide) ?_
  refine rcpI C hH hl.1 cc_RX1_32 (by decide) (show WS 31 = .inr (0, 40, 0) from rfl) (by decide) (show WS 31 = .inr (0, 40, 0) from rfl) (by decide) (RR_of (by decide) (by decide)) (by first | decide | (simp only [rmk]; omega)) dX1_forgetFirst_27 (fun H locs hH => ?_)
  refine lv_aload_n hx hb dX1_forgetFirst_30 rfl (lv_at hl 0 rfl) ?_
  refine rgS C hH fs_RX1_16_29 dX1_forgetFirst_31 ?_
  refine lv_iconst (v := 1) hx hb dX1_forgetFirst_34 (by decide) ?_
  refine lv_aload_n hx hb dX1_forgetFirst_35 rfl (lv_at hl 0 rfl) ?_
  refine rgS C hH fs_RX1_16_29 dX1_forgetFirst_36 ?_
  refine lv_iconst (v := 0) hx hb dX1_forgetFirst_39 (by decide) ?_
  refine lv_bipush (v := 39) hx hb dX1_forgetFirst_40 (by decide) ?_
  refine rcpI C hH hl.1 cc_RX1_32 (by decide) (show WS 32 = .inr (0, 40, 0) from rfl) (by decide) (show WS 32 = .inr (0, 40, 0) from rfl) (by decide) (RR_of (by decide) (by decide)) (by first | decide | (simp only [rmk]; omega)) dX1_forgetFirst_42 (fun H locs hH => ?_)
  refine lv_aload_n hx hb dX1_forgetFirst_45 rfl (lv_at hl 0 rfl) ?_
  refine rgS C hH fs_RX1_19_29 dX1_forgetFirst_46 ?_
  refine lv_iconst (v := 1) hx hb dX1_forgetFirst_49 (by decide) ?_
  refine lv_aload_n hx hb dX1_forgetFirst_50 rfl (lv_at hl 0 rfl) ?_
  refine rgS C hH fs_RX1_19_29 dX1_forgetFirst_51 ?_
  refine lv_iconst (v := 0) hx hb dX1_forgetFirst_54 (by decide) ?_
  refine lv_bipush (v := 39) hx hb dX1_forgetFirst_55 (by decide) ?_
  refine rcpI C hH hl.1 cc_RX1_32 (by decide) (show WS 33 = .inr (0, 40, 0) from rfl) (by decide) (show WS 33 = .inr (0, 40, 0) from rfl) (by decide) (RR_of (by decide) (by decide)) (by first | decide | (simp only [rmk]; omega)) dX1_forgetFirst_57 (fun H locs hH => ?_)
  refine lv_aload_n hx hb dX1_forgetFirst_60 rfl (lv_at hl 0 rfl) ?_
  refine lv_bipush (v := 39) hx hb dX1_forgetFirst_61 (by decide) ?_
  refine rpI C hH fp_RX1_22_29 rfl rfl dX1_forgetFirst_63 (fun H locs hH => ?_)
  have h := Option.some.inj h
  subst h
  exact retV C hH dX1_forgetFirst_66
set_option maxHeartbeats 2000000 in
set_option maxRecDepth 20000 in
theorem wX1_note_13 (C : Cx D ca A p s m args meth c cX1_note RX1 5 none) {q : Unit × Mm} {v1 : Int32} {v2 : Int32} {v3 : Int32} {v4 : Int32} {mm : Mm} (h : DX1_note_13 v1 v2 v3 v4 mm = some q) (hH : Hx WN ad ca WS D A s.heap mm H locs) (hl : lv_has ls 5 [(0, .ref (ad 29)), (1, .int v1), (2, .int v2), (3, .int v3), (4, .int v4)]) : W p l e (rmk 3) s m args below meth c H locs 0 0 (MQ below (QcV WN ad ca WS D A q) args s 0 0 A) (F0 m 13 ls []) := by
  unfold DX1_note_13 at h
  have hx := C.1
  have hb := C.2.1
  refine lv_aload_n hx hb dX1_note_13 rfl (lv_at hl 0 rfl) ?_
  refine rgS C hH fs_RX1_9_29 dX1_note_14 ?_
  refine lv_aload_n hx hb dX1_note_17 rfl (lv_at hl 0 rfl) ?_
  refine rgI C hH fi_RX1_22_29 dX1_note_18 ?_
  refine lv_iload_n hx hb dX1_note_21 rfl (lv_at hl 1 rfl) ?_
  obtain ⟨hi22, h⟩ := tC h
  refine rwI C hH (k := (Int32.toNatClampNeg (gI mm 29 4))) (by decide) (show WS 30 = .inr (0, 40, 0) from rfl) hi22 rfl dX1_note_22 (fun H locs hH => ?_)
  refine lv_aload_n hx hb dX1_note_23 rfl (lv_at hl 0 rfl) ?_
  refine rgS C hH fs_RX1_13_29 dX1_note_24 ?_
  refine lv_aload_n hx hb dX1_note_27 rfl (lv_at hl 0 rfl) ?_
  refine rgI C hH fi_RX1_22_29 dX1_note_28 ?_
  refine lv_iload_n hx hb dX1_note_31 rfl (lv_at hl 2 rfl) ?_
  obtain ⟨hi32, h⟩ := tC h
  refine rwI C hH (k := (Int32.toNatClampNeg (gI (sI mm 30 (Int32.toNatClampNeg (gI mm 29 4)) v1) 29 4))) (by decide) (show WS 31 = .inr (0, 40, 0) from rfl) hi32 rfl dX1_note_32 (fun H locs hH => ?_)
  refine lv_aload_n hx hb dX1_note_33 rfl (lv_at hl 0 rfl) ?_
  refine rgS C hH fs_RX1_16_29 dX1_note_34 ?_
  refine lv_aload_n hx hb dX1_note_37 rfl (lv_at hl 0 rfl) ?_
  refine rgI C hH fi_RX1_22_29 dX1_note_38 ?_
  refine lv_iload_n hx hb dX1_note_41 rfl (lv_at hl 3 rfl) ?_
  obtain ⟨hi42, h⟩ := tC h
  refine rwI C hH (k := (Int32.toNatClampNeg (gI (sI (sI mm 30 (Int32.toNatClampNeg (gI mm 29 4)) v1) 31 (Int32.toNatClampNeg (gI (sI mm 30 (Int32.toNatClampNeg (gI mm 29 4)) v1) 29 4)) v2) 29 4))) (by decide) (show WS 32 = .inr (0, 40, 0) from rfl) hi42 rfl dX1_note_42 (fun H locs hH => ?_)
  refine lv_aload_n hx hb dX1_note_43 rfl (lv_at hl 0 rfl) ?_
  refine rgS C hH fs_RX1_19_29 dX1_note_44 ?_
  refine lv_aload_n hx hb dX1_note_47 rfl (lv_at hl 0 rfl) ?_
  refine rgI C hH fi_RX1_22_29 dX1_note_48 ?_
  refine lv_iload hx hb dX1_note_51 (lv_at hl 4 rfl) ?_
  obtain ⟨hi53, h⟩ := tC h
  refine rwI C hH (k := (Int32.toNatClampNeg (gI (sI (sI (sI mm 30 (Int32.toNatClampNeg (gI mm 29 4)) v1) 31 (Int32.toNatClampNeg (gI (sI mm 30 (Int32.toNatClampNeg (gI mm 29 4)) v1) 29 4)) v2) 32 (Int32.toNatClampNeg (gI (sI (sI mm 30 (Int32.toNatClampNeg (gI mm 29 4)) v1) 31 (Int32.toNatClampNeg (gI (sI mm 30 (Int32.toNatClampNeg (gI mm 29 4)) v1) 29 4)) v2) 29 4)) v3) 29 4))) (by decide) (show WS 33 = .inr (0, 40, 0) from rfl) hi53 rfl dX1_note_53 (fun H locs hH => ?_)
  refine lv_aload_n hx hb dX1_note_54 rfl (lv_at hl 0 rfl) ?_
  refine lv_dup hx hb dX1_note_55 rfl ?_
  refine rgI C hH fi_RX1_22_29 dX1_note_56 ?_
  refine lv_iconst (v := 1) hx hb dX1_note_59 (by decide) ?_
  refine lv_iadd hx hb dX1_note_60 ?_
  refine rpI C hH fp_RX1_22_29 rfl rfl dX1_note_61 (fun H locs hH => ?_)
  refine lv_aload_n hx hb dX1_note_64 rfl (lv_at hl 0 rfl) ?_
  refine lv_aload_n hx hb dX1_note_65 rfl (lv_at hl 0 rfl) ?_
  refine rgI C hH fi_RX1_22_29 dX1_note_66 ?_
  refine rpI C hH fp_RX1_29_29 rfl rfl dX1_note_69 (fun H locs hH => ?_)
  have h := Option.some.inj h
  subst h
  exact retV C hH dX1_note_72
set_option maxHeartbeats 2000000 in
set_option maxRecDepth 20000 in
theorem mX1_note (l : Launch) {D : va_G} {ca : Nat → ClassId} {A : Nat → Prop} {ad : Nat → Nat} {v1 : Int32} {v2 : Int32} {v3 : Int32} {v4 : Int32} {mm : Mm} {q : Unit × Mm} (h : dX1_note v1 v2 v3 v4 mm = some q) : Met l yX1_note (wsOf yX1_note cX1_note 5 none) (rmk 3) (PcX WN ad ca WS D A [.ref (ad 29), .int v1, .int v2, .int v3, .int v4] mm) (QcV WN ad ca WS D A q) 0 0 A := by
  unfold dX1_note at h
  refine ent (by decide) (Nat.le_of_ble_eq_true rfl) (fun p e s m args below meth c hargs C hH ls hl => ?_)
  have hx := C.1
  have hb := C.2.1
  have hl : lv_has ls 5 [(0, .ref (ad 29)), (1, .int v1), (2, .int v2), (3, .int v3), (4, .int v4)] := hl
  refine lv_aload_n hx hb dX1_note_0 rfl (lv_at hl 0 rfl) ?_
  refine rgI C hH fi_RX1_22_29 dX1_note_1 ?_
  refine lv_bipush (v := 40) hx hb dX1_note_4 (by decide) ?_
  refine lv_icmp_lt (tgt := 13) hx hb dX1_note_6 (by decide) (fun hc6 => ?_) (fun hc6 => ?_)
  · replace h := tT hc6 h
    exact wX1_note_13 C h hH (lv_sub hl [0, 1, 2, 3, 4] rfl)
  · replace h := tF hc6 h
    refine lv_aload_n hx hb dX1_note_9 rfl (lv_at hl 0 rfl) ?_
    obtain ⟨q10, e10, h⟩ := tB h
    refine rcV C hH hl.1 (mX1_forgetFirst l e10) cf_RX1_26 ro_29 (RR_of (by decide) (by decide)) rfl (rest := []) rfl (Nat.le_of_ble_eq_true rfl) dX1_note_10 ?_
    intro H locs hH
    exact wX1_note_13 C h hH (lv_sub hl [0, 1, 2, 3, 4] rfl)
set_option maxHeartbeats 2000000 in
set_option maxRecDepth 20000 in
theorem wX9_mend_30 (C : Cx D ca A p s m args meth c cX9_mend RX9 5 (some .int)) {q : Int32 × Mm} {mm : Mm} (h : DX9_mend_30 mm = some q) (hH : Hx WN ad ca WS D A s.heap mm H locs) (hl : lv_has ls 5 []) : W p l e (rmk 4) s m args below meth c H locs 0 0 (MQ below (QcI WN ad ca WS D A pzT q) args s 0 0 A) (F0 m 30 ls []) := by
  unfold DX9_mend_30 at h
  have hx := C.1
  have hb := C.2.1
  refine rldc C (v := (-2000000000)) k_RX9_97 dX9_mend_30 ?_
  have h := Option.some.inj h
  subst h
  exact retI C hH trivial dX9_mend_32
set_option maxHeartbeats 2000000 in
set_option maxRecDepth 20000 in
theorem wX9_mend_72 (C : Cx D ca A p s m args meth c cX9_mend RX9 5 (some .int)) {q : Int32 × Mm} {v4 : Int32} {mm : Mm} (h : DX9_mend_72 v4 mm = some q) (hH : Hx WN ad ca WS D A s.heap mm H locs) (hl : lv_has ls 5 [(4, .int v4)]) : W p l e (rmk 4) s m args below meth c H locs 0 0 (MQ below (QcI WN ad ca WS D A pzT q) args s 0 0 A) (F0 m 72 ls []) := by
  unfold DX9_mend_72 at h
  have hx := C.1
  have hb := C.2.1
  refine lv_iload hx hb dX9_mend_72 (lv_at hl 0 rfl) ?_
  have h := Option.some.inj h
  subst h
  exact retI C hH trivial dX9_mend_74
set_option maxHeartbeats 2000000 in
set_option maxRecDepth 20000 in
theorem mX9_mend (l : Launch) {D : va_G} {ca : Nat → ClassId} {A : Nat → Prop} {ad : Nat → Nat} {v1 : Int32} {v2 : Int32} {v3 : Int32} {mm : Mm} {q : Int32 × Mm} (h : dX9_mend v1 v2 v3 mm = some q) : Met l yX9_mend (wsOf yX9_mend cX9_mend 5 (some .int)) (rmk 4) (PcX WN ad ca WS D A [.ref (ad 0), .int v1, .int v2, .int v3] mm) (QcI WN ad ca WS D A pzT q) 0 0 A := by
  unfold dX9_mend at h
  refine ent (by decide) (Nat.le_of_ble_eq_true rfl) (fun p e s m args below meth c hargs C hH ls hl => ?_)
  have hx := C.1
  have hb := C.2.1
  have hl : lv_has ls 5 [(0, .ref (ad 0)), (1, .int v1), (2, .int v2), (3, .int v3)] := hl
  refine lv_iload_n hx hb dX9_mend_0 rfl (lv_at hl 2 rfl) ?_
  refine lv_if_lt (tgt := 30) hx hb dX9_mend_1 (by decide) (fun hc1 => ?_) (fun hc1 => ?_)
  · replace h := tT hc1 h
    exact wX9_mend_30 C h hH (lv_sub hl [] rfl)
  · replace h := tF hc1 h
    refine lv_iload_n hx hb dX9_mend_4 rfl (lv_at hl 2 rfl) ?_
    refine lv_bipush (v := 8) hx hb dX9_mend_5 (by decide) ?_
    refine lv_icmp_gt (tgt := 30) hx hb dX9_mend_7 (by decide) (fun hc7 => ?_) (fun hc7 => ?_)
    · replace h := tT hc7 h
      exact wX9_mend_30 C h hH (lv_sub hl [] rfl)
    · replace h := tF hc7 h
      refine lv_aload_n hx hb dX9_mend_10 rfl (lv_at hl 0 rfl) ?_
      refine rgS C hH fs_RX9_10_0 dX9_mend_11 ?_
      refine lv_iload_n hx hb dX9_mend_14 rfl (lv_at hl 2 rfl) ?_
      refine lv_iload_n hx hb dX9_mend_15 rfl (lv_at hl 1 rfl) ?_
      obtain ⟨q16, e16, h⟩ := tB h
      refine rcI C hH hl.1 (mX7_holds l e16) cf_RX9_67 ro_1 (RR_of (by decide) (by decide)) rfl (rest := []) rfl (Nat.le_of_ble_eq_true rfl) dX9_mend_16 ?_
      intro hz16 H locs hH
      refine lv_if_eq (tgt := 30) hx hb dX9_mend_19 (by decide) (fun hc19 => ?_) (fun hc19 => ?_)
      · replace h := tT hc19 h
        exact wX9_mend_30 C h hH (lv_sub hl [] rfl)
      · replace h := tF hc19 h
        refine lv_iload_n hx hb dX9_mend_22 rfl (lv_at hl 2 rfl) ?_
        refine lv_iload_n hx hb dX9_mend_23 rfl (lv_at hl 3 rfl) ?_
        obtain ⟨q24, e24, h⟩ := tB h
        refine rsI C hH hl.1 (mX9_within l e24) cs_RX9_91 (RR_of (by decide) (by decide)) rfl (rest := []) rfl (Nat.le_of_ble_eq_true rfl) dX9_mend_24 ?_
        intro hz24 H locs hH
        refine lv_if_ne (tgt := 33) hx hb dX9_mend_27 (by decide) (fun hc27 => ?_) (fun hc27 => ?_)
        · replace h := tF hc27 h
          refine lv_aload_n hx hb dX9_mend_33 rfl (lv_at hl 0 rfl) ?_
          refine rgS C hH fs_RX9_10_0 dX9_mend_34 ?_
          refine lv_iload_n hx hb dX9_mend_37 rfl (lv_at hl 2 rfl) ?_
          refine lv_iload_n hx hb dX9_mend_38 rfl (lv_at hl 1 rfl) ?_
          obtain ⟨q39, e39, h⟩ := tB h
          refine rcI C hH hl.1 (mX7_told l e39) cf_RX9_98 ro_1 (RR_of (by decide) (by decide)) rfl (rest := []) rfl (Nat.le_of_ble_eq_true rfl) dX9_mend_39 ?_
          intro hz39 H locs hH
          refine lv_istore (lv' := [(4, .int q39.1), (0, .ref (ad 0)), (1, .int v1), (2, .int v2), (3, .int v3)]) hx hb dX9_mend_42 hl (by decide) rfl (fun ls hl => ?_)
          refine lv_iload hx hb dX9_mend_44 (lv_at hl 0 rfl) ?_
          refine lv_iload_n hx hb dX9_mend_46 rfl (lv_at hl 4 rfl) ?_
          refine lv_icmp_eq (tgt := 72) hx hb dX9_mend_47 (by decide) (fun hc47 => ?_) (fun hc47 => ?_)
          · replace h := tT hc47 h
            exact wX9_mend_72 C h hH (lv_sub hl [0] rfl)
          · replace h := tF hc47 h
            refine lv_aload_n hx hb dX9_mend_50 rfl (lv_at hl 1 rfl) ?_
            refine rgS C hH fs_RX9_10_0 dX9_mend_51 ?_
            refine lv_iload_n hx hb dX9_mend_54 rfl (lv_at hl 3 rfl) ?_
            refine lv_iload_n hx hb dX9_mend_55 rfl (lv_at hl 2 rfl) ?_
            refine lv_iload_n hx hb dX9_mend_56 rfl (lv_at hl 4 rfl) ?_
            obtain ⟨q57, e57, h⟩ := tB h
            refine rcV C hH hl.1 (mX7_set l e57) cf_RX9_101 ro_1 (RR_of (by decide) (by decide)) rfl (rest := []) rfl (Nat.le_of_ble_eq_true rfl) dX9_mend_57 ?_
            intro H locs hH
            refine lv_aload_n hx hb dX9_mend_60 rfl (lv_at hl 1 rfl) ?_
            refine rgS C hH fs_RX9_49_0 dX9_mend_61 ?_
            refine lv_iload_n hx hb dX9_mend_64 rfl (lv_at hl 3 rfl) ?_
            refine lv_iload_n hx hb dX9_mend_65 rfl (lv_at hl 2 rfl) ?_
            refine lv_iload hx hb dX9_mend_66 (lv_at hl 0 rfl) ?_
            refine lv_iload_n hx hb dX9_mend_68 rfl (lv_at hl 4 rfl) ?_
            obtain ⟨q69, e69, h⟩ := tB h
            refine rcV C hH hl.1 (mX1_note l e69) cf_RX9_105 ro_29 (RR_of (by decide) (by decide)) rfl (rest := []) rfl (Nat.le_of_ble_eq_true rfl) dX9_mend_69 ?_
            intro H locs hH
            exact wX9_mend_72 C h hH (lv_sub hl [0] rfl)
        · replace h := tT hc27 h
          exact wX9_mend_30 C h hH (lv_sub hl [] rfl)
set_option maxHeartbeats 2000000 in
set_option maxRecDepth 20000 in
theorem mX10_isSack (l : Launch) {D : va_G} {ca : Nat → ClassId} {A : Nat → Prop} {ad : Nat → Nat} {v1 : Int64} {mm : Mm} {q : Int32 × Mm} (h : dX10_isSack v1 mm = some q) : Met l yX10_isSack (wsOf yX10_isSack cX10_isSack 3 (some .boolean)) (rmk 2) (PcX WN ad ca WS D A [.ref (ad 58), .long v1] mm) (QcI WN ad ca WS D A pzZ q) 0 0 A := by
  unfold dX10_isSack at h
  refine ent (by decide) (Nat.le_of_ble_eq_true rfl) (fun p e s m args below meth c hargs C hH ls hl => ?_)
  have hx := C.1
  have hb := C.2.1
  have hl : lv_has ls 3 [(0, .ref (ad 58)), (1, .long v1)] := hl
  refine lv_lload_n hx hb dX10_isSack_0 rfl (lv_at hl 1 rfl) ?_
  refine lv_lconst (v := 0) hx hb dX10_isSack_1 (by decide) ?_
  refine lv_aload_n hx hb dX10_isSack_2 rfl (lv_at hl 0 rfl) ?_
  refine rgI C hH fi_RX10_100_58 dX10_isSack_3 ?_
  refine lv_iconst (v := 1) hx hb dX10_isSack_6 (by decide) ?_
  refine lv_isub hx hb dX10_isSack_7 ?_
  refine lv_i2l' hx hb dX10_isSack_8 ?_
  obtain ⟨q9, e9, h⟩ := tB h
  refine rsI C hH hl.1 (mX10_within l e9) cs_RX10_96 (RR_of (by decide) (by decide)) rfl (rest := []) rfl (Nat.le_of_ble_eq_true rfl) dX10_isSack_9 ?_
  intro hz9 H locs hH
  have h := Option.some.inj h
  subst h
  exact retZ C hH hz9 dX10_isSack_12
set_option maxHeartbeats 2000000 in
set_option maxRecDepth 20000 in
theorem mX10_isBuyer (l : Launch) {D : va_G} {ca : Nat → ClassId} {A : Nat → Prop} {ad : Nat → Nat} {v1 : Int64} {mm : Mm} {q : Int32 × Mm} (h : dX10_isBuyer v1 mm = some q) : Met l yX10_isBuyer (wsOf yX10_isBuyer cX10_isBuyer 3 (some .boolean)) (rmk 2) (PcX WN ad ca WS D A [.ref (ad 58), .long v1] mm) (QcI WN ad ca WS D A pzZ q) 0 0 A := by
  unfold dX10_isBuyer at h
  refine ent (by decide) (Nat.le_of_ble_eq_true rfl) (fun p e s m args below meth c hargs C hH ls hl => ?_)
  have hx := C.1
  have hb := C.2.1
  have hl : lv_has ls 3 [(0, .ref (ad 58)), (1, .long v1)] := hl
  refine lv_lload_n hx hb dX10_isBuyer_0 rfl (lv_at hl 1 rfl) ?_
  refine lv_lconst (v := 0) hx hb dX10_isBuyer_1 (by decide) ?_
  refine lv_aload_n hx hb dX10_isBuyer_2 rfl (lv_at hl 0 rfl) ?_
  refine rgI C hH fi_RX10_103_58 dX10_isBuyer_3 ?_
  refine lv_iconst (v := 1) hx hb dX10_isBuyer_6 (by decide) ?_
  refine lv_isub hx hb dX10_isBuyer_7 ?_
  refine lv_i2l' hx hb dX10_isBuyer_8 ?_
  obtain ⟨q9, e9, h⟩ := tB h
  refine rsI C hH hl.1 (mX10_within l e9) cs_RX10_96 (RR_of (by decide) (by decide)) rfl (rest := []) rfl (Nat.le_of_ble_eq_true rfl) dX10_isBuyer_9 ?_
  intro hz9 H locs hH
  have h := Option.some.inj h
  subst h
  exact retZ C hH hz9 dX10_isBuyer_12
set_option maxHeartbeats 2000000 in
set_option maxRecDepth 20000 in
theorem wX10_placeOf_108 (C : Cx D ca A p s m args meth c cX10_placeOf RX10 3 (some .int)) {q : Int32 × Mm} {mm : Mm} (h : DX10_placeOf_108 mm = some q) (hH : Hx WN ad ca WS D A s.heap mm H locs) (hl : lv_has ls 3 []) : W p l e (rmk 3) s m args below meth c H locs 0 0 (MQ below (QcI WN ad ca WS D A pzT q) args s 0 0 A) (F0 m 108 ls []) := by
  unfold DX10_placeOf_108 at h
  have hx := C.1
  have hb := C.2.1
  refine lv_iconst (v := (-1)) hx hb dX10_placeOf_108 (by decide) ?_
  have h := Option.some.inj h
  subst h
  exact retI C hH trivial dX10_placeOf_109
set_option maxHeartbeats 2000000 in
set_option maxRecDepth 20000 in
theorem mX10_placeOf (l : Launch) {D : va_G} {ca : Nat → ClassId} {A : Nat → Prop} {ad : Nat → Nat} {v1 : Int32} {v2 : Int32} {mm : Mm} {q : Int32 × Mm} (h : dX10_placeOf v1 v2 mm = some q) : Met l yX10_placeOf (wsOf yX10_placeOf cX10_placeOf 3 (some .int)) (rmk 3) (PcX WN ad ca WS D A [.ref (ad 58), .int v1, .int v2] mm) (QcI WN ad ca WS D A pzT q) 0 0 A := by
  unfold dX10_placeOf at h
  refine ent (by decide) (Nat.le_of_ble_eq_true rfl) (fun p e s m args below meth c hargs C hH ls hl => ?_)
  have hx := C.1
  have hb := C.2.1
  have hl : lv_has ls 3 [(0, .ref (ad 58)), (1, .int v1), (2, .int v2)] := hl
  refine lv_iload_n hx hb dX10_placeOf_0 rfl (lv_at hl 2 rfl) ?_
  refine lv_i2l' hx hb dX10_placeOf_1 ?_
  refine lv_lconst (v := 0) hx hb dX10_placeOf_2 (by decide) ?_
  refine rldc2 C (v := 3) k_RX10_126 dX10_placeOf_3 ?_
  obtain ⟨q6, e6, h⟩ := tB h
  refine rsI C hH hl.1 (mX10_within l e6) cs_RX10_96 (RR_of (by decide) (by decide)) rfl (rest := []) rfl (Nat.le_of_ble_eq_true rfl) dX10_placeOf_6 ?_
  intro hz6 H locs hH
  refine lv_if_eq (tgt := 31) hx hb dX10_placeOf_9 (by decide) (fun hc9 => ?_) (fun hc9 => ?_)
  · replace h := tT hc9 h
    refine lv_iload_n hx hb dX10_placeOf_31 rfl (lv_at hl 2 rfl) ?_
    refine lv_i2l' hx hb dX10_placeOf_32 ?_
    refine rldc2 C (v := 4) k_RX10_128 dX10_placeOf_33 ?_
    refine rldc2 C (v := 5) k_RX10_94 dX10_placeOf_36 ?_
    obtain ⟨q39, e39, h⟩ := tB h
    refine rsI C hH hl.1 (mX10_within l e39) cs_RX10_96 (RR_of (by decide) (by decide)) rfl (rest := []) rfl (Nat.le_of_ble_eq_true rfl) dX10_placeOf_39 ?_
    intro hz39 H locs hH
    refine lv_if_eq (tgt := 70) hx hb dX10_placeOf_42 (by decide) (fun hc42 => ?_) (fun hc42 => ?_)
    · replace h := tT hc42 h
      refine lv_iload_n hx hb dX10_placeOf_70 rfl (lv_at hl 2 rfl) ?_
      refine lv_i2l' hx hb dX10_placeOf_71 ?_
      refine rldc2 C (v := 6) k_RX10_124 dX10_placeOf_72 ?_
      refine rldc2 C (v := 8) k_RX10_133 dX10_placeOf_75 ?_
      obtain ⟨q78, e78, h⟩ := tB h
      refine rsI C hH hl.1 (mX10_within l e78) cs_RX10_96 (RR_of (by decide) (by decide)) rfl (rest := []) rfl (Nat.le_of_ble_eq_true rfl) dX10_placeOf_78 ?_
      intro hz78 H locs hH
      refine lv_if_eq (tgt := 108) hx hb dX10_placeOf_81 (by decide) (fun hc81 => ?_) (fun hc81 => ?_)
      · replace h := tT hc81 h
        exact wX10_placeOf_108 C h hH (lv_sub hl [] rfl)
      · replace h := tF hc81 h
        refine lv_aload_n hx hb dX10_placeOf_84 rfl (lv_at hl 0 rfl) ?_
        refine lv_iload_n hx hb dX10_placeOf_85 rfl (lv_at hl 1 rfl) ?_
        refine lv_i2l' hx hb dX10_placeOf_86 ?_
        obtain ⟨q87, e87, h⟩ := tB h
        refine rcI C hH hl.1 (mX10_isBuyer l e87) cf_RX10_135 ro_58 (RR_of (by decide) (by decide)) rfl (rest := []) rfl (Nat.le_of_ble_eq_true rfl) dX10_placeOf_87 ?_
        intro hz87 H locs hH
        refine lv_if_eq (tgt := 108) hx hb dX10_placeOf_90 (by decide) (fun hc90 => ?_) (fun hc90 => ?_)
        · replace h := tT hc90 h
          exact wX10_placeOf_108 C h hH (lv_sub hl [] rfl)
        · replace h := tF hc90 h
          refine lv_bipush (v := 44) hx hb dX10_placeOf_93 (by decide) ?_
          refine lv_bipush (v := 6) hx hb dX10_placeOf_95 (by decide) ?_
          refine lv_iload_n hx hb dX10_placeOf_97 rfl (lv_at hl 2 rfl) ?_
          refine lv_bipush (v := 6) hx hb dX10_placeOf_98 (by decide) ?_
          refine lv_isub hx hb dX10_placeOf_100 ?_
          refine lv_imul hx hb dX10_placeOf_101 ?_
          refine lv_iadd hx hb dX10_placeOf_102 ?_
          refine lv_iload_n hx hb dX10_placeOf_103 rfl (lv_at hl 1 rfl) ?_
          refine lv_iadd hx hb dX10_placeOf_104 ?_
          refine lv_goto (tgt := 109) hx hb dX10_placeOf_105 (by decide) ?_
          have h := Option.some.inj h
          subst h
          exact retI C hH trivial dX10_placeOf_109
    · replace h := tF hc42 h
      refine lv_aload_n hx hb dX10_placeOf_45 rfl (lv_at hl 0 rfl) ?_
      refine lv_iload_n hx hb dX10_placeOf_46 rfl (lv_at hl 1 rfl) ?_
      refine lv_i2l' hx hb dX10_placeOf_47 ?_
      obtain ⟨q48, e48, h⟩ := tB h
      refine rcI C hH hl.1 (mX10_isSack l e48) cf_RX10_130 ro_58 (RR_of (by decide) (by decide)) rfl (rest := []) rfl (Nat.le_of_ble_eq_true rfl) dX10_placeOf_48 ?_
      intro hz48 H locs hH
      refine lv_if_eq (tgt := 68) hx hb dX10_placeOf_51 (by decide) (fun hc51 => ?_) (fun hc51 => ?_)
      · replace h := tT hc51 h
        refine lv_iconst (v := (-1)) hx hb dX10_placeOf_68 (by decide) ?_
        have h := Option.some.inj h
        subst h
        exact retI C hH trivial dX10_placeOf_69
      · replace h := tF hc51 h
        refine lv_bipush (v := 24) hx hb dX10_placeOf_54 (by decide) ?_
        refine lv_bipush (v := 10) hx hb dX10_placeOf_56 (by decide) ?_
        refine lv_iload_n hx hb dX10_placeOf_58 rfl (lv_at hl 2 rfl) ?_
        refine lv_iconst (v := 4) hx hb dX10_placeOf_59 (by decide) ?_
        refine lv_isub hx hb dX10_placeOf_60 ?_
        refine lv_imul hx hb dX10_placeOf_61 ?_
        refine lv_iadd hx hb dX10_placeOf_62 ?_
        refine lv_iload_n hx hb dX10_placeOf_63 rfl (lv_at hl 1 rfl) ?_
        refine lv_iadd hx hb dX10_placeOf_64 ?_
        refine lv_goto (tgt := 69) hx hb dX10_placeOf_65 (by decide) ?_
        have h := Option.some.inj h
        subst h
        exact retI C hH trivial dX10_placeOf_69
  · replace h := tF hc9 h
    refine lv_iload_n hx hb dX10_placeOf_12 rfl (lv_at hl 1 rfl) ?_
    refine lv_i2l' hx hb dX10_placeOf_13 ?_
    obtain ⟨q14, e14, h⟩ := tB h
    refine rsI C hH hl.1 (mX10_isGood l e14) cs_RX10_106 (RR_of (by decide) (by decide)) rfl (rest := []) rfl (Nat.le_of_ble_eq_true rfl) dX10_placeOf_14 ?_
    intro hz14 H locs hH
    refine lv_if_eq (tgt := 29) hx hb dX10_placeOf_17 (by decide) (fun hc17 => ?_) (fun hc17 => ?_)
    · replace h := tT hc17 h
      refine lv_iconst (v := (-1)) hx hb dX10_placeOf_29 (by decide) ?_
      have h := Option.some.inj h
      subst h
      exact retI C hH trivial dX10_placeOf_30
    · replace h := tF hc17 h
      refine lv_bipush (v := 6) hx hb dX10_placeOf_20 (by decide) ?_
      refine lv_iload_n hx hb dX10_placeOf_22 rfl (lv_at hl 2 rfl) ?_
      refine lv_imul hx hb dX10_placeOf_23 ?_
      refine lv_iload_n hx hb dX10_placeOf_24 rfl (lv_at hl 1 rfl) ?_
      refine lv_iadd hx hb dX10_placeOf_25 ?_
      refine lv_goto (tgt := 30) hx hb dX10_placeOf_26 (by decide) ?_
      have h := Option.some.inj h
      subst h
      exact retI C hH trivial dX10_placeOf_30
set_option maxHeartbeats 2000000 in
set_option maxRecDepth 20000 in
theorem wX10_mayBecome_52 (C : Cx D ca A p s m args meth c cX10_mayBecome RX10 2 (some .boolean)) {q : Int32 × Mm} {v1 : Int32} {mm : Mm} (h : DX10_mayBecome_52 v1 mm = some q) (hH : Hx WN ad ca WS D A s.heap mm H locs) (hl : lv_has ls 2 [(1, .int v1)]) : W p l e (rmk 3) s m args below meth c H locs 0 0 (MQ below (QcI WN ad ca WS D A pzZ q) args s 0 0 A) (F0 m 52 ls []) := by
  unfold DX10_mayBecome_52 at h
  have hx := C.1
  have hb := C.2.1
  refine lv_iload_n hx hb dX10_mayBecome_52 rfl (lv_at hl 0 rfl) ?_
  refine lv_i2l' hx hb dX10_mayBecome_53 ?_
  refine lv_lconst (v := 0) hx hb dX10_mayBecome_54 (by decide) ?_
  refine rldc2 C (v := 99) k_RX10_120 dX10_mayBecome_55 ?_
  obtain ⟨q58, e58, h⟩ := tB h
  refine rsI C hH hl.1 (mX10_within l e58) cs_RX10_96 (RR_of (by decide) (by decide)) rfl (rest := []) rfl (Nat.le_of_ble_eq_true rfl) dX10_mayBecome_58 ?_
  intro hz58 H locs hH
  have h := Option.some.inj h
  subst h
  exact retZ C hH hz58 dX10_mayBecome_61
set_option maxHeartbeats 2000000 in
set_option maxRecDepth 20000 in
theorem wX10_mayBecome_98 (C : Cx D ca A p s m args meth c cX10_mayBecome RX10 2 (some .boolean)) {q : Int32 × Mm} {v1 : Int32} {mm : Mm} (h : DX10_mayBecome_98 v1 mm = some q) (hH : Hx WN ad ca WS D A s.heap mm H locs) (hl : lv_has ls 2 [(1, .int v1)]) : W p l e (rmk 3) s m args below meth c H locs 0 0 (MQ below (QcI WN ad ca WS D A pzZ q) args s 0 0 A) (F0 m 98 ls []) := by
  unfold DX10_mayBecome_98 at h
  have hx := C.1
  have hb := C.2.1
  refine lv_iload_n hx hb dX10_mayBecome_98 rfl (lv_at hl 0 rfl) ?_
  refine lv_i2l' hx hb dX10_mayBecome_99 ?_
  refine lv_lconst (v := 0) hx hb dX10_mayBecome_100 (by decide) ?_
  refine rldc2 C (v := 3) k_RX10_126 dX10_mayBecome_101 ?_
  obtain ⟨q104, e104, h⟩ := tB h
  refine rsI C hH hl.1 (mX10_within l e104) cs_RX10_96 (RR_of (by decide) (by decide)) rfl (rest := []) rfl (Nat.le_of_ble_eq_true rfl) dX10_mayBecome_104 ?_
  intro hz104 H locs hH
  have h := Option.some.inj h
  subst h
  exact retZ C hH hz104 dX10_mayBecome_107
set_option maxHeartbeats 2000000 in
set_option maxRecDepth 20000 in
theorem mX10_mayBecome (l : Launch) {D : va_G} {ca : Nat → ClassId} {A : Nat → Prop} {ad : Nat → Nat} {v0 : Int32} {v1 : Int32} {mm : Mm} {q : Int32 × Mm} (h : dX10_mayBecome v0 v1 mm = some q) : Met l yX10_mayBecome (wsOf yX10_mayBecome cX10_mayBecome 2 (some .boolean)) (rmk 3) (PcX WN ad ca WS D A [.int v0, .int v1] mm) (QcI WN ad ca WS D A pzZ q) 0 0 A := by
  unfold dX10_mayBecome at h
  refine ent (by decide) (Nat.le_of_ble_eq_true rfl) (fun p e s m args below meth c hargs C hH ls hl => ?_)
  have hx := C.1
  have hb := C.2.1
  have hl : lv_has ls 2 [(0, .int v0), (1, .int v1)] := hl
  refine lv_iload_n hx hb dX10_mayBecome_0 rfl (lv_at hl 0 rfl) ?_
  by_cases hc1_0 : v0 = 0
  · replace h := tT hc1_0 h
    refine lv_tableIn (tgt := 52) hx hb dX10_mayBecome_1 (by rw [hc1_0]; decide) (by rw [hc1_0]; decide) (by rw [hc1_0]; rfl) (by decide) ?_
    exact wX10_mayBecome_52 C h hH (lv_sub hl [1] rfl)
  · replace h := tF hc1_0 h
    by_cases hc1_1 : v0 = 1
    · replace h := tT hc1_1 h
      refine lv_tableIn (tgt := 98) hx hb dX10_mayBecome_1 (by rw [hc1_1]; decide) (by rw [hc1_1]; decide) (by rw [hc1_1]; rfl) (by decide) ?_
      exact wX10_mayBecome_98 C h hH (lv_sub hl [1] rfl)
    · replace h := tF hc1_1 h
      by_cases hc1_2 : v0 = 2
      · replace h := tT hc1_2 h
        refine lv_tableIn (tgt := 98) hx hb dX10_mayBecome_1 (by rw [hc1_2]; decide) (by rw [hc1_2]; decide) (by rw [hc1_2]; rfl) (by decide) ?_
        exact wX10_mayBecome_98 C h hH (lv_sub hl [1] rfl)
      · replace h := tF hc1_2 h
        by_cases hc1_3 : v0 = 3
        · replace h := tT hc1_3 h
          refine lv_tableIn (tgt := 98) hx hb dX10_mayBecome_1 (by rw [hc1_3]; decide) (by rw [hc1_3]; decide) (by rw [hc1_3]; rfl) (by decide) ?_
          exact wX10_mayBecome_98 C h hH (lv_sub hl [1] rfl)
        · replace h := tF hc1_3 h
          by_cases hc1_4 : v0 = 4
          · replace h := tT hc1_4 h
            refine lv_tableIn (tgt := 62) hx hb dX10_mayBecome_1 (by rw [hc1_4]; decide) (by rw [hc1_4]; decide) (by rw [hc1_4]; rfl) (by decide) ?_
            refine lv_iload_n hx hb dX10_mayBecome_62 rfl (lv_at hl 1 rfl) ?_
            refine lv_i2l' hx hb dX10_mayBecome_63 ?_
            obtain ⟨q64, e64, h⟩ := tB h
            refine rsI C hH hl.1 (mX10_isGood l e64) cs_RX10_106 (RR_of (by decide) (by decide)) rfl (rest := []) rfl (Nat.le_of_ble_eq_true rfl) dX10_mayBecome_64 ?_
            intro hz64 H locs hH
            have h := Option.some.inj h
            subst h
            exact retZ C hH hz64 dX10_mayBecome_67
          · replace h := tF hc1_4 h
            by_cases hc1_5 : v0 = 5
            · replace h := tT hc1_5 h
              refine lv_tableIn (tgt := 52) hx hb dX10_mayBecome_1 (by rw [hc1_5]; decide) (by rw [hc1_5]; decide) (by rw [hc1_5]; rfl) (by decide) ?_
              exact wX10_mayBecome_52 C h hH (lv_sub hl [1] rfl)
            · replace h := tF hc1_5 h
              by_cases hc1_6 : v0 = 6
              · replace h := tT hc1_6 h
                refine lv_tableIn (tgt := 68) hx hb dX10_mayBecome_1 (by rw [hc1_6]; decide) (by rw [hc1_6]; decide) (by rw [hc1_6]; rfl) (by decide) ?_
                refine lv_iload_n hx hb dX10_mayBecome_68 rfl (lv_at hl 1 rfl) ?_
                refine lv_i2l' hx hb dX10_mayBecome_69 ?_
                refine lv_lconst (v := 0) hx hb dX10_mayBecome_70 (by decide) ?_
                refine rldc2 C (v := 999) k_RX10_122 dX10_mayBecome_71 ?_
                obtain ⟨q74, e74, h⟩ := tB h
                refine rsI C hH hl.1 (mX10_within l e74) cs_RX10_96 (RR_of (by decide) (by decide)) rfl (rest := []) rfl (Nat.le_of_ble_eq_true rfl) dX10_mayBecome_74 ?_
                intro hz74 H locs hH
                have h := Option.some.inj h
                subst h
                exact retZ C hH hz74 dX10_mayBecome_77
              · replace h := tF hc1_6 h
                by_cases hc1_7 : v0 = 7
                · replace h := tT hc1_7 h
                  refine lv_tableIn (tgt := 78) hx hb dX10_mayBecome_1 (by rw [hc1_7]; decide) (by rw [hc1_7]; decide) (by rw [hc1_7]; rfl) (by decide) ?_
                  refine lv_iload_n hx hb dX10_mayBecome_78 rfl (lv_at hl 1 rfl) ?_
                  refine lv_i2l' hx hb dX10_mayBecome_79 ?_
                  refine lv_lconst (v := 0) hx hb dX10_mayBecome_80 (by decide) ?_
                  refine rldc2 C (v := 6) k_RX10_124 dX10_mayBecome_81 ?_
                  obtain ⟨q84, e84, h⟩ := tB h
                  refine rsI C hH hl.1 (mX10_within l e84) cs_RX10_96 (RR_of (by decide) (by decide)) rfl (rest := []) rfl (Nat.le_of_ble_eq_true rfl) dX10_mayBecome_84 ?_
                  intro hz84 H locs hH
                  have h := Option.some.inj h
                  subst h
                  exact retZ C hH hz84 dX10_mayBecome_87
                · replace h := tF hc1_7 h
                  by_cases hc1_8 : v0 = 8
                  · replace h := tT hc1_8 h
                    refine lv_tableIn (tgt := 88) hx hb dX10_mayBecome_1 (by rw [hc1_8]; decide) (by rw [hc1_8]; decide) (by rw [hc1_8]; rfl) (by decide) ?_
                    refine lv_iload_n hx hb dX10_mayBecome_88 rfl (lv_at hl 1 rfl) ?_
                    refine lv_i2l' hx hb dX10_mayBecome_89 ?_
                    refine lv_lconst (v := 1) hx hb dX10_mayBecome_90 (by decide) ?_
                    refine rldc2 C (v := 11) k_RX10_138 dX10_mayBecome_91 ?_
                    obtain ⟨q94, e94, h⟩ := tB h
                    refine rsI C hH hl.1 (mX10_within l e94) cs_RX10_96 (RR_of (by decide) (by decide)) rfl (rest := []) rfl (Nat.le_of_ble_eq_true rfl) dX10_mayBecome_94 ?_
                    intro hz94 H locs hH
                    have h := Option.some.inj h
                    subst h
                    exact retZ C hH hz94 dX10_mayBecome_97
                  · replace h := tF hc1_8 h
                    have ghc1_0 := lv_neT (k := 0) (a := 0) hc1_0 rfl
                    have ghc1_1 := lv_neT (k := 1) (a := 1) hc1_1 rfl
                    have ghc1_2 := lv_neT (k := 2) (a := 2) hc1_2 rfl
                    have ghc1_3 := lv_neT (k := 3) (a := 3) hc1_3 rfl
                    have ghc1_4 := lv_neT (k := 4) (a := 4) hc1_4 rfl
                    have ghc1_5 := lv_neT (k := 5) (a := 5) hc1_5 rfl
                    have ghc1_6 := lv_neT (k := 6) (a := 6) hc1_6 rfl
                    have ghc1_7 := lv_neT (k := 7) (a := 7) hc1_7 rfl
                    have ghc1_8 := lv_neT (k := 8) (a := 8) hc1_8 rfl
                    refine lv_tableOut (tgt := 98) hx hb dX10_mayBecome_1 (by omega) (by decide) ?_
                    exact wX10_mayBecome_98 C h hH (lv_sub hl [1] rfl)
set_option maxHeartbeats 2000000 in
set_option maxRecDepth 20000 in
theorem wX10_becomes_97 (C : Cx D ca A p s m args meth c cX10_becomes RX10 5 (some .int)) {q : Int32 × Mm} {v1 : Int32} {v2 : Int32} {v3 : Int32} {mm : Mm} (h : DX10_becomes_97 v1 v2 v3 mm = some q) (hH : Hx WN ad ca WS D A s.heap mm H locs) (hl : lv_has ls 5 [(0, .ref (ad 58)), (1, .int v1), (2, .int v2), (3, .int v3)]) : W p l e (rmk 1) s m args below meth c H locs 0 0 (MQ below (QcI WN ad ca WS D A pzT q) args s 0 0 A) (F0 m 97 ls []) := by
  unfold DX10_becomes_97 at h
  have hx := C.1
  have hb := C.2.1
  refine lv_aload_n hx hb dX10_becomes_97 rfl (lv_at hl 0 rfl) ?_
  refine rgS C hH fs_RX10_13_58 dX10_becomes_98 ?_
  refine lv_aload_n hx hb dX10_becomes_101 rfl (lv_at hl 0 rfl) ?_
  refine rgI C hH fi_RX10_88_58 dX10_becomes_102 ?_
  refine lv_iload_n hx hb dX10_becomes_105 rfl (lv_at hl 1 rfl) ?_
  obtain ⟨hi106, h⟩ := tC h
  refine rwI C hH (k := (Int32.toNatClampNeg (gI mm 58 5))) (by decide) (show WS 60 = .inr (0, 40, 0) from rfl) hi106 rfl dX10_becomes_106 (fun H locs hH => ?_)
  refine lv_aload_n hx hb dX10_becomes_107 rfl (lv_at hl 0 rfl) ?_
  refine rgS C hH fs_RX10_16_58 dX10_becomes_108 ?_
  refine lv_aload_n hx hb dX10_becomes_111 rfl (lv_at hl 0 rfl) ?_
  refine rgI C hH fi_RX10_88_58 dX10_becomes_112 ?_
  refine lv_iload_n hx hb dX10_becomes_115 rfl (lv_at hl 3 rfl) ?_
  obtain ⟨hi116, h⟩ := tC h
  refine rwI C hH (k := (Int32.toNatClampNeg (gI (sI mm 60 (Int32.toNatClampNeg (gI mm 58 5)) v1) 58 5))) (by decide) (show WS 61 = .inr (0, 40, 0) from rfl) hi116 rfl dX10_becomes_116 (fun H locs hH => ?_)
  refine lv_aload_n hx hb dX10_becomes_117 rfl (lv_at hl 0 rfl) ?_
  refine rgS C hH fs_RX10_19_58 dX10_becomes_118 ?_
  refine lv_aload_n hx hb dX10_becomes_121 rfl (lv_at hl 0 rfl) ?_
  refine rgI C hH fi_RX10_88_58 dX10_becomes_122 ?_
  refine lv_iload_n hx hb dX10_becomes_125 rfl (lv_at hl 2 rfl) ?_
  obtain ⟨hi126, h⟩ := tC h
  refine rwI C hH (k := (Int32.toNatClampNeg (gI (sI (sI mm 60 (Int32.toNatClampNeg (gI mm 58 5)) v1) 61 (Int32.toNatClampNeg (gI (sI mm 60 (Int32.toNatClampNeg (gI mm 58 5)) v1) 58 5)) v3) 58 5))) (by decide) (show WS 62 = .inr (0, 40, 0) from rfl) hi126 rfl dX10_becomes_126 (fun H locs hH => ?_)
  refine lv_aload_n hx hb dX10_becomes_127 rfl (lv_at hl 0 rfl) ?_
  refine lv_dup hx hb dX10_becomes_128 rfl ?_
  refine rgI C hH fi_RX10_88_58 dX10_becomes_129 ?_
  refine lv_iconst (v := 1) hx hb dX10_becomes_132 (by decide) ?_
  refine lv_iadd hx hb dX10_becomes_133 ?_
  refine rpI C hH fp_RX10_88_58 rfl rfl dX10_becomes_134 (fun H locs hH => ?_)
  refine lv_aload_n hx hb dX10_becomes_137 rfl (lv_at hl 0 rfl) ?_
  refine lv_aload_n hx hb dX10_becomes_138 rfl (lv_at hl 0 rfl) ?_
  refine rgI C hH fi_RX10_88_58 dX10_becomes_139 ?_
  refine rpI C hH fp_RX10_91_58 rfl rfl dX10_becomes_142 (fun H locs hH => ?_)
  refine lv_aload_n hx hb dX10_becomes_145 rfl (lv_at hl 0 rfl) ?_
  refine rgS C hH fs_RX10_9_58 dX10_becomes_146 ?_
  refine lv_iload_n hx hb dX10_becomes_149 rfl (lv_at hl 1 rfl) ?_
  refine lv_iload_n hx hb dX10_becomes_150 rfl (lv_at hl 2 rfl) ?_
  obtain ⟨hi151, h⟩ := tC h
  refine rwI C hH (k := (Int32.toNatClampNeg v1)) (by decide) (show WS 59 = .inr (0, 62, 0) from rfl) hi151 rfl dX10_becomes_151 (fun H locs hH => ?_)
  refine lv_iload_n hx hb dX10_becomes_152 rfl (lv_at hl 3 rfl) ?_
  have h := Option.some.inj h
  subst h
  exact retI C hH trivial dX10_becomes_153
set_option maxHeartbeats 2000000 in
set_option maxRecDepth 20000 in
theorem wbX10_becomes_26 (C : Cx D ca A p s m args meth c cX10_becomes RX10 5 (some .int)) {q : Int32 × Mm} {k26 : Int32 → Int32 → Int32 → Int32 → Mm → Option (Int32 × Mm)} (hk26 : ∀ (v1 : Int32) (v2 : Int32) (v3 : Int32) (v4 : Int32) (mm : Mm), k26 v1 v2 v3 v4 mm = some q → ∀ (H : Heap) (locs : List Loc) (ls : Array Slot), Hx WN ad ca WS D A s.heap mm H locs → lv_has ls 5 [(0, .ref (ad 58)), (1, .int v1), (2, .int v2), (3, .int v3), (4, .int v4)] → W p l e (rmk 1) s m args below meth c H locs 0 0 (MQ below (QcI WN ad ca WS D A pzT q) args s 0 0 A) (F0 m 26 ls [])) {v1 : Int32} {v2 : Int32} {v3 : Int32} {v4 : Int32} {mm : Mm} (h : BX10_becomes_26 k26 v1 v2 v3 v4 mm = some q) (hH : Hx WN ad ca WS D A s.heap mm H locs) (hl : lv_has ls 5 [(0, .ref (ad 58)), (1, .int v1), (2, .int v2), (3, .int v3), (4, .int v4)]) : W p l e (rmk 1) s m args below meth c H locs 0 0 (MQ below (QcI WN ad ca WS D A pzT q) args s 0 0 A) (F0 m 26 ls []) := by
  unfold BX10_becomes_26 at h
  have hx := C.1
  have hb := C.2.1
  refine lv_iload hx hb dX10_becomes_26 (lv_at hl 4 rfl) ?_
  refine lv_bipush (v := 40) hx hb dX10_becomes_28 (by decide) ?_
  refine lv_icmp_ge (tgt := 87) hx hb dX10_becomes_30 (by decide) (fun hc30 => ?_) (fun hc30 => ?_)
  · replace h := tT hc30 h
    refine lv_aload_n hx hb dX10_becomes_87 rfl (lv_at hl 0 rfl) ?_
    refine lv_dup hx hb dX10_becomes_88 rfl ?_
    refine rgI C hH fi_RX10_88_58 dX10_becomes_89 ?_
    refine lv_iconst (v := 1) hx hb dX10_becomes_92 (by decide) ?_
    refine lv_isub hx hb dX10_becomes_93 ?_
    refine rpI C hH fp_RX10_88_58 rfl rfl dX10_becomes_94 (fun H locs hH => ?_)
    exact wX10_becomes_97 C h hH (lv_sub hl [0, 1, 2, 3] rfl)
  · replace h := tF hc30 h
    refine lv_aload_n hx hb dX10_becomes_33 rfl (lv_at hl 0 rfl) ?_
    refine rgS C hH fs_RX10_13_58 dX10_becomes_34 ?_
    refine lv_iload hx hb dX10_becomes_37 (lv_at hl 4 rfl) ?_
    refine lv_iconst (v := 1) hx hb dX10_becomes_39 (by decide) ?_
    refine lv_isub hx hb dX10_becomes_40 ?_
    refine lv_aload_n hx hb dX10_becomes_41 rfl (lv_at hl 0 rfl) ?_
    refine rgS C hH fs_RX10_13_58 dX10_becomes_42 ?_
    refine lv_iload hx hb dX10_becomes_45 (lv_at hl 4 rfl) ?_
    obtain ⟨hi47, h⟩ := tC h
    refine raI C hH (k := (Int32.toNatClampNeg v4)) (by decide) (show WS 60 = .inr (0, 40, 0) from rfl) hi47 rfl dX10_becomes_47 ?_
    obtain ⟨hi48, h⟩ := tC h
    refine rwI C hH (k := (Int32.toNatClampNeg (v4 - 1))) (by decide) (show WS 60 = .inr (0, 40, 0) from rfl) hi48 rfl dX10_becomes_48 (fun H locs hH => ?_)
    refine lv_aload_n hx hb dX10_becomes_49 rfl (lv_at hl 0 rfl) ?_
    refine rgS C hH fs_RX10_16_58 dX10_becomes_50 ?_
    refine lv_iload hx hb dX10_becomes_53 (lv_at hl 4 rfl) ?_
    refine lv_iconst (v := 1) hx hb dX10_becomes_55 (by decide) ?_
    refine lv_isub hx hb dX10_becomes_56 ?_
    refine lv_aload_n hx hb dX10_becomes_57 rfl (lv_at hl 0 rfl) ?_
    refine rgS C hH fs_RX10_16_58 dX10_becomes_58 ?_
    refine lv_iload hx hb dX10_becomes_61 (lv_at hl 4 rfl) ?_
    obtain ⟨hi63, h⟩ := tC h
    refine raI C hH (k := (Int32.toNatClampNeg v4)) (by decide) (show WS 61 = .inr (0, 40, 0) from rfl) hi63 rfl dX10_becomes_63 ?_
    obtain ⟨hi64, h⟩ := tC h
    refine rwI C hH (k := (Int32.toNatClampNeg (v4 - 1))) (by decide) (show WS 61 = .inr (0, 40, 0) from rfl) hi64 rfl dX10_becomes_64 (fun H locs hH => ?_)
    refine lv_aload_n hx hb dX10_becomes_65 rfl (lv_at hl 0 rfl) ?_
    refine rgS C hH fs_RX10_19_58 dX10_becomes_66 ?_
    refine lv_iload hx hb dX10_becomes_69 (lv_at hl 4 rfl) ?_
    refine lv_iconst (v := 1) hx hb dX10_becomes_71 (by decide) ?_
    refine lv_isub hx hb dX10_becomes_72 ?_
    refine lv_aload_n hx hb dX10_becomes_73 rfl (lv_at hl 0 rfl) ?_
    refine rgS C hH fs_RX10_19_58 dX10_becomes_74 ?_
    refine lv_iload hx hb dX10_becomes_77 (lv_at hl 4 rfl) ?_
    obtain ⟨hi79, h⟩ := tC h
    refine raI C hH (k := (Int32.toNatClampNeg v4)) (by decide) (show WS 62 = .inr (0, 40, 0) from rfl) hi79 rfl dX10_becomes_79 ?_
    obtain ⟨hi80, h⟩ := tC h
    refine rwI C hH (k := (Int32.toNatClampNeg (v4 - 1))) (by decide) (show WS 62 = .inr (0, 40, 0) from rfl) hi80 rfl dX10_becomes_80 (fun H locs hH => ?_)
    refine lv_iinc (v := (v4 + 1)) (lv' := [(4, .int (v4 + 1)), (0, .ref (ad 58)), (1, .int v1), (2, .int v2), (3, .int v3)]) hx hb dX10_becomes_81 hl (k := 4) rfl rfl (by decide) rfl (fun ls hl => ?_)
    refine lv_goto (tgt := 26) hx hb dX10_becomes_84 (by decide) ?_
    exact hk26 _ _ _ _ _ h _ _ _ hH (lv_sub hl [1, 2, 3, 4, 0] rfl)
set_option maxHeartbeats 2000000 in
set_option maxRecDepth 20000 in
theorem wX10_becomes_26 (C : Cx D ca A p s m args meth c cX10_becomes RX10 5 (some .int)) {q : Int32 × Mm} : ∀ (N : Nat) (v1 : Int32) (v2 : Int32) (v3 : Int32) (v4 : Int32) (mm : Mm), DX10_becomes_26 N v1 v2 v3 v4 mm = some q → ∀ (H : Heap) (locs : List Loc) (ls : Array Slot), Hx WN ad ca WS D A s.heap mm H locs → lv_has ls 5 [(0, .ref (ad 58)), (1, .int v1), (2, .int v2), (3, .int v3), (4, .int v4)] → W p l e (rmk 1) s m args below meth c H locs 0 0 (MQ below (QcI WN ad ca WS D A pzT q) args s 0 0 A) (F0 m 26 ls []) := by
  intro N
  induction N with
  | zero =>
    intro v1 v2 v3 v4 mm h
    have h2 : (none : Option (Int32 × Mm)) = some q := h
    cases h2
  | succ N ih =>
    intro v1 v2 v3 v4 mm h H locs ls hH hl
    exact wbX10_becomes_26 C ih h hH hl
set_option maxHeartbeats 2000000 in
set_option maxRecDepth 20000 in
theorem mX10_becomes (l : Launch) {D : va_G} {ca : Nat → ClassId} {A : Nat → Prop} {ad : Nat → Nat} {v1 : Int32} {v2 : Int32} {mm : Mm} {q : Int32 × Mm} (h : dX10_becomes v1 v2 mm = some q) : Met l yX10_becomes (wsOf yX10_becomes cX10_becomes 5 (some .int)) (rmk 1) (PcX WN ad ca WS D A [.ref (ad 58), .int v1, .int v2] mm) (QcI WN ad ca WS D A pzT q) 0 0 A := by
  unfold dX10_becomes at h
  refine ent (by decide) (Nat.le_of_ble_eq_true rfl) (fun p e s m args below meth c hargs C hH ls hl => ?_)
  have hx := C.1
  have hb := C.2.1
  have hl : lv_has ls 5 [(0, .ref (ad 58)), (1, .int v1), (2, .int v2)] := hl
  refine lv_aload_n hx hb dX10_becomes_0 rfl (lv_at hl 0 rfl) ?_
  refine rgS C hH fs_RX10_9_58 dX10_becomes_1 ?_
  refine lv_iload_n hx hb dX10_becomes_4 rfl (lv_at hl 1 rfl) ?_
  obtain ⟨hi5, h⟩ := tC h
  refine raI C hH (k := (Int32.toNatClampNeg v1)) (by decide) (show WS 59 = .inr (0, 62, 0) from rfl) hi5 rfl dX10_becomes_5 ?_
  refine lv_istore_n (lv' := [(3, .int (gI mm 59 (Int32.toNatClampNeg v1))), (0, .ref (ad 58)), (1, .int v1), (2, .int v2)]) hx hb dX10_becomes_6 rfl hl (by decide) rfl (fun ls hl => ?_)
  refine lv_iload_n hx hb dX10_becomes_7 rfl (lv_at hl 0 rfl) ?_
  refine lv_iload_n hx hb dX10_becomes_8 rfl (lv_at hl 3 rfl) ?_
  refine lv_icmp_ne (tgt := 14) hx hb dX10_becomes_9 (by decide) (fun hc9 => ?_) (fun hc9 => ?_)
  · replace h := tF hc9 h
    refine lv_aload_n hx hb dX10_becomes_14 rfl (lv_at hl 1 rfl) ?_
    refine rgI C hH fi_RX10_88_58 dX10_becomes_15 ?_
    refine lv_bipush (v := 40) hx hb dX10_becomes_18 (by decide) ?_
    refine lv_icmp_ne (tgt := 97) hx hb dX10_becomes_20 (by decide) (fun hc20 => ?_) (fun hc20 => ?_)
    · replace h := tF hc20 h
      exact wX10_becomes_97 C h hH (lv_sub hl [1, 2, 3, 0] rfl)
    · replace h := tT hc20 h
      refine lv_iconst (v := 1) hx hb dX10_becomes_23 (by decide) ?_
      refine lv_istore (lv' := [(4, .int 1), (3, .int (gI mm 59 (Int32.toNatClampNeg v1))), (0, .ref (ad 58)), (1, .int v1), (2, .int v2)]) hx hb dX10_becomes_24 hl (by decide) rfl (fun ls hl => ?_)
      exact wX10_becomes_26 C FU _ _ _ _ _ h _ _ _ hH (lv_sub hl [2, 3, 4, 1, 0] rfl)
  · replace h := tT hc9 h
    refine lv_iload_n hx hb dX10_becomes_12 rfl (lv_at hl 0 rfl) ?_
    have h := Option.some.inj h
    subst h
    exact retI C hH trivial dX10_becomes_13
set_option maxHeartbeats 2000000 in
set_option maxRecDepth 20000 in
theorem wX10_mend_31 (C : Cx D ca A p s m args meth c cX10_mend RX10 5 (some .int)) {q : Int32 × Mm} {mm : Mm} (h : DX10_mend_31 mm = some q) (hH : Hx WN ad ca WS D A s.heap mm H locs) (hl : lv_has ls 5 []) : W p l e (rmk 4) s m args below meth c H locs 0 0 (MQ below (QcI WN ad ca WS D A pzT q) args s 0 0 A) (F0 m 31 ls []) := by
  unfold DX10_mend_31 at h
  have hx := C.1
  have hb := C.2.1
  refine rldc C (v := (-2000000000)) k_RX10_151 dX10_mend_31 ?_
  have h := Option.some.inj h
  subst h
  exact retI C hH trivial dX10_mend_33
set_option maxHeartbeats 2000000 in
set_option maxRecDepth 20000 in
theorem mX10_mend (l : Launch) {D : va_G} {ca : Nat → ClassId} {A : Nat → Prop} {ad : Nat → Nat} {v1 : Int32} {v2 : Int32} {v3 : Int32} {mm : Mm} {q : Int32 × Mm} (h : dX10_mend v1 v2 v3 mm = some q) : Met l yX10_mend (wsOf yX10_mend cX10_mend 5 (some .int)) (rmk 4) (PcX WN ad ca WS D A [.ref (ad 58), .int v1, .int v2, .int v3] mm) (QcI WN ad ca WS D A pzT q) 0 0 A := by
  unfold dX10_mend at h
  refine ent (by decide) (Nat.le_of_ble_eq_true rfl) (fun p e s m args below meth c hargs C hH ls hl => ?_)
  have hx := C.1
  have hb := C.2.1
  have hl : lv_has ls 5 [(0, .ref (ad 58)), (1, .int v1), (2, .int v2), (3, .int v3)] := hl
  refine lv_aload_n hx hb dX10_mend_0 rfl (lv_at hl 0 rfl) ?_
  refine lv_iload_n hx hb dX10_mend_1 rfl (lv_at hl 1 rfl) ?_
  refine lv_iload_n hx hb dX10_mend_2 rfl (lv_at hl 2 rfl) ?_
  obtain ⟨q3, e3, h⟩ := tB h
  refine rcI C hH hl.1 (mX10_placeOf l e3) cf_RX10_140 ro_58 (RR_of (by decide) (by decide)) rfl (rest := []) rfl (Nat.le_of_ble_eq_true rfl) dX10_mend_3 ?_
  intro hz3 H locs hH
  refine lv_istore (lv' := [(4, .int q3.1), (0, .ref (ad 58)), (1, .int v1), (2, .int v2), (3, .int v3)]) hx hb dX10_mend_6 hl (by decide) rfl (fun ls hl => ?_)
  refine lv_iload hx hb dX10_mend_8 (lv_at hl 0 rfl) ?_
  refine lv_if_lt (tgt := 31) hx hb dX10_mend_10 (by decide) (fun hc10 => ?_) (fun hc10 => ?_)
  · replace h := tT hc10 h
    exact wX10_mend_31 C h hH (lv_sub hl [] rfl)
  · replace h := tF hc10 h
    refine lv_iload_n hx hb dX10_mend_13 rfl (lv_at hl 3 rfl) ?_
    refine lv_iload_n hx hb dX10_mend_14 rfl (lv_at hl 4 rfl) ?_
    obtain ⟨q15, e15, h⟩ := tB h
    refine rsI C hH hl.1 (mX10_mayBecome l e15) cs_RX10_144 (RR_of (by decide) (by decide)) rfl (rest := []) rfl (Nat.le_of_ble_eq_true rfl) dX10_mend_15 ?_
    intro hz15 H locs hH
    refine lv_if_eq (tgt := 31) hx hb dX10_mend_18 (by decide) (fun hc18 => ?_) (fun hc18 => ?_)
    · replace h := tT hc18 h
      exact wX10_mend_31 C h hH (lv_sub hl [] rfl)
    · replace h := tF hc18 h
      refine lv_aload_n hx hb dX10_mend_21 rfl (lv_at hl 1 rfl) ?_
      refine lv_iload hx hb dX10_mend_22 (lv_at hl 0 rfl) ?_
      refine lv_iload_n hx hb dX10_mend_24 rfl (lv_at hl 4 rfl) ?_
      obtain ⟨q25, e25, h⟩ := tB h
      refine rcI C hH hl.1 (mX10_becomes l e25) cf_RX10_148 ro_58 (RR_of (by decide) (by decide)) rfl (rest := []) rfl (Nat.le_of_ble_eq_true rfl) dX10_mend_25 ?_
      intro hz25 H locs hH
      refine lv_goto (tgt := 33) hx hb dX10_mend_28 (by decide) ?_
      have h := Option.some.inj h
      subst h
      exact retI C hH trivial dX10_mend_33
set_option maxHeartbeats 2000000 in
set_option maxRecDepth 20000 in
theorem mX9_of (l : Launch) {D : va_G} {ca : Nat → ClassId} {A : Nat → Prop} {ad : Nat → Nat} {v1 : Int32} {v2 : Int32} {mm : Mm} {q : Int32 × Mm} (h : dX9_of v1 v2 mm = some q) : Met l yX9_of (wsOf yX9_of cX9_of 3 (some .int)) (rmk 3) (PcX WN ad ca WS D A [.ref (ad 0), .int v1, .int v2] mm) (QcI WN ad ca WS D A pzT q) 0 0 A := by
  unfold dX9_of at h
  refine ent (by decide) (Nat.le_of_ble_eq_true rfl) (fun p e s m args below meth c hargs C hH ls hl => ?_)
  have hx := C.1
  have hb := C.2.1
  have hl : lv_has ls 3 [(0, .ref (ad 0)), (1, .int v1), (2, .int v2)] := hl
  refine lv_aload_n hx hb dX9_of_0 rfl (lv_at hl 0 rfl) ?_
  refine rgS C hH fs_RX9_10_0 dX9_of_1 ?_
  refine lv_iload_n hx hb dX9_of_4 rfl (lv_at hl 2 rfl) ?_
  refine lv_iload_n hx hb dX9_of_5 rfl (lv_at hl 1 rfl) ?_
  obtain ⟨q6, e6, h⟩ := tB h
  refine rcI C hH hl.1 (mX7_holds l e6) cf_RX9_67 ro_1 (RR_of (by decide) (by decide)) rfl (rest := []) rfl (Nat.le_of_ble_eq_true rfl) dX9_of_6 ?_
  intro hz6 H locs hH
  refine lv_if_eq (tgt := 24) hx hb dX9_of_9 (by decide) (fun hc9 => ?_) (fun hc9 => ?_)
  · replace h := tT hc9 h
    refine rldc C (v := (-2000000000)) k_RX9_97 dX9_of_24 ?_
    have h := Option.some.inj h
    subst h
    exact retI C hH trivial dX9_of_26
  · replace h := tF hc9 h
    refine lv_aload_n hx hb dX9_of_12 rfl (lv_at hl 0 rfl) ?_
    refine rgS C hH fs_RX9_10_0 dX9_of_13 ?_
    refine lv_iload_n hx hb dX9_of_16 rfl (lv_at hl 2 rfl) ?_
    refine lv_iload_n hx hb dX9_of_17 rfl (lv_at hl 1 rfl) ?_
    obtain ⟨q18, e18, h⟩ := tB h
    refine rcI C hH hl.1 (mX7_told l e18) cf_RX9_98 ro_1 (RR_of (by decide) (by decide)) rfl (rest := []) rfl (Nat.le_of_ble_eq_true rfl) dX9_of_18 ?_
    intro hz18 H locs hH
    refine lv_goto (tgt := 26) hx hb dX9_of_21 (by decide) ?_
    have h := Option.some.inj h
    subst h
    exact retI C hH trivial dX9_of_26
set_option maxHeartbeats 2000000 in
set_option maxRecDepth 20000 in
theorem mX10_of (l : Launch) {D : va_G} {ca : Nat → ClassId} {A : Nat → Prop} {ad : Nat → Nat} {v1 : Int32} {v2 : Int32} {mm : Mm} {q : Int32 × Mm} (h : dX10_of v1 v2 mm = some q) : Met l yX10_of (wsOf yX10_of cX10_of 4 (some .int)) (rmk 4) (PcX WN ad ca WS D A [.ref (ad 58), .int v1, .int v2] mm) (QcI WN ad ca WS D A pzT q) 0 0 A := by
  unfold dX10_of at h
  refine ent (by decide) (Nat.le_of_ble_eq_true rfl) (fun p e s m args below meth c hargs C hH ls hl => ?_)
  have hx := C.1
  have hb := C.2.1
  have hl : lv_has ls 4 [(0, .ref (ad 58)), (1, .int v1), (2, .int v2)] := hl
  refine lv_aload_n hx hb dX10_of_0 rfl (lv_at hl 0 rfl) ?_
  refine lv_iload_n hx hb dX10_of_1 rfl (lv_at hl 1 rfl) ?_
  refine lv_iload_n hx hb dX10_of_2 rfl (lv_at hl 2 rfl) ?_
  obtain ⟨q3, e3, h⟩ := tB h
  refine rcI C hH hl.1 (mX10_placeOf l e3) cf_RX10_140 ro_58 (RR_of (by decide) (by decide)) rfl (rest := []) rfl (Nat.le_of_ble_eq_true rfl) dX10_of_3 ?_
  intro hz3 H locs hH
  refine lv_istore_n (lv' := [(3, .int q3.1), (0, .ref (ad 58)), (1, .int v1), (2, .int v2)]) hx hb dX10_of_6 rfl hl (by decide) rfl (fun ls hl => ?_)
  refine lv_iload_n hx hb dX10_of_7 rfl (lv_at hl 0 rfl) ?_
  refine lv_if_lt (tgt := 18) hx hb dX10_of_8 (by decide) (fun hc8 => ?_) (fun hc8 => ?_)
  · replace h := tT hc8 h
    refine lv_aload_n hx hb dX10_of_18 rfl (lv_at hl 1 rfl) ?_
    refine lv_iload_n hx hb dX10_of_19 rfl (lv_at hl 2 rfl) ?_
    refine lv_i2l' hx hb dX10_of_20 ?_
    obtain ⟨q21, e21, h⟩ := tB h
    refine rcI C hH hl.1 (mX10_isSack l e21) cf_RX10_130 ro_58 (RR_of (by decide) (by decide)) rfl (rest := []) rfl (Nat.le_of_ble_eq_true rfl) dX10_of_21 ?_
    intro hz21 H locs hH
    refine lv_if_ne (tgt := 32) hx hb dX10_of_24 (by decide) (fun hc24 => ?_) (fun hc24 => ?_)
    · replace h := tF hc24 h
      refine lv_iload_n hx hb dX10_of_32 rfl (lv_at hl 3 rfl) ?_
      refine lv_bipush (v := 9) hx hb dX10_of_33 (by decide) ?_
      refine lv_icmp_ne (tgt := 47) hx hb dX10_of_35 (by decide) (fun hc35 => ?_) (fun hc35 => ?_)
      · replace h := tF hc35 h
        refine lv_iload_n hx hb dX10_of_47 rfl (lv_at hl 3 rfl) ?_
        refine lv_bipush (v := 10) hx hb dX10_of_48 (by decide) ?_
        refine lv_icmp_ne (tgt := 70) hx hb dX10_of_50 (by decide) (fun hc50 => ?_) (fun hc50 => ?_)
        · replace h := tF hc50 h
          refine rldc C (v := (-2000000000)) k_RX10_151 dX10_of_70 ?_
          have h := Option.some.inj h
          subst h
          exact retI C hH trivial dX10_of_72
        · replace h := tT hc50 h
          refine lv_aload_n hx hb dX10_of_53 rfl (lv_at hl 1 rfl) ?_
          refine rgS C hH fs_RX10_25_58 dX10_of_54 ?_
          refine lv_iload_n hx hb dX10_of_57 rfl (lv_at hl 2 rfl) ?_
          obtain ⟨hi58, h⟩ := tC h
          refine raZ C hH (k := (Int32.toNatClampNeg v1)) (by decide) (show WS 64 = .inr (2, 10, 0) from rfl) hi58 rfl dX10_of_58 ?_
          refine lv_if_eq (tgt := 66) hx hb dX10_of_59 (by decide) (fun hc59 => ?_) (fun hc59 => ?_)
          · replace h := tT hc59 h
            refine lv_iconst (v := 0) hx hb dX10_of_66 (by decide) ?_
            refine lv_goto (tgt := 72) hx hb dX10_of_67 (by decide) ?_
            have h := Option.some.inj h
            subst h
            exact retI C hH trivial dX10_of_72
          · replace h := tF hc59 h
            refine lv_iconst (v := 1) hx hb dX10_of_62 (by decide) ?_
            refine lv_goto (tgt := 72) hx hb dX10_of_63 (by decide) ?_
            have h := Option.some.inj h
            subst h
            exact retI C hH trivial dX10_of_72
      · replace h := tT hc35 h
        refine lv_aload_n hx hb dX10_of_38 rfl (lv_at hl 1 rfl) ?_
        refine rgS C hH fs_RX10_22_58 dX10_of_39 ?_
        refine lv_iload_n hx hb dX10_of_42 rfl (lv_at hl 2 rfl) ?_
        obtain ⟨hi43, h⟩ := tC h
        refine raI C hH (k := (Int32.toNatClampNeg v1)) (by decide) (show WS 63 = .inr (0, 10, 0) from rfl) hi43 rfl dX10_of_43 ?_
        refine lv_goto (tgt := 72) hx hb dX10_of_44 (by decide) ?_
        have h := Option.some.inj h
        subst h
        exact retI C hH trivial dX10_of_72
    · replace h := tT hc24 h
      refine rldc C (v := (-2000000000)) k_RX10_151 dX10_of_27 ?_
      refine lv_goto (tgt := 72) hx hb dX10_of_29 (by decide) ?_
      have h := Option.some.inj h
      subst h
      exact retI C hH trivial dX10_of_72
  · replace h := tF hc8 h
    refine lv_aload_n hx hb dX10_of_11 rfl (lv_at hl 1 rfl) ?_
    refine rgS C hH fs_RX10_9_58 dX10_of_12 ?_
    refine lv_iload_n hx hb dX10_of_15 rfl (lv_at hl 0 rfl) ?_
    obtain ⟨hi16, h⟩ := tC h
    refine raI C hH (k := (Int32.toNatClampNeg q3.1)) (by decide) (show WS 59 = .inr (0, 62, 0) from rfl) hi16 rfl dX10_of_16 ?_
    have h := Option.some.inj h
    subst h
    exact retI C hH trivial dX10_of_17
set_option maxHeartbeats 2000000 in
set_option maxRecDepth 20000 in
theorem mX6_take (l : Launch) {D : va_G} {ca : Nat → ClassId} {A : Nat → Prop} {ad : Nat → Nat} {v1 : Int32} {mm : Mm} {q : Int32 × Mm} (h : dX6_take v1 mm = some q) : Met l yX6_take (wsOf yX6_take cX6_take 2 (some .int)) (rmk 1) (PcX WN ad ca WS D A [.ref (ad 15), .int v1] mm) (QcI WN ad ca WS D A pzT q) 0 0 A := by
  unfold dX6_take at h
  refine ent (by decide) (Nat.le_of_ble_eq_true rfl) (fun p e s m args below meth c hargs C hH ls hl => ?_)
  have hx := C.1
  have hb := C.2.1
  have hl : lv_has ls 2 [(0, .ref (ad 15)), (1, .int v1)] := hl
  refine lv_aload_n hx hb dX6_take_0 rfl (lv_at hl 0 rfl) ?_
  refine rgI C hH fi_RX6_22_15 dX6_take_1 ?_
  refine lv_bipush (v := 120) hx hb dX6_take_4 (by decide) ?_
  refine lv_icmp_lt (tgt := 12) hx hb dX6_take_6 (by decide) (fun hc6 => ?_) (fun hc6 => ?_)
  · replace h := tT hc6 h
    refine lv_aload_n hx hb dX6_take_12 rfl (lv_at hl 0 rfl) ?_
    refine rgS C hH fs_RX6_11_15 dX6_take_13 ?_
    refine lv_aload_n hx hb dX6_take_16 rfl (lv_at hl 0 rfl) ?_
    refine rgI C hH fi_RX6_22_15 dX6_take_17 ?_
    refine lv_iload_n hx hb dX6_take_20 rfl (lv_at hl 1 rfl) ?_
    refine lv_i2c' hx hb dX6_take_21 ?_
    obtain ⟨hi22, h⟩ := tC h
    refine rwC C hH (k := (Int32.toNatClampNeg (gI mm 15 4))) (by decide) (show WS 16 = .inr (1, 120, 0) from rfl) hi22 rfl dX6_take_22 (fun H locs hH => ?_)
    refine lv_aload_n hx hb dX6_take_23 rfl (lv_at hl 0 rfl) ?_
    refine lv_dup hx hb dX6_take_24 rfl ?_
    refine rgI C hH fi_RX6_22_15 dX6_take_25 ?_
    refine lv_iconst (v := 1) hx hb dX6_take_28 (by decide) ?_
    refine lv_iadd hx hb dX6_take_29 ?_
    refine rpI C hH fp_RX6_22_15 rfl rfl dX6_take_30 (fun H locs hH => ?_)
    refine lv_aload_n hx hb dX6_take_33 rfl (lv_at hl 0 rfl) ?_
    refine rgI C hH fi_RX6_22_15 dX6_take_34 ?_
    have h := Option.some.inj h
    subst h
    exact retI C hH trivial dX6_take_37
  · replace h := tF hc6 h
    refine lv_bipush (v := (-3)) hx hb dX6_take_9 (by decide) ?_
    have h := Option.some.inj h
    subst h
    exact retI C hH trivial dX6_take_11
set_option maxHeartbeats 2000000 in
set_option maxRecDepth 20000 in
theorem wX9_feed_11 (C : Cx D ca A p s m args meth c cX9_feed RX9 2 (some .int)) {q : Int32 × Mm} {mm : Mm} (h : DX9_feed_11 mm = some q) (hH : Hx WN ad ca WS D A s.heap mm H locs) (hl : lv_has ls 2 []) : W p l e (rmk 2) s m args below meth c H locs 0 0 (MQ below (QcI WN ad ca WS D A pzT q) args s 0 0 A) (F0 m 11 ls []) := by
  unfold DX9_feed_11 at h
  have hx := C.1
  have hb := C.2.1
  refine lv_iconst (v := (-1)) hx hb dX9_feed_11 (by decide) ?_
  refine lv_goto (tgt := 23) hx hb dX9_feed_12 (by decide) ?_
  have h := Option.some.inj h
  subst h
  exact retI C hH trivial dX9_feed_23
set_option maxHeartbeats 2000000 in
set_option maxRecDepth 20000 in
theorem mX9_feed (l : Launch) {D : va_G} {ca : Nat → ClassId} {A : Nat → Prop} {ad : Nat → Nat} {v1 : Int32} {mm : Mm} {q : Int32 × Mm} (h : dX9_feed v1 mm = some q) : Met l yX9_feed (wsOf yX9_feed cX9_feed 2 (some .int)) (rmk 2) (PcX WN ad ca WS D A [.ref (ad 0), .int v1] mm) (QcI WN ad ca WS D A pzT q) 0 0 A := by
  unfold dX9_feed at h
  refine ent (by decide) (Nat.le_of_ble_eq_true rfl) (fun p e s m args below meth c hargs C hH ls hl => ?_)
  have hx := C.1
  have hb := C.2.1
  have hl : lv_has ls 2 [(0, .ref (ad 0)), (1, .int v1)] := hl
  refine lv_iload_n hx hb dX9_feed_0 rfl (lv_at hl 1 rfl) ?_
  refine lv_if_lt (tgt := 11) hx hb dX9_feed_1 (by decide) (fun hc1 => ?_) (fun hc1 => ?_)
  · replace h := tT hc1 h
    exact wX9_feed_11 C h hH (lv_sub hl [] rfl)
  · replace h := tF hc1 h
    refine lv_iload_n hx hb dX9_feed_4 rfl (lv_at hl 1 rfl) ?_
    refine lv_sipush (v := 255) hx hb dX9_feed_5 (by decide) ?_
    refine lv_icmp_le (tgt := 15) hx hb dX9_feed_8 (by decide) (fun hc8 => ?_) (fun hc8 => ?_)
    · replace h := tT hc8 h
      refine lv_aload_n hx hb dX9_feed_15 rfl (lv_at hl 0 rfl) ?_
      refine rgS C hH fs_RX9_19_0 dX9_feed_16 ?_
      refine lv_iload_n hx hb dX9_feed_19 rfl (lv_at hl 1 rfl) ?_
      obtain ⟨q20, e20, h⟩ := tB h
      refine rcI C hH hl.1 (mX6_take l e20) cf_RX9_109 ro_15 (RR_of (by decide) (by decide)) rfl (rest := []) rfl (Nat.le_of_ble_eq_true rfl) dX9_feed_20 ?_
      intro hz20 H locs hH
      have h := Option.some.inj h
      subst h
      exact retI C hH trivial dX9_feed_23
    · replace h := tF hc8 h
      exact wX9_feed_11 C h hH (lv_sub hl [] rfl)
set_option maxHeartbeats 2000000 in
set_option maxRecDepth 20000 in
theorem mX10_feed (l : Launch) {D : va_G} {ca : Nat → ClassId} {A : Nat → Prop} {ad : Nat → Nat} {v1 : Int32} {mm : Mm} {q : Int32 × Mm} (h : dX10_feed v1 mm = some q) : Met l yX10_feed (wsOf yX10_feed cX10_feed 2 (some .int)) (rmk 2) (PcX WN ad ca WS D A [.ref (ad 58), .int v1] mm) (QcI WN ad ca WS D A pzT q) 0 0 A := by
  unfold dX10_feed at h
  refine ent (by decide) (Nat.le_of_ble_eq_true rfl) (fun p e s m args below meth c hargs C hH ls hl => ?_)
  have hx := C.1
  have hb := C.2.1
  have hl : lv_has ls 2 [(0, .ref (ad 58)), (1, .int v1)] := hl
  refine lv_iload_n hx hb dX10_feed_0 rfl (lv_at hl 1 rfl) ?_
  refine lv_i2l' hx hb dX10_feed_1 ?_
  refine lv_lconst (v := 0) hx hb dX10_feed_2 (by decide) ?_
  refine rldc2 C (v := 255) k_RX10_152 dX10_feed_3 ?_
  obtain ⟨q6, e6, h⟩ := tB h
  refine rsI C hH hl.1 (mX10_within l e6) cs_RX10_96 (RR_of (by decide) (by decide)) rfl (rest := []) rfl (Nat.le_of_ble_eq_true rfl) dX10_feed_6 ?_
  intro hz6 H locs hH
  refine lv_if_ne (tgt := 14) hx hb dX10_feed_9 (by decide) (fun hc9 => ?_) (fun hc9 => ?_)
  · replace h := tF hc9 h
    refine lv_aload_n hx hb dX10_feed_14 rfl (lv_at hl 0 rfl) ?_
    refine rgI C hH fi_RX10_154_58 dX10_feed_15 ?_
    refine lv_bipush (v := 120) hx hb dX10_feed_18 (by decide) ?_
    refine lv_icmp_ne (tgt := 26) hx hb dX10_feed_20 (by decide) (fun hc20 => ?_) (fun hc20 => ?_)
    · replace h := tF hc20 h
      refine lv_aload_n hx hb dX10_feed_26 rfl (lv_at hl 0 rfl) ?_
      refine rgS C hH fs_RX10_29_58 dX10_feed_27 ?_
      refine lv_aload_n hx hb dX10_feed_30 rfl (lv_at hl 0 rfl) ?_
      refine rgI C hH fi_RX10_154_58 dX10_feed_31 ?_
      refine lv_iload_n hx hb dX10_feed_34 rfl (lv_at hl 1 rfl) ?_
      obtain ⟨hi35, h⟩ := tC h
      refine rwI C hH (k := (Int32.toNatClampNeg (gI q6.2 58 11))) (by decide) (show WS 65 = .inr (0, 120, 0) from rfl) hi35 rfl dX10_feed_35 (fun H locs hH => ?_)
      refine lv_aload_n hx hb dX10_feed_36 rfl (lv_at hl 0 rfl) ?_
      refine lv_dup hx hb dX10_feed_37 rfl ?_
      refine rgI C hH fi_RX10_154_58 dX10_feed_38 ?_
      refine lv_iconst (v := 1) hx hb dX10_feed_41 (by decide) ?_
      refine lv_iadd hx hb dX10_feed_42 ?_
      refine rpI C hH fp_RX10_154_58 rfl rfl dX10_feed_43 (fun H locs hH => ?_)
      refine lv_aload_n hx hb dX10_feed_46 rfl (lv_at hl 0 rfl) ?_
      refine rgI C hH fi_RX10_154_58 dX10_feed_47 ?_
      have h := Option.some.inj h
      subst h
      exact retI C hH trivial dX10_feed_50
    · replace h := tT hc20 h
      refine lv_bipush (v := (-3)) hx hb dX10_feed_23 (by decide) ?_
      have h := Option.some.inj h
      subst h
      exact retI C hH trivial dX10_feed_25
  · replace h := tT hc9 h
    refine lv_iconst (v := (-1)) hx hb dX10_feed_12 (by decide) ?_
    have h := Option.some.inj h
    subst h
    exact retI C hH trivial dX10_feed_13
set_option maxHeartbeats 2000000 in
set_option maxRecDepth 20000 in
theorem mX5_clear (l : Launch) {D : va_G} {ca : Nat → ClassId} {A : Nat → Prop} {ad : Nat → Nat} {v0 : Nat} {mm : Mm} {q : Unit × Mm} (h : dX5_clear v0 mm = some q) : Met l yX5_clear (wsOf yX5_clear cX5_clear 1 none) (rmk 1) (PcX WN ad ca WS D A [.ref (ad v0)] mm) (QcV WN ad ca WS D A q) 0 0 A := by
  unfold dX5_clear at h
  refine ent (by decide) (Nat.le_of_ble_eq_true rfl) (fun p e s m args below meth c hargs C hH ls hl => ?_)
  have hx := C.1
  have hb := C.2.1
  have hl : lv_has ls 1 [(0, .ref (ad v0))] := hl
  obtain ⟨ho0, h⟩ := tC h
  refine lv_aload_n hx hb dX5_clear_0 rfl (lv_at hl 0 rfl) ?_
  refine lv_iconst (v := 0) hx hb dX5_clear_1 (by decide) ?_
  refine rpI C hH (fpLA_RX5_20 ho0) rfl rfl dX5_clear_2 (fun H locs hH => ?_)
  have h := Option.some.inj h
  subst h
  exact retV C hH dX5_clear_5
set_option maxHeartbeats 2000000 in
set_option maxRecDepth 20000 in
theorem mX6_ahead (l : Launch) {D : va_G} {ca : Nat → ClassId} {A : Nat → Prop} {ad : Nat → Nat} {mm : Mm} {q : Int32 × Mm} (h : dX6_ahead mm = some q) : Met l yX6_ahead (wsOf yX6_ahead cX6_ahead 1 (some .int)) (rmk 1) (PcX WN ad ca WS D A [.ref (ad 15)] mm) (QcI WN ad ca WS D A pzT q) 0 0 A := by
  unfold dX6_ahead at h
  refine ent (by decide) (Nat.le_of_ble_eq_true rfl) (fun p e s m args below meth c hargs C hH ls hl => ?_)
  have hx := C.1
  have hb := C.2.1
  have hl : lv_has ls 1 [(0, .ref (ad 15))] := hl
  refine lv_aload_n hx hb dX6_ahead_0 rfl (lv_at hl 0 rfl) ?_
  refine rgI C hH fi_RX6_29_15 dX6_ahead_1 ?_
  refine lv_aload_n hx hb dX6_ahead_4 rfl (lv_at hl 0 rfl) ?_
  refine rgI C hH fi_RX6_22_15 dX6_ahead_5 ?_
  refine lv_icmp_ge (tgt := 23) hx hb dX6_ahead_8 (by decide) (fun hc8 => ?_) (fun hc8 => ?_)
  · replace h := tT hc8 h
    refine lv_iconst (v := (-1)) hx hb dX6_ahead_23 (by decide) ?_
    have h := Option.some.inj h
    subst h
    exact retI C hH trivial dX6_ahead_24
  · replace h := tF hc8 h
    refine lv_aload_n hx hb dX6_ahead_11 rfl (lv_at hl 0 rfl) ?_
    refine rgS C hH fs_RX6_11_15 dX6_ahead_12 ?_
    refine lv_aload_n hx hb dX6_ahead_15 rfl (lv_at hl 0 rfl) ?_
    refine rgI C hH fi_RX6_29_15 dX6_ahead_16 ?_
    obtain ⟨hi19, h⟩ := tC h
    refine raC C hH (k := (Int32.toNatClampNeg (gI mm 15 2))) (by decide) (show WS 16 = .inr (1, 120, 0) from rfl) hi19 rfl dX6_ahead_19 ?_
    refine lv_goto (tgt := 24) hx hb dX6_ahead_20 (by decide) ?_
    have h := Option.some.inj h
    subst h
    exact retI C hH trivial dX6_ahead_24
end WALK
