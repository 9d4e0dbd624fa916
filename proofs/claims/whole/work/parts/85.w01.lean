/-! ===== the walks: each method by its denotation (laid by wip/whole/gen.py) ===== -/
section WALK
variable {p : Program} {l : Launch} {e : Env} {s : State} {m : MethodId} {args : Array Value} {below : List Frame} {meth : Method} {c : Code} {H : Heap} {locs : List Loc} {Q : State → Prop} {cells slots : Nat} {ls : Array Slot} {D : va_G} {ca : Nat → ClassId} {A : Nat → Prop} {ad : Nat → Nat}
set_option maxHeartbeats 2000000 in
set_option maxRecDepth 20000 in
theorem wX6_joins_78 (C : Cx D ca A p s m args meth c cX6_joins RX6 2 (some .boolean)) {q : Int32 × Mm} {mm : Mm} (h : DX6_joins_78 mm = some q) (hH : Hx WN ad ca WS D A s.heap mm H locs) (hl : lv_has ls 2 []) : W p l e (rmk 1) s m args below meth c H locs 0 0 (MQ below (QcI WN ad ca WS D A pzZ q) args s 0 0 A) (F0 m 78 ls []) := by
  unfold DX6_joins_78 at h
  have hx := C.1
  have hb := C.2.1
  refine lv_iconst (v := 1) hx hb dX6_joins_78 (by decide) ?_
  refine lv_goto (tgt := 83) hx hb dX6_joins_79 (by decide) ?_
  have h := Option.some.inj h
  subst h
  exact retZ C hH (Or.inr rfl) dX6_joins_83
set_option maxHeartbeats 2000000 in
set_option maxRecDepth 20000 in
theorem wX6_joins_96 (C : Cx D ca A p s m args meth c cX6_joins RX6 2 (some .boolean)) {q : Int32 × Mm} {mm : Mm} (h : DX6_joins_96 mm = some q) (hH : Hx WN ad ca WS D A s.heap mm H locs) (hl : lv_has ls 2 []) : W p l e (rmk 1) s m args below meth c H locs 0 0 (MQ below (QcI WN ad ca WS D A pzZ q) args s 0 0 A) (F0 m 96 ls []) := by
  unfold DX6_joins_96 at h
  have hx := C.1
  have hb := C.2.1
  refine lv_iconst (v := 1) hx hb dX6_joins_96 (by decide) ?_
  refine lv_goto (tgt := 101) hx hb dX6_joins_97 (by decide) ?_
  have h := Option.some.inj h
  subst h
  exact retZ C hH (Or.inr rfl) dX6_joins_101
set_option maxHeartbeats 2000000 in
set_option maxRecDepth 20000 in
theorem wX6_joins_120 (C : Cx D ca A p s m args meth c cX6_joins RX6 2 (some .boolean)) {q : Int32 × Mm} {mm : Mm} (h : DX6_joins_120 mm = some q) (hH : Hx WN ad ca WS D A s.heap mm H locs) (hl : lv_has ls 2 []) : W p l e (rmk 1) s m args below meth c H locs 0 0 (MQ below (QcI WN ad ca WS D A pzZ q) args s 0 0 A) (F0 m 120 ls []) := by
  unfold DX6_joins_120 at h
  have hx := C.1
  have hb := C.2.1
  refine lv_iconst (v := 1) hx hb dX6_joins_120 (by decide) ?_
  refine lv_goto (tgt := 125) hx hb dX6_joins_121 (by decide) ?_
  have h := Option.some.inj h
  subst h
  exact retZ C hH (Or.inr rfl) dX6_joins_125
set_option maxHeartbeats 2000000 in
set_option maxRecDepth 20000 in
theorem mX6_joins (l : Launch) {D : va_G} {ca : Nat → ClassId} {A : Nat → Prop} {ad : Nat → Nat} {v0 : Int32} {v1 : Int32} {mm : Mm} {q : Int32 × Mm} (h : dX6_joins v0 v1 mm = some q) : Met l yX6_joins (wsOf yX6_joins cX6_joins 2 (some .boolean)) (rmk 1) (PcX WN ad ca WS D A [.int v0, .int v1] mm) (QcI WN ad ca WS D A pzZ q) 0 0 A := by
  unfold dX6_joins at h
  refine ent (by decide) (Nat.le_of_ble_eq_true rfl) (fun p e s m args below meth c hargs C hH ls hl => ?_)
  have hx := C.1
  have hb := C.2.1
  have hl : lv_has ls 2 [(0, .int v0), (1, .int v1)] := hl
  refine lv_iload_n hx hb dX6_joins_0 rfl (lv_at hl 0 rfl) ?_
  by_cases hc1_0 : v0 = 0
  · replace h := tT hc1_0 h
    refine lv_tableIn (tgt := 36) hx hb dX6_joins_1 (by rw [hc1_0]; decide) (by rw [hc1_0]; decide) (by rw [hc1_0]; rfl) (by decide) ?_
    refine lv_iload_n hx hb dX6_joins_36 rfl (lv_at hl 1 rfl) ?_
    refine lv_bipush (v := 124) hx hb dX6_joins_37 (by decide) ?_
    refine lv_icmp_ne (tgt := 46) hx hb dX6_joins_39 (by decide) (fun hc39 => ?_) (fun hc39 => ?_)
    · replace h := tF hc39 h
      refine lv_iconst (v := 0) hx hb dX6_joins_46 (by decide) ?_
      have h := Option.some.inj h
      subst h
      exact retZ C hH (Or.inl rfl) dX6_joins_47
    · replace h := tT hc39 h
      refine lv_iconst (v := 1) hx hb dX6_joins_42 (by decide) ?_
      refine lv_goto (tgt := 47) hx hb dX6_joins_43 (by decide) ?_
      have h := Option.some.inj h
      subst h
      exact retZ C hH (Or.inr rfl) dX6_joins_47
  · replace h := tF hc1_0 h
    by_cases hc1_1 : v0 = 1
    · replace h := tT hc1_1 h
      refine lv_tableIn (tgt := 48) hx hb dX6_joins_1 (by rw [hc1_1]; decide) (by rw [hc1_1]; decide) (by rw [hc1_1]; rfl) (by decide) ?_
      refine lv_iload_n hx hb dX6_joins_48 rfl (lv_at hl 1 rfl) ?_
      refine lv_bipush (v := 38) hx hb dX6_joins_49 (by decide) ?_
      refine lv_icmp_ne (tgt := 58) hx hb dX6_joins_51 (by decide) (fun hc51 => ?_) (fun hc51 => ?_)
      · replace h := tF hc51 h
        refine lv_iconst (v := 0) hx hb dX6_joins_58 (by decide) ?_
        have h := Option.some.inj h
        subst h
        exact retZ C hH (Or.inl rfl) dX6_joins_59
      · replace h := tT hc51 h
        refine lv_iconst (v := 1) hx hb dX6_joins_54 (by decide) ?_
        refine lv_goto (tgt := 59) hx hb dX6_joins_55 (by decide) ?_
        have h := Option.some.inj h
        subst h
        exact retZ C hH (Or.inr rfl) dX6_joins_59
    · replace h := tF hc1_1 h
      by_cases hc1_2 : v0 = 2
      · replace h := tT hc1_2 h
        refine lv_tableIn (tgt := 60) hx hb dX6_joins_1 (by rw [hc1_2]; decide) (by rw [hc1_2]; decide) (by rw [hc1_2]; rfl) (by decide) ?_
        refine lv_iload_n hx hb dX6_joins_60 rfl (lv_at hl 1 rfl) ?_
        refine lv_bipush (v := 60) hx hb dX6_joins_61 (by decide) ?_
        refine lv_icmp_eq (tgt := 78) hx hb dX6_joins_63 (by decide) (fun hc63 => ?_) (fun hc63 => ?_)
        · replace h := tT hc63 h
          exact wX6_joins_78 C h hH (lv_sub hl [] rfl)
        · replace h := tF hc63 h
          refine lv_iload_n hx hb dX6_joins_66 rfl (lv_at hl 1 rfl) ?_
          refine lv_bipush (v := 61) hx hb dX6_joins_67 (by decide) ?_
          refine lv_icmp_eq (tgt := 78) hx hb dX6_joins_69 (by decide) (fun hc69 => ?_) (fun hc69 => ?_)
          · replace h := tT hc69 h
            exact wX6_joins_78 C h hH (lv_sub hl [] rfl)
          · replace h := tF hc69 h
            refine lv_iload_n hx hb dX6_joins_72 rfl (lv_at hl 1 rfl) ?_
            refine lv_bipush (v := 62) hx hb dX6_joins_73 (by decide) ?_
            refine lv_icmp_ne (tgt := 82) hx hb dX6_joins_75 (by decide) (fun hc75 => ?_) (fun hc75 => ?_)
            · replace h := tF hc75 h
              refine lv_iconst (v := 0) hx hb dX6_joins_82 (by decide) ?_
              have h := Option.some.inj h
              subst h
              exact retZ C hH (Or.inl rfl) dX6_joins_83
            · replace h := tT hc75 h
              exact wX6_joins_78 C h hH (lv_sub hl [] rfl)
      · replace h := tF hc1_2 h
        by_cases hc1_3 : v0 = 3
        · replace h := tT hc1_3 h
          refine lv_tableIn (tgt := 84) hx hb dX6_joins_1 (by rw [hc1_3]; decide) (by rw [hc1_3]; decide) (by rw [hc1_3]; rfl) (by decide) ?_
          refine lv_iload_n hx hb dX6_joins_84 rfl (lv_at hl 1 rfl) ?_
          refine lv_bipush (v := 43) hx hb dX6_joins_85 (by decide) ?_
          refine lv_icmp_eq (tgt := 96) hx hb dX6_joins_87 (by decide) (fun hc87 => ?_) (fun hc87 => ?_)
          · replace h := tT hc87 h
            exact wX6_joins_96 C h hH (lv_sub hl [] rfl)
          · replace h := tF hc87 h
            refine lv_iload_n hx hb dX6_joins_90 rfl (lv_at hl 1 rfl) ?_
            refine lv_bipush (v := 45) hx hb dX6_joins_91 (by decide) ?_
            refine lv_icmp_ne (tgt := 100) hx hb dX6_joins_93 (by decide) (fun hc93 => ?_) (fun hc93 => ?_)
            · replace h := tF hc93 h
              refine lv_iconst (v := 0) hx hb dX6_joins_100 (by decide) ?_
              have h := Option.some.inj h
              subst h
              exact retZ C hH (Or.inl rfl) dX6_joins_101
            · replace h := tT hc93 h
              exact wX6_joins_96 C h hH (lv_sub hl [] rfl)
        · replace h := tF hc1_3 h
          by_cases hc1_4 : v0 = 4
          · replace h := tT hc1_4 h
            refine lv_tableIn (tgt := 102) hx hb dX6_joins_1 (by rw [hc1_4]; decide) (by rw [hc1_4]; decide) (by rw [hc1_4]; rfl) (by decide) ?_
            refine lv_iload_n hx hb dX6_joins_102 rfl (lv_at hl 1 rfl) ?_
            refine lv_bipush (v := 42) hx hb dX6_joins_103 (by decide) ?_
            refine lv_icmp_eq (tgt := 120) hx hb dX6_joins_105 (by decide) (fun hc105 => ?_) (fun hc105 => ?_)
            · replace h := tT hc105 h
              exact wX6_joins_120 C h hH (lv_sub hl [] rfl)
            · replace h := tF hc105 h
              refine lv_iload_n hx hb dX6_joins_108 rfl (lv_at hl 1 rfl) ?_
              refine lv_bipush (v := 47) hx hb dX6_joins_109 (by decide) ?_
              refine lv_icmp_eq (tgt := 120) hx hb dX6_joins_111 (by decide) (fun hc111 => ?_) (fun hc111 => ?_)
              · replace h := tT hc111 h
                exact wX6_joins_120 C h hH (lv_sub hl [] rfl)
              · replace h := tF hc111 h
                refine lv_iload_n hx hb dX6_joins_114 rfl (lv_at hl 1 rfl) ?_
                refine lv_bipush (v := 37) hx hb dX6_joins_115 (by decide) ?_
                refine lv_icmp_ne (tgt := 124) hx hb dX6_joins_117 (by decide) (fun hc117 => ?_) (fun hc117 => ?_)
                · replace h := tF hc117 h
                  refine lv_iconst (v := 0) hx hb dX6_joins_124 (by decide) ?_
                  have h := Option.some.inj h
                  subst h
                  exact retZ C hH (Or.inl rfl) dX6_joins_125
                · replace h := tT hc117 h
                  exact wX6_joins_120 C h hH (lv_sub hl [] rfl)
          · replace h := tF hc1_4 h
            have ghc1_0 := lv_neT (k := 0) (a := 0) hc1_0 rfl
            have ghc1_1 := lv_neT (k := 1) (a := 1) hc1_1 rfl
            have ghc1_2 := lv_neT (k := 2) (a := 2) hc1_2 rfl
            have ghc1_3 := lv_neT (k := 3) (a := 3) hc1_3 rfl
            have ghc1_4 := lv_neT (k := 4) (a := 4) hc1_4 rfl
            refine lv_tableOut (tgt := 126) hx hb dX6_joins_1 (by omega) (by decide) ?_
            refine lv_iconst (v := 0) hx hb dX6_joins_126 (by decide) ?_
            have h := Option.some.inj h
            subst h
            exact retZ C hH (Or.inl rfl) dX6_joins_127
set_option maxHeartbeats 2000000 in
set_option maxRecDepth 20000 in
theorem mX5_add (l : Launch) {D : va_G} {ca : Nat → ClassId} {A : Nat → Prop} {ad : Nat → Nat} {v0 : Nat} {v1 : Int32} {v2 : Int32} {mm : Mm} {q : Unit × Mm} (h : dX5_add v0 v1 v2 mm = some q) : Met l yX5_add (wsOf yX5_add cX5_add 3 none) (rmk 1) (PcX WN ad ca WS D A [.ref (ad v0), .int v1, .int v2] mm) (QcV WN ad ca WS D A q) 0 0 A := by
  unfold dX5_add at h
  refine ent (by decide) (Nat.le_of_ble_eq_true rfl) (fun p e s m args below meth c hargs C hH ls hl => ?_)
  have hx := C.1
  have hb := C.2.1
  have hl : lv_has ls 3 [(0, .ref (ad v0)), (1, .int v1), (2, .int v2)] := hl
  obtain ⟨ho0, h⟩ := tC h
  refine lv_aload_n hx hb dX5_add_0 rfl (lv_at hl 0 rfl) ?_
  refine rgI C hH (fiLA_RX5_20 ho0) dX5_add_1 ?_
  refine lv_sipush (v := 128) hx hb dX5_add_4 (by decide) ?_
  refine lv_icmp_ge (tgt := 40) hx hb dX5_add_7 (by decide) (fun hc7 => ?_) (fun hc7 => ?_)
  · replace h := tT hc7 h
    have h := Option.some.inj h
    subst h
    exact retV C hH dX5_add_40
  · replace h := tF hc7 h
    refine lv_aload_n hx hb dX5_add_10 rfl (lv_at hl 0 rfl) ?_
    refine rgS C hH (fsLA_RX5_9 ho0) dX5_add_11 ?_
    refine lv_aload_n hx hb dX5_add_14 rfl (lv_at hl 0 rfl) ?_
    refine rgI C hH (fiLA_RX5_20 ho0) dX5_add_15 ?_
    refine lv_iload_n hx hb dX5_add_18 rfl (lv_at hl 1 rfl) ?_
    obtain ⟨hi19, h⟩ := tC h
    refine rwC C hH (k := (Int32.toNatClampNeg (gI mm v0 3))) (la_lt ho0 1 (by decide)) (laE ho0).2.2.2.1 hi19 rfl dX5_add_19 (fun H locs hH => ?_)
    refine lv_aload_n hx hb dX5_add_20 rfl (lv_at hl 0 rfl) ?_
    refine rgS C hH (fsLA_RX5_13 ho0) dX5_add_21 ?_
    refine lv_aload_n hx hb dX5_add_24 rfl (lv_at hl 0 rfl) ?_
    refine rgI C hH (fiLA_RX5_20 ho0) dX5_add_25 ?_
    refine lv_iload_n hx hb dX5_add_28 rfl (lv_at hl 2 rfl) ?_
    obtain ⟨hi29, h⟩ := tC h
    refine rwI C hH (k := (Int32.toNatClampNeg (gI (sI mm (v0 + 1) (Int32.toNatClampNeg (gI mm v0 3)) (vp_nar .char v1)) v0 3))) (la_lt ho0 2 (by decide)) (laE ho0).2.2.2.2.1 hi29 rfl dX5_add_29 (fun H locs hH => ?_)
    refine lv_aload_n hx hb dX5_add_30 rfl (lv_at hl 0 rfl) ?_
    refine lv_dup hx hb dX5_add_31 rfl ?_
    refine rgI C hH (fiLA_RX5_20 ho0) dX5_add_32 ?_
    refine lv_iconst (v := 1) hx hb dX5_add_35 (by decide) ?_
    refine lv_iadd hx hb dX5_add_36 ?_
    refine rpI C hH (fpLA_RX5_20 ho0) rfl rfl dX5_add_37 (fun H locs hH => ?_)
    have h := Option.some.inj h
    subst h
    exact retV C hH dX5_add_40
set_option maxHeartbeats 2000000 in
set_option maxRecDepth 20000 in
theorem wX6_number_56 (C : Cx D ca A p s m args meth c cX6_number RX6 3 none) {q : Unit × Mm} {v1 : Int32} {mm : Mm} (h : DX6_number_56 v1 mm = some q) (hH : Hx WN ad ca WS D A s.heap mm H locs) (hl : lv_has ls 3 [(0, .ref (ad 15)), (1, .int v1)]) : W p l e (rmk 2) s m args below meth c H locs 0 0 (MQ below (QcV WN ad ca WS D A q) args s 0 0 A) (F0 m 56 ls []) := by
  unfold DX6_number_56 at h
  have hx := C.1
  have hb := C.2.1
  refine lv_aload_n hx hb dX6_number_56 rfl (lv_at hl 0 rfl) ?_
  refine rgD C hH fd_RX6_18_15 dX6_number_57 ?_
  refine lv_bipush (v := 35) hx hb dX6_number_60 (by decide) ?_
  refine lv_iload_n hx hb dX6_number_62 rfl (lv_at hl 1 rfl) ?_
  obtain ⟨hLa63, h⟩ := tC h
  obtain ⟨q63, e63, h⟩ := tB h
  refine rcV C hH hl.1 (mX5_add l e63) cf_RX6_50 (ro_la hLa63) (RR_of (by decide) (by decide)) rfl (rest := []) rfl (Nat.le_of_ble_eq_true rfl) dX6_number_63 ?_
  intro H locs hH
  have h := Option.some.inj h
  subst h
  exact retV C hH dX6_number_66
set_option maxHeartbeats 2000000 in
set_option maxRecDepth 20000 in
theorem wbX6_number_4 (C : Cx D ca A p s m args meth c cX6_number RX6 3 none) {q : Unit × Mm} {k4 : Int32 → Int32 → Mm → Option (Unit × Mm)} (hk4 : ∀ (v1 : Int32) (v2 : Int32) (mm : Mm), k4 v1 v2 mm = some q → ∀ (H : Heap) (locs : List Loc) (ls : Array Slot), Hx WN ad ca WS D A s.heap mm H locs → lv_has ls 3 [(0, .ref (ad 15)), (1, .int v1), (2, .int v2)] → W p l e (rmk 2) s m args below meth c H locs 0 0 (MQ below (QcV WN ad ca WS D A q) args s 0 0 A) (F0 m 4 ls [])) {v1 : Int32} {v2 : Int32} {mm : Mm} (h : BX6_number_4 k4 v1 v2 mm = some q) (hH : Hx WN ad ca WS D A s.heap mm H locs) (hl : lv_has ls 3 [(0, .ref (ad 15)), (1, .int v1), (2, .int v2)]) : W p l e (rmk 2) s m args below meth c H locs 0 0 (MQ below (QcV WN ad ca WS D A q) args s 0 0 A) (F0 m 4 ls []) := by
  unfold BX6_number_4 at h
  have hx := C.1
  have hb := C.2.1
  refine lv_iload_n hx hb dX6_number_4 rfl (lv_at hl 2 rfl) ?_
  refine lv_iconst (v := 4) hx hb dX6_number_5 (by decide) ?_
  refine lv_icmp_ge (tgt := 56) hx hb dX6_number_6 (by decide) (fun hc6 => ?_) (fun hc6 => ?_)
  · replace h := tT hc6 h
    exact wX6_number_56 C h hH (lv_sub hl [0, 1] rfl)
  · replace h := tF hc6 h
    refine lv_aload_n hx hb dX6_number_9 rfl (lv_at hl 0 rfl) ?_
    obtain ⟨q10, e10, h⟩ := tB h
    refine rcI C hH hl.1 (mX6_ahead l e10) cf_RX6_42 ro_15 (RR_of (by decide) (by decide)) rfl (rest := []) rfl (Nat.le_of_ble_eq_true rfl) dX6_number_10 ?_
    intro hz10 H locs hH
    refine lv_bipush (v := 48) hx hb dX6_number_13 (by decide) ?_
    refine lv_icmp_lt (tgt := 56) hx hb dX6_number_15 (by decide) (fun hc15 => ?_) (fun hc15 => ?_)
    · replace h := tT hc15 h
      exact wX6_number_56 C h hH (lv_sub hl [0, 1] rfl)
    · replace h := tF hc15 h
      refine lv_aload_n hx hb dX6_number_18 rfl (lv_at hl 0 rfl) ?_
      obtain ⟨q19, e19, h⟩ := tB h
      refine rcI C hH hl.1 (mX6_ahead l e19) cf_RX6_42 ro_15 (RR_of (by decide) (by decide)) rfl (rest := []) rfl (Nat.le_of_ble_eq_true rfl) dX6_number_19 ?_
      intro hz19 H locs hH
      refine lv_bipush (v := 57) hx hb dX6_number_22 (by decide) ?_
      refine lv_icmp_gt (tgt := 56) hx hb dX6_number_24 (by decide) (fun hc24 => ?_) (fun hc24 => ?_)
      · replace h := tT hc24 h
        exact wX6_number_56 C h hH (lv_sub hl [0, 1] rfl)
      · replace h := tF hc24 h
        refine lv_bipush (v := 10) hx hb dX6_number_27 (by decide) ?_
        refine lv_iload_n hx hb dX6_number_29 rfl (lv_at hl 1 rfl) ?_
        refine lv_imul hx hb dX6_number_30 ?_
        refine lv_aload_n hx hb dX6_number_31 rfl (lv_at hl 0 rfl) ?_
        obtain ⟨q32, e32, h⟩ := tB h
        refine rcI C hH hl.1 (mX6_ahead l e32) cf_RX6_42 ro_15 (RR_of (by decide) (by decide)) rfl (rest := [.int (10 * v1)]) rfl (Nat.le_of_ble_eq_true rfl) dX6_number_32 ?_
        intro hz32 H locs hH
        refine lv_iadd hx hb dX6_number_35 ?_
        refine lv_bipush (v := 48) hx hb dX6_number_36 (by decide) ?_
        refine lv_isub hx hb dX6_number_38 ?_
        refine lv_istore_n (lv' := [(1, .int (((10 * v1) + q32.1) - 48)), (0, .ref (ad 15)), (2, .int v2)]) hx hb dX6_number_39 rfl hl (by decide) rfl (fun ls hl => ?_)
        refine lv_aload_n hx hb dX6_number_40 rfl (lv_at hl 1 rfl) ?_
        refine lv_dup hx hb dX6_number_41 rfl ?_
        refine rgI C hH fi_RX6_29_15 dX6_number_42 ?_
        refine lv_iconst (v := 1) hx hb dX6_number_45 (by decide) ?_
        refine lv_iadd hx hb dX6_number_46 ?_
        refine rpI C hH fp_RX6_29_15 rfl rfl dX6_number_47 (fun H locs hH => ?_)
        refine lv_iinc (v := (v2 + 1)) (lv' := [(2, .int (v2 + 1)), (1, .int (((10 * v1) + q32.1) - 48)), (0, .ref (ad 15))]) hx hb dX6_number_50 hl (k := 2) rfl rfl (by decide) rfl (fun ls hl => ?_)
        refine lv_goto (tgt := 4) hx hb dX6_number_53 (by decide) ?_
        exact hk4 _ _ _ h _ _ _ hH (lv_sub hl [2, 1, 0] rfl)
set_option maxHeartbeats 2000000 in
set_option maxRecDepth 20000 in
theorem wX6_number_4 (C : Cx D ca A p s m args meth c cX6_number RX6 3 none) {q : Unit × Mm} : ∀ (N : Nat) (v1 : Int32) (v2 : Int32) (mm : Mm), DX6_number_4 N v1 v2 mm = some q → ∀ (H : Heap) (locs : List Loc) (ls : Array Slot), Hx WN ad ca WS D A s.heap mm H locs → lv_has ls 3 [(0, .ref (ad 15)), (1, .int v1), (2, .int v2)] → W p l e (rmk 2) s m args below meth c H locs 0 0 (MQ below (QcV WN ad ca WS D A q) args s 0 0 A) (F0 m 4 ls []) := by
  intro N
  induction N with
  | zero =>
    intro v1 v2 mm h
    have h2 : (none : Option (Unit × Mm)) = some q := h
    cases h2
  | succ N ih =>
    intro v1 v2 mm h H locs ls hH hl
    exact wbX6_number_4 C ih h hH hl
set_option maxHeartbeats 2000000 in
set_option maxRecDepth 20000 in
theorem mX6_number (l : Launch) {D : va_G} {ca : Nat → ClassId} {A : Nat → Prop} {ad : Nat → Nat} {mm : Mm} {q : Unit × Mm} (h : dX6_number mm = some q) : Met l yX6_number (wsOf yX6_number cX6_number 3 none) (rmk 2) (PcX WN ad ca WS D A [.ref (ad 15)] mm) (QcV WN ad ca WS D A q) 0 0 A := by
  unfold dX6_number at h
  refine ent (by decide) (Nat.le_of_ble_eq_true rfl) (fun p e s m args below meth c hargs C hH ls hl => ?_)
  have hx := C.1
  have hb := C.2.1
  have hl : lv_has ls 3 [(0, .ref (ad 15))] := hl
  refine lv_iconst (v := 0) hx hb dX6_number_0 (by decide) ?_
  refine lv_istore_n (lv' := [(1, .int 0), (0, .ref (ad 15))]) hx hb dX6_number_1 rfl hl (by decide) rfl (fun ls hl => ?_)
  refine lv_iconst (v := 0) hx hb dX6_number_2 (by decide) ?_
  refine lv_istore_n (lv' := [(2, .int 0), (1, .int 0), (0, .ref (ad 15))]) hx hb dX6_number_3 rfl hl (by decide) rfl (fun ls hl => ?_)
  exact wX6_number_4 C FU _ _ _ h _ _ _ hH (lv_sub hl [2, 1, 0] rfl)
set_option maxHeartbeats 2000000 in
set_option maxRecDepth 20000 in
theorem wX6_passes_36 (C : Cx D ca A p s m args meth c cX6_passes RX6 3 (some .boolean)) {q : Int32 × Mm} {v2 : Int32} {s0 : Int32} {s1 : Int32} {mm : Mm} (h : DX6_passes_36 v2 s0 s1 mm = some q) (hH : Hx WN ad ca WS D A s.heap mm H locs) (hl : lv_has ls 3 [(2, .int v2)]) : W p l e (rmk 2) s m args below meth c H locs 0 0 (MQ below (QcI WN ad ca WS D A pzZ q) args s 0 0 A) (F0 m 36 ls [.int s0, .int s1, .ref (ad 15)]) := by
  unfold DX6_passes_36 at h
  have hx := C.1
  have hb := C.2.1
  refine lv_iadd hx hb dX6_passes_36 ?_
  refine rpI C hH fp_RX6_29_15 rfl rfl dX6_passes_37 (fun H locs hH => ?_)
  refine lv_iload_n hx hb dX6_passes_40 rfl (lv_at hl 0 rfl) ?_
  obtain ⟨hr41, h⟩ := tC h
  have h := Option.some.inj h
  subst h
  exact retZ C hH hr41 dX6_passes_41
set_option maxHeartbeats 2000000 in
set_option maxRecDepth 20000 in
theorem wX6_passes_21 (C : Cx D ca A p s m args meth c cX6_passes RX6 3 (some .boolean)) {q : Int32 × Mm} {s0 : Int32} {mm : Mm} (h : DX6_passes_21 s0 mm = some q) (hH : Hx WN ad ca WS D A s.heap mm H locs) (hl : lv_has ls 3 [(0, .ref (ad 15))]) : W p l e (rmk 2) s m args below meth c H locs 0 0 (MQ below (QcI WN ad ca WS D A pzZ q) args s 0 0 A) (F0 m 21 ls [.int s0]) := by
  unfold DX6_passes_21 at h
  have hx := C.1
  have hb := C.2.1
  refine lv_istore_n (lv' := [(2, .int s0), (0, .ref (ad 15))]) hx hb dX6_passes_21 rfl hl (by decide) rfl (fun ls hl => ?_)
  refine lv_aload_n hx hb dX6_passes_22 rfl (lv_at hl 1 rfl) ?_
  refine lv_dup hx hb dX6_passes_23 rfl ?_
  refine rgI C hH fi_RX6_29_15 dX6_passes_24 ?_
  refine lv_iload_n hx hb dX6_passes_27 rfl (lv_at hl 0 rfl) ?_
  refine lv_if_eq (tgt := 35) hx hb dX6_passes_28 (by decide) (fun hc28 => ?_) (fun hc28 => ?_)
  · replace h := tT hc28 h
    refine lv_iconst (v := 0) hx hb dX6_passes_35 (by decide) ?_
    exact wX6_passes_36 C h hH (lv_sub hl [0] rfl)
  · replace h := tF hc28 h
    refine lv_iconst (v := 1) hx hb dX6_passes_31 (by decide) ?_
    refine lv_goto (tgt := 36) hx hb dX6_passes_32 (by decide) ?_
    exact wX6_passes_36 C h hH (lv_sub hl [0] rfl)
set_option maxHeartbeats 2000000 in
set_option maxRecDepth 20000 in
theorem wX6_passes_20 (C : Cx D ca A p s m args meth c cX6_passes RX6 3 (some .boolean)) {q : Int32 × Mm} {mm : Mm} (h : DX6_passes_20 mm = some q) (hH : Hx WN ad ca WS D A s.heap mm H locs) (hl : lv_has ls 3 [(0, .ref (ad 15))]) : W p l e (rmk 2) s m args below meth c H locs 0 0 (MQ below (QcI WN ad ca WS D A pzZ q) args s 0 0 A) (F0 m 20 ls []) := by
  unfold DX6_passes_20 at h
  have hx := C.1
  have hb := C.2.1
  refine lv_iconst (v := 0) hx hb dX6_passes_20 (by decide) ?_
  exact wX6_passes_21 C h hH (lv_sub hl [0] rfl)
set_option maxHeartbeats 2000000 in
set_option maxRecDepth 20000 in
theorem mX6_passes (l : Launch) {D : va_G} {ca : Nat → ClassId} {A : Nat → Prop} {ad : Nat → Nat} {v1 : Int32} {mm : Mm} {q : Int32 × Mm} (h : dX6_passes v1 mm = some q) : Met l yX6_passes (wsOf yX6_passes cX6_passes 3 (some .boolean)) (rmk 2) (PcX WN ad ca WS D A [.ref (ad 15), .int v1] mm) (QcI WN ad ca WS D A pzZ q) 0 0 A := by
  unfold dX6_passes at h
  refine ent (by decide) (Nat.le_of_ble_eq_true rfl) (fun p e s m args below meth c hargs C hH ls hl => ?_)
  have hx := C.1
  have hb := C.2.1
  have hl : lv_has ls 3 [(0, .ref (ad 15)), (1, .int v1)] := hl
  refine lv_aload_n hx hb dX6_passes_0 rfl (lv_at hl 0 rfl) ?_
  refine rgI C hH fi_RX6_32_15 dX6_passes_1 ?_
  refine lv_iconst (v := (-1)) hx hb dX6_passes_4 (by decide) ?_
  refine lv_icmp_ne (tgt := 20) hx hb dX6_passes_5 (by decide) (fun hc5 => ?_) (fun hc5 => ?_)
  · replace h := tF hc5 h
    exact wX6_passes_20 C h hH (lv_sub hl [0] rfl)
  · replace h := tT hc5 h
    refine lv_aload_n hx hb dX6_passes_8 rfl (lv_at hl 0 rfl) ?_
    obtain ⟨q9, e9, h⟩ := tB h
    refine rcI C hH hl.1 (mX6_ahead l e9) cf_RX6_42 ro_15 (RR_of (by decide) (by decide)) rfl (rest := []) rfl (Nat.le_of_ble_eq_true rfl) dX6_passes_9 ?_
    intro hz9 H locs hH
    refine lv_iload_n hx hb dX6_passes_12 rfl (lv_at hl 1 rfl) ?_
    refine lv_icmp_ne (tgt := 20) hx hb dX6_passes_13 (by decide) (fun hc13 => ?_) (fun hc13 => ?_)
    · replace h := tF hc13 h
      exact wX6_passes_20 C h hH (lv_sub hl [0] rfl)
    · replace h := tT hc13 h
      refine lv_iconst (v := 1) hx hb dX6_passes_16 (by decide) ?_
      refine lv_goto (tgt := 21) hx hb dX6_passes_17 (by decide) ?_
      exact wX6_passes_21 C h hH (lv_sub hl [0] rfl)
set_option maxHeartbeats 2000000 in
set_option maxRecDepth 20000 in
theorem wbX6_level_34 (C : Cx D ca A p s m args meth c cX6_level RX6 6 none) {q : Unit × Mm} {lev : Nat} (hlev : 8 ≤ lev + 1) {r_X6_level : Int32 → Int32 → Mm → Option (Unit × Mm)} {r_X6_operand : Int32 → Mm → Option (Unit × Mm)} {r_X6_opened : Int32 → Int32 → Mm → Option (Unit × Mm)} (hr_X6_level : ∀ (v1 : Int32) (v2 : Int32) (mm : Mm) (q : Unit × Mm), r_X6_level v1 v2 mm = some q → Met l yX6_level (wsOf yX6_level cX6_level 6 none) (rmk lev) (PcX WN ad ca WS D A [.ref (ad 15), .int v1, .int v2] mm) (QcV WN ad ca WS D A q) 0 0 A) (hr_X6_operand : ∀ (v1 : Int32) (mm : Mm) (q : Unit × Mm), r_X6_operand v1 mm = some q → Met l yX6_operand (wsOf yX6_operand cX6_operand 3 none) (rmk lev) (PcX WN ad ca WS D A [.ref (ad 15), .int v1] mm) (QcV WN ad ca WS D A q) 0 0 A) (hr_X6_opened : ∀ (v1 : Int32) (v2 : Int32) (mm : Mm) (q : Unit × Mm), r_X6_opened v1 v2 mm = some q → Met l yX6_opened (wsOf yX6_opened cX6_opened 3 none) (rmk lev) (PcX WN ad ca WS D A [.ref (ad 15), .int v1, .int v2] mm) (QcV WN ad ca WS D A q) 0 0 A) {k34 : Int32 → Int32 → Int32 → Int32 → Mm → Option (Unit × Mm)} (hk34 : ∀ (v1 : Int32) (v2 : Int32) (v3 : Int32) (v4 : Int32) (mm : Mm), k34 v1 v2 v3 v4 mm = some q → ∀ (H : Heap) (locs : List Loc) (ls : Array Slot), Hx WN ad ca WS D A s.heap mm H locs → lv_has ls 6 [(0, .ref (ad 15)), (1, .int v1), (2, .int v2), (3, .int v3), (4, .int v4)] → W p l e (rmk (lev + 1)) s m args below meth c H locs 0 0 (MQ below (QcV WN ad ca WS D A q) args s 0 0 A) (F0 m 34 ls [])) {v1 : Int32} {v2 : Int32} {v3 : Int32} {v4 : Int32} {mm : Mm} (h : BX6_level_34 r_X6_level r_X6_operand r_X6_opened k34 v1 v2 v3 v4 mm = some q) (hH : Hx WN ad ca WS D A s.heap mm H locs) (hl : lv_has ls 6 [(0, .ref (ad 15)), (1, .int v1), (2, .int v2), (3, .int v3), (4, .int v4)]) : W p l e (rmk (lev + 1)) s m args below meth c H locs 0 0 (MQ below (QcV WN ad ca WS D A q) args s 0 0 A) (F0 m 34 ls []) := by
  unfold BX6_level_34 at h
  have hx := C.1
  have hb := C.2.1
  refine lv_iload hx hb dX6_level_34 (lv_at hl 4 rfl) ?_
  refine lv_iload_n hx hb dX6_level_36 rfl (lv_at hl 3 rfl) ?_
  refine lv_icmp_ge (tgt := 104) hx hb dX6_level_37 (by decide) (fun hc37 => ?_) (fun hc37 => ?_)
  · replace h := tT hc37 h
    have h := Option.some.inj h
    subst h
    exact retV C hH dX6_level_104
  · replace h := tF hc37 h
    refine lv_aload_n hx hb dX6_level_40 rfl (lv_at hl 0 rfl) ?_
    refine rgI C hH fi_RX6_32_15 dX6_level_41 ?_
    refine lv_iconst (v := (-1)) hx hb dX6_level_44 (by decide) ?_
    refine lv_icmp_ne (tgt := 104) hx hb dX6_level_45 (by decide) (fun hc45 => ?_) (fun hc45 => ?_)
    · replace h := tF hc45 h
      have h := Option.some.inj h
      subst h
      exact retV C hH dX6_level_104
    · replace h := tT hc45 h
      refine lv_iload_n hx hb dX6_level_48 rfl (lv_at hl 1 rfl) ?_
      refine lv_aload_n hx hb dX6_level_49 rfl (lv_at hl 0 rfl) ?_
      obtain ⟨q50, e50, h⟩ := tB h
      refine rcI C hH hl.1 (mX6_ahead l e50) cf_RX6_42 ro_15 (RR_of (by omega) (by decide)) rfl (rest := [.int v1]) rfl (Nat.le_of_ble_eq_true rfl) dX6_level_50 ?_
      intro hz50 H locs hH
      obtain ⟨q53, e53, h⟩ := tB h
      refine rsI C hH hl.1 (mX6_joins l e53) cs_RX6_58 (RR_of (by omega) (by decide)) rfl (rest := []) rfl (Nat.le_of_ble_eq_true rfl) dX6_level_53 ?_
      intro hz53 H locs hH
      refine lv_if_eq (tgt := 104) hx hb dX6_level_56 (by decide) (fun hc56 => ?_) (fun hc56 => ?_)
      · replace h := tT hc56 h
        have h := Option.some.inj h
        subst h
        exact retV C hH dX6_level_104
      · replace h := tF hc56 h
        refine lv_aload_n hx hb dX6_level_59 rfl (lv_at hl 0 rfl) ?_
        refine rgS C hH fs_RX6_11_15 dX6_level_60 ?_
        refine lv_aload_n hx hb dX6_level_63 rfl (lv_at hl 0 rfl) ?_
        refine rgI C hH fi_RX6_29_15 dX6_level_64 ?_
        obtain ⟨hi67, h⟩ := tC h
        refine raC C hH (k := (Int32.toNatClampNeg (gI q53.2 15 2))) (by decide) (show WS 16 = .inr (1, 120, 0) from rfl) hi67 rfl dX6_level_67 ?_
        refine lv_istore (lv' := [(5, .int (gI q53.2 16 (Int32.toNatClampNeg (gI q53.2 15 2)))), (0, .ref (ad 15)), (1, .int v1), (2, .int v2), (3, .int v3), (4, .int v4)]) hx hb dX6_level_68 hl (by decide) rfl (fun ls hl => ?_)
        refine lv_aload_n hx hb dX6_level_70 rfl (lv_at hl 1 rfl) ?_
        refine lv_dup hx hb dX6_level_71 rfl ?_
        refine rgI C hH fi_RX6_29_15 dX6_level_72 ?_
        refine lv_iconst (v := 1) hx hb dX6_level_75 (by decide) ?_
        refine lv_iadd hx hb dX6_level_76 ?_
        refine rpI C hH fp_RX6_29_15 rfl rfl dX6_level_77 (fun H locs hH => ?_)
        refine lv_aload_n hx hb dX6_level_80 rfl (lv_at hl 1 rfl) ?_
        refine lv_iload_n hx hb dX6_level_81 rfl (lv_at hl 2 rfl) ?_
        refine lv_iconst (v := 1) hx hb dX6_level_82 (by decide) ?_
        refine lv_iadd hx hb dX6_level_83 ?_
        refine lv_iload_n hx hb dX6_level_84 rfl (lv_at hl 3 rfl) ?_
        obtain ⟨q85, e85, h⟩ := tB h
        refine rcV C hH hl.1 (hr_X6_level _ _ _ _ e85) cf_RX6_46 ro_15 (RR_of (by omega) (by decide)) rfl (rest := []) rfl (Nat.le_of_ble_eq_true rfl) dX6_level_85 ?_
        intro H locs hH
        refine lv_aload_n hx hb dX6_level_88 rfl (lv_at hl 1 rfl) ?_
        refine rgD C hH fd_RX6_18_15 dX6_level_89 ?_
        refine lv_iload hx hb dX6_level_92 (lv_at hl 0 rfl) ?_
        refine lv_iconst (v := 0) hx hb dX6_level_94 (by decide) ?_
        obtain ⟨hLa95, h⟩ := tC h
        obtain ⟨q95, e95, h⟩ := tB h
        refine rcV C hH hl.1 (mX5_add l e95) cf_RX6_50 (ro_la hLa95) (RR_of (by omega) (by decide)) rfl (rest := []) rfl (Nat.le_of_ble_eq_true rfl) dX6_level_95 ?_
        intro H locs hH
        refine lv_iinc (v := (v4 + 1)) (lv' := [(4, .int (v4 + 1)), (5, .int (gI q53.2 16 (Int32.toNatClampNeg (gI q53.2 15 2)))), (0, .ref (ad 15)), (1, .int v1), (2, .int v2), (3, .int v3)]) hx hb dX6_level_98 hl (k := 5) rfl rfl (by decide) rfl (fun ls hl => ?_)
        refine lv_goto (tgt := 34) hx hb dX6_level_101 (by decide) ?_
        exact hk34 _ _ _ _ _ h _ _ _ hH (lv_sub hl [2, 3, 4, 5, 0] rfl)
set_option maxHeartbeats 2000000 in
set_option maxRecDepth 20000 in
theorem wX6_level_34 (C : Cx D ca A p s m args meth c cX6_level RX6 6 none) {q : Unit × Mm} {lev : Nat} (hlev : 8 ≤ lev + 1) {r_X6_level : Int32 → Int32 → Mm → Option (Unit × Mm)} {r_X6_operand : Int32 → Mm → Option (Unit × Mm)} {r_X6_opened : Int32 → Int32 → Mm → Option (Unit × Mm)} (hr_X6_level : ∀ (v1 : Int32) (v2 : Int32) (mm : Mm) (q : Unit × Mm), r_X6_level v1 v2 mm = some q → Met l yX6_level (wsOf yX6_level cX6_level 6 none) (rmk lev) (PcX WN ad ca WS D A [.ref (ad 15), .int v1, .int v2] mm) (QcV WN ad ca WS D A q) 0 0 A) (hr_X6_operand : ∀ (v1 : Int32) (mm : Mm) (q : Unit × Mm), r_X6_operand v1 mm = some q → Met l yX6_operand (wsOf yX6_operand cX6_operand 3 none) (rmk lev) (PcX WN ad ca WS D A [.ref (ad 15), .int v1] mm) (QcV WN ad ca WS D A q) 0 0 A) (hr_X6_opened : ∀ (v1 : Int32) (v2 : Int32) (mm : Mm) (q : Unit × Mm), r_X6_opened v1 v2 mm = some q → Met l yX6_opened (wsOf yX6_opened cX6_opened 3 none) (rmk lev) (PcX WN ad ca WS D A [.ref (ad 15), .int v1, .int v2] mm) (QcV WN ad ca WS D A q) 0 0 A) : ∀ (N : Nat) (v1 : Int32) (v2 : Int32) (v3 : Int32) (v4 : Int32) (mm : Mm), DX6_level_34 r_X6_level r_X6_operand r_X6_opened N v1 v2 v3 v4 mm = some q → ∀ (H : Heap) (locs : List Loc) (ls : Array Slot), Hx WN ad ca WS D A s.heap mm H locs → lv_has ls 6 [(0, .ref (ad 15)), (1, .int v1), (2, .int v2), (3, .int v3), (4, .int v4)] → W p l e (rmk (lev + 1)) s m args below meth c H locs 0 0 (MQ below (QcV WN ad ca WS D A q) args s 0 0 A) (F0 m 34 ls []) := by
  intro N
  induction N with
  | zero =>
    intro v1 v2 v3 v4 mm h
    have h2 : (none : Option (Unit × Mm)) = some q := h
    cases h2
  | succ N ih =>
    intro v1 v2 v3 v4 mm h H locs ls hH hl
    exact wbX6_level_34 C hlev hr_X6_level hr_X6_operand hr_X6_opened ih h hH hl
set_option maxHeartbeats 2000000 in
set_option maxRecDepth 20000 in
theorem wX6_level_30 (C : Cx D ca A p s m args meth c cX6_level RX6 6 none) {q : Unit × Mm} {lev : Nat} (hlev : 8 ≤ lev + 1) {r_X6_level : Int32 → Int32 → Mm → Option (Unit × Mm)} {r_X6_operand : Int32 → Mm → Option (Unit × Mm)} {r_X6_opened : Int32 → Int32 → Mm → Option (Unit × Mm)} (hr_X6_level : ∀ (v1 : Int32) (v2 : Int32) (mm : Mm) (q : Unit × Mm), r_X6_level v1 v2 mm = some q → Met l yX6_level (wsOf yX6_level cX6_level 6 none) (rmk lev) (PcX WN ad ca WS D A [.ref (ad 15), .int v1, .int v2] mm) (QcV WN ad ca WS D A q) 0 0 A) (hr_X6_operand : ∀ (v1 : Int32) (mm : Mm) (q : Unit × Mm), r_X6_operand v1 mm = some q → Met l yX6_operand (wsOf yX6_operand cX6_operand 3 none) (rmk lev) (PcX WN ad ca WS D A [.ref (ad 15), .int v1] mm) (QcV WN ad ca WS D A q) 0 0 A) (hr_X6_opened : ∀ (v1 : Int32) (v2 : Int32) (mm : Mm) (q : Unit × Mm), r_X6_opened v1 v2 mm = some q → Met l yX6_opened (wsOf yX6_opened cX6_opened 3 none) (rmk lev) (PcX WN ad ca WS D A [.ref (ad 15), .int v1, .int v2] mm) (QcV WN ad ca WS D A q) 0 0 A) {v1 : Int32} {v2 : Int32} {s0 : Int32} {mm : Mm} (h : DX6_level_30 r_X6_level r_X6_operand r_X6_opened v1 v2 s0 mm = some q) (hH : Hx WN ad ca WS D A s.heap mm H locs) (hl : lv_has ls 6 [(0, .ref (ad 15)), (1, .int v1), (2, .int v2)]) : W p l e (rmk (lev + 1)) s m args below meth c H locs 0 0 (MQ below (QcV WN ad ca WS D A q) args s 0 0 A) (F0 m 30 ls [.int s0]) := by
  unfold DX6_level_30 at h
  have hx := C.1
  have hb := C.2.1
  refine lv_istore_n (lv' := [(3, .int s0), (0, .ref (ad 15)), (1, .int v1), (2, .int v2)]) hx hb dX6_level_30 rfl hl (by decide) rfl (fun ls hl => ?_)
  refine lv_iconst (v := 0) hx hb dX6_level_31 (by decide) ?_
  refine lv_istore (lv' := [(4, .int 0), (3, .int s0), (0, .ref (ad 15)), (1, .int v1), (2, .int v2)]) hx hb dX6_level_32 hl (by decide) rfl (fun ls hl => ?_)
  exact wX6_level_34 C hlev hr_X6_level hr_X6_operand hr_X6_opened FU _ _ _ _ _ h _ _ _ hH (lv_sub hl [2, 3, 4, 1, 0] rfl)
set_option maxHeartbeats 2000000 in
set_option maxRecDepth 20000 in
theorem mbX6_level (l : Launch) {D : va_G} {ca : Nat → ClassId} {A : Nat → Prop} {ad : Nat → Nat} {lev : Nat} (hlev : 8 ≤ lev + 1) {r_X6_level : Int32 → Int32 → Mm → Option (Unit × Mm)} {r_X6_operand : Int32 → Mm → Option (Unit × Mm)} {r_X6_opened : Int32 → Int32 → Mm → Option (Unit × Mm)} (hr_X6_level : ∀ (v1 : Int32) (v2 : Int32) (mm : Mm) (q : Unit × Mm), r_X6_level v1 v2 mm = some q → Met l yX6_level (wsOf yX6_level cX6_level 6 none) (rmk lev) (PcX WN ad ca WS D A [.ref (ad 15), .int v1, .int v2] mm) (QcV WN ad ca WS D A q) 0 0 A) (hr_X6_operand : ∀ (v1 : Int32) (mm : Mm) (q : Unit × Mm), r_X6_operand v1 mm = some q → Met l yX6_operand (wsOf yX6_operand cX6_operand 3 none) (rmk lev) (PcX WN ad ca WS D A [.ref (ad 15), .int v1] mm) (QcV WN ad ca WS D A q) 0 0 A) (hr_X6_opened : ∀ (v1 : Int32) (v2 : Int32) (mm : Mm) (q : Unit × Mm), r_X6_opened v1 v2 mm = some q → Met l yX6_opened (wsOf yX6_opened cX6_opened 3 none) (rmk lev) (PcX WN ad ca WS D A [.ref (ad 15), .int v1, .int v2] mm) (QcV WN ad ca WS D A q) 0 0 A) {v1 : Int32} {v2 : Int32} {mm : Mm} {q : Unit × Mm} (h : bX6_level r_X6_level r_X6_operand r_X6_opened v1 v2 mm = some q) : Met l yX6_level (wsOf yX6_level cX6_level 6 none) (rmk (lev + 1)) (PcX WN ad ca WS D A [.ref (ad 15), .int v1, .int v2] mm) (QcV WN ad ca WS D A q) 0 0 A := by
  unfold bX6_level at h
  refine ent (by decide) (Nat.le_of_ble_eq_true rfl) (fun p e s m args below meth c hargs C hH ls hl => ?_)
  have hx := C.1
  have hb := C.2.1
  have hl : lv_has ls 6 [(0, .ref (ad 15)), (1, .int v1), (2, .int v2)] := hl
  refine lv_iload_n hx hb dX6_level_0 rfl (lv_at hl 1 rfl) ?_
  refine lv_iconst (v := 5) hx hb dX6_level_1 (by decide) ?_
  refine lv_icmp_lt (tgt := 11) hx hb dX6_level_2 (by decide) (fun hc2 => ?_) (fun hc2 => ?_)
  · replace h := tT hc2 h
    refine lv_aload_n hx hb dX6_level_11 rfl (lv_at hl 0 rfl) ?_
    refine lv_iload_n hx hb dX6_level_12 rfl (lv_at hl 1 rfl) ?_
    refine lv_iconst (v := 1) hx hb dX6_level_13 (by decide) ?_
    refine lv_iadd hx hb dX6_level_14 ?_
    refine lv_iload_n hx hb dX6_level_15 rfl (lv_at hl 2 rfl) ?_
    obtain ⟨q16, e16, h⟩ := tB h
    refine rcV C hH hl.1 (hr_X6_level _ _ _ _ e16) cf_RX6_46 ro_15 (RR_of (by omega) (by decide)) rfl (rest := []) rfl (Nat.le_of_ble_eq_true rfl) dX6_level_16 ?_
    intro H locs hH
    refine lv_iload_n hx hb dX6_level_19 rfl (lv_at hl 1 rfl) ?_
    refine lv_iconst (v := 2) hx hb dX6_level_20 (by decide) ?_
    refine lv_icmp_ne (tgt := 28) hx hb dX6_level_21 (by decide) (fun hc21 => ?_) (fun hc21 => ?_)
    · replace h := tF hc21 h
      refine lv_bipush (v := 120) hx hb dX6_level_28 (by decide) ?_
      exact wX6_level_30 C hlev hr_X6_level hr_X6_operand hr_X6_opened h hH (lv_sub hl [0, 1, 2] rfl)
    · replace h := tT hc21 h
      refine lv_iconst (v := 1) hx hb dX6_level_24 (by decide) ?_
      refine lv_goto (tgt := 30) hx hb dX6_level_25 (by decide) ?_
      exact wX6_level_30 C hlev hr_X6_level hr_X6_operand hr_X6_opened h hH (lv_sub hl [0, 1, 2] rfl)
  · replace h := tF hc2 h
    refine lv_aload_n hx hb dX6_level_5 rfl (lv_at hl 0 rfl) ?_
    refine lv_iload_n hx hb dX6_level_6 rfl (lv_at hl 2 rfl) ?_
    obtain ⟨q7, e7, h⟩ := tB h
    refine rcV C hH hl.1 (hr_X6_operand _ _ _ e7) cf_RX6_54 ro_15 (RR_of (by omega) (by decide)) rfl (rest := []) rfl (Nat.le_of_ble_eq_true rfl) dX6_level_7 ?_
    intro H locs hH
    have h := Option.some.inj h
    subst h
    exact retV C hH dX6_level_10
set_option maxHeartbeats 2000000 in
set_option maxRecDepth 20000 in
theorem wX6_operand_122 (C : Cx D ca A p s m args meth c cX6_operand RX6 3 none) {q : Unit × Mm} {lev : Nat} (hlev : 8 ≤ lev + 1) {r_X6_level : Int32 → Int32 → Mm → Option (Unit × Mm)} {r_X6_operand : Int32 → Mm → Option (Unit × Mm)} {r_X6_opened : Int32 → Int32 → Mm → Option (Unit × Mm)} (hr_X6_level : ∀ (v1 : Int32) (v2 : Int32) (mm : Mm) (q : Unit × Mm), r_X6_level v1 v2 mm = some q → Met l yX6_level (wsOf yX6_level cX6_level 6 none) (rmk lev) (PcX WN ad ca WS D A [.ref (ad 15), .int v1, .int v2] mm) (QcV WN ad ca WS D A q) 0 0 A) (hr_X6_operand : ∀ (v1 : Int32) (mm : Mm) (q : Unit × Mm), r_X6_operand v1 mm = some q → Met l yX6_operand (wsOf yX6_operand cX6_operand 3 none) (rmk lev) (PcX WN ad ca WS D A [.ref (ad 15), .int v1] mm) (QcV WN ad ca WS D A q) 0 0 A) (hr_X6_opened : ∀ (v1 : Int32) (v2 : Int32) (mm : Mm) (q : Unit × Mm), r_X6_opened v1 v2 mm = some q → Met l yX6_opened (wsOf yX6_opened cX6_opened 3 none) (rmk lev) (PcX WN ad ca WS D A [.ref (ad 15), .int v1, .int v2] mm) (QcV WN ad ca WS D A q) 0 0 A) {mm : Mm} (h : DX6_operand_122 r_X6_level r_X6_operand r_X6_opened mm = some q) (hH : Hx WN ad ca WS D A s.heap mm H locs) (hl : lv_has ls 3 [(0, .ref (ad 15))]) : W p l e (rmk (lev + 1)) s m args below meth c H locs 0 0 (MQ below (QcV WN ad ca WS D A q) args s 0 0 A) (F0 m 122 ls []) := by
  unfold DX6_operand_122 at h
  have hx := C.1
  have hb := C.2.1
  refine lv_aload_n hx hb dX6_operand_122 rfl (lv_at hl 0 rfl) ?_
  refine lv_aload_n hx hb dX6_operand_123 rfl (lv_at hl 0 rfl) ?_
  refine rgI C hH fi_RX6_29_15 dX6_operand_124 ?_
  refine rpI C hH fp_RX6_32_15 rfl rfl dX6_operand_127 (fun H locs hH => ?_)
  have h := Option.some.inj h
  subst h
  exact retV C hH dX6_operand_130
set_option maxHeartbeats 2000000 in
set_option maxRecDepth 20000 in
theorem wX6_operand_100 (C : Cx D ca A p s m args meth c cX6_operand RX6 3 none) {q : Unit × Mm} {lev : Nat} (hlev : 8 ≤ lev + 1) {r_X6_level : Int32 → Int32 → Mm → Option (Unit × Mm)} {r_X6_operand : Int32 → Mm → Option (Unit × Mm)} {r_X6_opened : Int32 → Int32 → Mm → Option (Unit × Mm)} (hr_X6_level : ∀ (v1 : Int32) (v2 : Int32) (mm : Mm) (q : Unit × Mm), r_X6_level v1 v2 mm = some q → Met l yX6_level (wsOf yX6_level cX6_level 6 none) (rmk lev) (PcX WN ad ca WS D A [.ref (ad 15), .int v1, .int v2] mm) (QcV WN ad ca WS D A q) 0 0 A) (hr_X6_operand : ∀ (v1 : Int32) (mm : Mm) (q : Unit × Mm), r_X6_operand v1 mm = some q → Met l yX6_operand (wsOf yX6_operand cX6_operand 3 none) (rmk lev) (PcX WN ad ca WS D A [.ref (ad 15), .int v1] mm) (QcV WN ad ca WS D A q) 0 0 A) (hr_X6_opened : ∀ (v1 : Int32) (v2 : Int32) (mm : Mm) (q : Unit × Mm), r_X6_opened v1 v2 mm = some q → Met l yX6_opened (wsOf yX6_opened cX6_opened 3 none) (rmk lev) (PcX WN ad ca WS D A [.ref (ad 15), .int v1, .int v2] mm) (QcV WN ad ca WS D A q) 0 0 A) {v1 : Int32} {v2 : Int32} {mm : Mm} (h : DX6_operand_100 r_X6_level r_X6_operand r_X6_opened v1 v2 mm = some q) (hH : Hx WN ad ca WS D A s.heap mm H locs) (hl : lv_has ls 3 [(0, .ref (ad 15)), (1, .int v1), (2, .int v2)]) : W p l e (rmk (lev + 1)) s m args below meth c H locs 0 0 (MQ below (QcV WN ad ca WS D A q) args s 0 0 A) (F0 m 100 ls []) := by
  unfold DX6_operand_100 at h
  have hx := C.1
  have hb := C.2.1
  refine lv_aload_n hx hb dX6_operand_100 rfl (lv_at hl 0 rfl) ?_
  refine lv_dup hx hb dX6_operand_101 rfl ?_
  refine rgI C hH fi_RX6_29_15 dX6_operand_102 ?_
  refine lv_iconst (v := 1) hx hb dX6_operand_105 (by decide) ?_
  refine lv_iadd hx hb dX6_operand_106 ?_
  refine rpI C hH fp_RX6_29_15 rfl rfl dX6_operand_107 (fun H locs hH => ?_)
  refine lv_aload_n hx hb dX6_operand_110 rfl (lv_at hl 0 rfl) ?_
  refine lv_iload_n hx hb dX6_operand_111 rfl (lv_at hl 2 rfl) ?_
  refine lv_i2c' hx hb dX6_operand_112 ?_
  refine lv_iload_n hx hb dX6_operand_113 rfl (lv_at hl 1 rfl) ?_
  refine lv_iconst (v := 1) hx hb dX6_operand_114 (by decide) ?_
  refine lv_iadd hx hb dX6_operand_115 ?_
  obtain ⟨q116, e116, h⟩ := tB h
  refine rcV C hH hl.1 (hr_X6_opened _ _ _ _ e116) cf_RX6_73 ro_15 (RR_of (by omega) (by decide)) rfl (rest := []) rfl (Nat.le_of_ble_eq_true rfl) dX6_operand_116 ?_
  intro H locs hH
  refine lv_goto (tgt := 130) hx hb dX6_operand_119 (by decide) ?_
  have h := Option.some.inj h
  subst h
  exact retV C hH dX6_operand_130
set_option maxHeartbeats 2000000 in
set_option maxRecDepth 20000 in
theorem wX6_operand_76 (C : Cx D ca A p s m args meth c cX6_operand RX6 3 none) {q : Unit × Mm} {lev : Nat} (hlev : 8 ≤ lev + 1) {r_X6_level : Int32 → Int32 → Mm → Option (Unit × Mm)} {r_X6_operand : Int32 → Mm → Option (Unit × Mm)} {r_X6_opened : Int32 → Int32 → Mm → Option (Unit × Mm)} (hr_X6_level : ∀ (v1 : Int32) (v2 : Int32) (mm : Mm) (q : Unit × Mm), r_X6_level v1 v2 mm = some q → Met l yX6_level (wsOf yX6_level cX6_level 6 none) (rmk lev) (PcX WN ad ca WS D A [.ref (ad 15), .int v1, .int v2] mm) (QcV WN ad ca WS D A q) 0 0 A) (hr_X6_operand : ∀ (v1 : Int32) (mm : Mm) (q : Unit × Mm), r_X6_operand v1 mm = some q → Met l yX6_operand (wsOf yX6_operand cX6_operand 3 none) (rmk lev) (PcX WN ad ca WS D A [.ref (ad 15), .int v1] mm) (QcV WN ad ca WS D A q) 0 0 A) (hr_X6_opened : ∀ (v1 : Int32) (v2 : Int32) (mm : Mm) (q : Unit × Mm), r_X6_opened v1 v2 mm = some q → Met l yX6_opened (wsOf yX6_opened cX6_opened 3 none) (rmk lev) (PcX WN ad ca WS D A [.ref (ad 15), .int v1, .int v2] mm) (QcV WN ad ca WS D A q) 0 0 A) {v1 : Int32} {v2 : Int32} {mm : Mm} (h : DX6_operand_76 r_X6_level r_X6_operand r_X6_opened v1 v2 mm = some q) (hH : Hx WN ad ca WS D A s.heap mm H locs) (hl : lv_has ls 3 [(0, .ref (ad 15)), (1, .int v1), (2, .int v2)]) : W p l e (rmk (lev + 1)) s m args below meth c H locs 0 0 (MQ below (QcV WN ad ca WS D A q) args s 0 0 A) (F0 m 76 ls []) := by
  unfold DX6_operand_76 at h
  have hx := C.1
  have hb := C.2.1
  refine lv_iload_n hx hb dX6_operand_76 rfl (lv_at hl 1 rfl) ?_
  refine lv_bipush (v := 6) hx hb dX6_operand_77 (by decide) ?_
  refine lv_icmp_ge (tgt := 122) hx hb dX6_operand_79 (by decide) (fun hc79 => ?_) (fun hc79 => ?_)
  · replace h := tT hc79 h
    exact wX6_operand_122 C hlev hr_X6_level hr_X6_operand hr_X6_opened h hH (lv_sub hl [0] rfl)
  · replace h := tF hc79 h
    refine lv_iload_n hx hb dX6_operand_82 rfl (lv_at hl 2 rfl) ?_
    refine lv_bipush (v := 40) hx hb dX6_operand_83 (by decide) ?_
    refine lv_icmp_eq (tgt := 100) hx hb dX6_operand_85 (by decide) (fun hc85 => ?_) (fun hc85 => ?_)
    · replace h := tT hc85 h
      exact wX6_operand_100 C hlev hr_X6_level hr_X6_operand hr_X6_opened h hH (lv_sub hl [0, 1, 2] rfl)
    · replace h := tF hc85 h
      refine lv_iload_n hx hb dX6_operand_88 rfl (lv_at hl 2 rfl) ?_
      refine lv_bipush (v := 33) hx hb dX6_operand_89 (by decide) ?_
      refine lv_icmp_eq (tgt := 100) hx hb dX6_operand_91 (by decide) (fun hc91 => ?_) (fun hc91 => ?_)
      · replace h := tT hc91 h
        exact wX6_operand_100 C hlev hr_X6_level hr_X6_operand hr_X6_opened h hH (lv_sub hl [0, 1, 2] rfl)
      · replace h := tF hc91 h
        refine lv_iload_n hx hb dX6_operand_94 rfl (lv_at hl 2 rfl) ?_
        refine lv_bipush (v := 45) hx hb dX6_operand_95 (by decide) ?_
        refine lv_icmp_ne (tgt := 122) hx hb dX6_operand_97 (by decide) (fun hc97 => ?_) (fun hc97 => ?_)
        · replace h := tF hc97 h
          exact wX6_operand_122 C hlev hr_X6_level hr_X6_operand hr_X6_opened h hH (lv_sub hl [0] rfl)
        · replace h := tT hc97 h
          exact wX6_operand_100 C hlev hr_X6_level hr_X6_operand hr_X6_opened h hH (lv_sub hl [0, 1, 2] rfl)
set_option maxHeartbeats 2000000 in
set_option maxRecDepth 20000 in
theorem wX6_operand_33 (C : Cx D ca A p s m args meth c cX6_operand RX6 3 none) {q : Unit × Mm} {lev : Nat} (hlev : 8 ≤ lev + 1) {r_X6_level : Int32 → Int32 → Mm → Option (Unit × Mm)} {r_X6_operand : Int32 → Mm → Option (Unit × Mm)} {r_X6_opened : Int32 → Int32 → Mm → Option (Unit × Mm)} (hr_X6_level : ∀ (v1 : Int32) (v2 : Int32) (mm : Mm) (q : Unit × Mm), r_X6_level v1 v2 mm = some q → Met l yX6_level (wsOf yX6_level cX6_level 6 none) (rmk lev) (PcX WN ad ca WS D A [.ref (ad 15), .int v1, .int v2] mm) (QcV WN ad ca WS D A q) 0 0 A) (hr_X6_operand : ∀ (v1 : Int32) (mm : Mm) (q : Unit × Mm), r_X6_operand v1 mm = some q → Met l yX6_operand (wsOf yX6_operand cX6_operand 3 none) (rmk lev) (PcX WN ad ca WS D A [.ref (ad 15), .int v1] mm) (QcV WN ad ca WS D A q) 0 0 A) (hr_X6_opened : ∀ (v1 : Int32) (v2 : Int32) (mm : Mm) (q : Unit × Mm), r_X6_opened v1 v2 mm = some q → Met l yX6_opened (wsOf yX6_opened cX6_opened 3 none) (rmk lev) (PcX WN ad ca WS D A [.ref (ad 15), .int v1, .int v2] mm) (QcV WN ad ca WS D A q) 0 0 A) {v1 : Int32} {v2 : Int32} {mm : Mm} (h : DX6_operand_33 r_X6_level r_X6_operand r_X6_opened v1 v2 mm = some q) (hH : Hx WN ad ca WS D A s.heap mm H locs) (hl : lv_has ls 3 [(0, .ref (ad 15)), (1, .int v1), (2, .int v2)]) : W p l e (rmk (lev + 1)) s m args below meth c H locs 0 0 (MQ below (QcV WN ad ca WS D A q) args s 0 0 A) (F0 m 33 ls []) := by
  unfold DX6_operand_33 at h
  have hx := C.1
  have hb := C.2.1
  refine lv_iload_n hx hb dX6_operand_33 rfl (lv_at hl 2 rfl) ?_
  refine lv_if_le (tgt := 76) hx hb dX6_operand_34 (by decide) (fun hc34 => ?_) (fun hc34 => ?_)
  · replace h := tT hc34 h
    exact wX6_operand_76 C hlev hr_X6_level hr_X6_operand hr_X6_opened h hH (lv_sub hl [0, 1, 2] rfl)
  · replace h := tF hc34 h
    obtain ⟨q37, t37, hR37, hB37⟩ := C.2.2.2.2.2.2.2.2.2.2.2.2.2
    have hB37 : SB q37 t37 A s s.heap := hB37
    refine va_ldcS hx hb C.2.2.2.2.1 hR37 dX6_operand_37 ?_
    refine lv_iload_n hx hb dX6_operand_39 rfl (lv_at hl 2 rfl) ?_
    refine lv_i2c' hx hb dX6_operand_40 ?_
    refine rcS C hH hl.1 hB37 (mJ0_indexOf_0f7a4 l _ _ _) cf_RX6_67 rfl (RR_of (by omega) (by decide)) rfl (rest := []) rfl (Nat.le_of_ble_eq_true rfl) dX6_operand_41 (fun H locs hH => ?_)
    refine lv_if_lt (tgt := 76) hx hb dX6_operand_44 (by decide) (fun hc44 => ?_) (fun hc44 => ?_)
    · replace h := tT hc44 h
      exact wX6_operand_76 C hlev hr_X6_level hr_X6_operand hr_X6_opened h hH (lv_sub hl [0, 1, 2] rfl)
    · replace h := tF hc44 h
      refine lv_aload_n hx hb dX6_operand_47 rfl (lv_at hl 0 rfl) ?_
      refine rgD C hH fd_RX6_18_15 dX6_operand_48 ?_
      refine lv_bipush (v := 110) hx hb dX6_operand_51 (by decide) ?_
      obtain ⟨q53, t53, hR53, hB53⟩ := C.2.2.2.2.2.2.2.2.2.2.2.2.2
      have hB53 : SB q53 t53 A s s.heap := hB53
      refine va_ldcS hx hb C.2.2.2.2.1 hR53 dX6_operand_53 ?_
      refine lv_iload_n hx hb dX6_operand_55 rfl (lv_at hl 2 rfl) ?_
      refine lv_i2c' hx hb dX6_operand_56 ?_
      refine rcS C hH hl.1 hB53 (mJ0_indexOf_0f7a4 l _ _ _) cf_RX6_67 rfl (RR_of (by omega) (by decide)) rfl (rest := [.int 110, .ref (ad (gR mm 15 1))]) rfl (Nat.le_of_ble_eq_true rfl) dX6_operand_57 (fun H locs hH => ?_)
      obtain ⟨hLa60, h⟩ := tC h
      obtain ⟨q60, e60, h⟩ := tB h
      refine rcV C hH hl.1 (mX5_add l e60) cf_RX6_50 (ro_la hLa60) (RR_of (by omega) (by decide)) rfl (rest := []) rfl (Nat.le_of_ble_eq_true rfl) dX6_operand_60 ?_
      intro H locs hH
      refine lv_aload_n hx hb dX6_operand_63 rfl (lv_at hl 0 rfl) ?_
      refine lv_dup hx hb dX6_operand_64 rfl ?_
      refine rgI C hH fi_RX6_29_15 dX6_operand_65 ?_
      refine lv_iconst (v := 1) hx hb dX6_operand_68 (by decide) ?_
      refine lv_iadd hx hb dX6_operand_69 ?_
      refine rpI C hH fp_RX6_29_15 rfl rfl dX6_operand_70 (fun H locs hH => ?_)
      refine lv_goto (tgt := 130) hx hb dX6_operand_73 (by decide) ?_
      have h := Option.some.inj h
      subst h
      exact retV C hH dX6_operand_130
set_option maxHeartbeats 2000000 in
set_option maxRecDepth 20000 in
theorem mbX6_operand (l : Launch) {D : va_G} {ca : Nat → ClassId} {A : Nat → Prop} {ad : Nat → Nat} {lev : Nat} (hlev : 8 ≤ lev + 1) {r_X6_level : Int32 → Int32 → Mm → Option (Unit × Mm)} {r_X6_operand : Int32 → Mm → Option (Unit × Mm)} {r_X6_opened : Int32 → Int32 → Mm → Option (Unit × Mm)} (hr_X6_level : ∀ (v1 : Int32) (v2 : Int32) (mm : Mm) (q : Unit × Mm), r_X6_level v1 v2 mm = some q → Met l yX6_level (wsOf yX6_level cX6_level 6 none) (rmk lev) (PcX WN ad ca WS D A [.ref (ad 15), .int v1, .int v2] mm) (QcV WN ad ca WS D A q) 0 0 A) (hr_X6_operand : ∀ (v1 : Int32) (mm : Mm) (q : Unit × Mm), r_X6_operand v1 mm = some q → Met l yX6_operand (wsOf yX6_operand cX6_operand 3 none) (rmk lev) (PcX WN ad ca WS D A [.ref (ad 15), .int v1] mm) (QcV WN ad ca WS D A q) 0 0 A) (hr_X6_opened : ∀ (v1 : Int32) (v2 : Int32) (mm : Mm) (q : Unit × Mm), r_X6_opened v1 v2 mm = some q → Met l yX6_opened (wsOf yX6_opened cX6_opened 3 none) (rmk lev) (PcX WN ad ca WS D A [.ref (ad 15), .int v1, .int v2] mm) (QcV WN ad ca WS D A q) 0 0 A) {v1 : Int32} {mm : Mm} {q : Unit × Mm} (h : bX6_operand r_X6_level r_X6_operand r_X6_opened v1 mm = some q) : Met l yX6_operand (wsOf yX6_operand cX6_operand 3 none) (rmk (lev + 1)) (PcX WN ad ca WS D A [.ref (ad 15), .int v1] mm) (QcV WN ad ca WS D A q) 0 0 A := by
  unfold bX6_operand at h
  refine ent (by decide) (Nat.le_of_ble_eq_true rfl) (fun p e s m args below meth c hargs C hH ls hl => ?_)
  have hx := C.1
  have hb := C.2.1
  have hl : lv_has ls 3 [(0, .ref (ad 15)), (1, .int v1)] := hl
  refine lv_aload_n hx hb dX6_operand_0 rfl (lv_at hl 0 rfl) ?_
  obtain ⟨q1, e1, h⟩ := tB h
  refine rcI C hH hl.1 (mX6_ahead l e1) cf_RX6_42 ro_15 (RR_of (by omega) (by decide)) rfl (rest := []) rfl (Nat.le_of_ble_eq_true rfl) dX6_operand_1 ?_
  intro hz1 H locs hH
  refine lv_istore_n (lv' := [(2, .int q1.1), (0, .ref (ad 15)), (1, .int v1)]) hx hb dX6_operand_4 rfl hl (by decide) rfl (fun ls hl => ?_)
  refine lv_aload_n hx hb dX6_operand_5 rfl (lv_at hl 1 rfl) ?_
  refine rgI C hH fi_RX6_32_15 dX6_operand_6 ?_
  refine lv_iconst (v := (-1)) hx hb dX6_operand_9 (by decide) ?_
  refine lv_icmp_eq (tgt := 14) hx hb dX6_operand_10 (by decide) (fun hc10 => ?_) (fun hc10 => ?_)
  · replace h := tT hc10 h
    refine lv_iload_n hx hb dX6_operand_14 rfl (lv_at hl 0 rfl) ?_
    refine lv_bipush (v := 48) hx hb dX6_operand_15 (by decide) ?_
    refine lv_icmp_lt (tgt := 33) hx hb dX6_operand_17 (by decide) (fun hc17 => ?_) (fun hc17 => ?_)
    · replace h := tT hc17 h
      exact wX6_operand_33 C hlev hr_X6_level hr_X6_operand hr_X6_opened h hH (lv_sub hl [1, 2, 0] rfl)
    · replace h := tF hc17 h
      refine lv_iload_n hx hb dX6_operand_20 rfl (lv_at hl 0 rfl) ?_
      refine lv_bipush (v := 57) hx hb dX6_operand_21 (by decide) ?_
      refine lv_icmp_gt (tgt := 33) hx hb dX6_operand_23 (by decide) (fun hc23 => ?_) (fun hc23 => ?_)
      · replace h := tT hc23 h
        exact wX6_operand_33 C hlev hr_X6_level hr_X6_operand hr_X6_opened h hH (lv_sub hl [1, 2, 0] rfl)
      · replace h := tF hc23 h
        refine lv_aload_n hx hb dX6_operand_26 rfl (lv_at hl 1 rfl) ?_
        obtain ⟨q27, e27, h⟩ := tB h
        refine rcV C hH hl.1 (mX6_number l e27) cf_RX6_62 ro_15 (RR_of (by omega) (by decide)) rfl (rest := []) rfl (Nat.le_of_ble_eq_true rfl) dX6_operand_27 ?_
        intro H locs hH
        refine lv_goto (tgt := 130) hx hb dX6_operand_30 (by decide) ?_
        have h := Option.some.inj h
        subst h
        exact retV C hH dX6_operand_130
  · replace h := tF hc10 h
    have h := Option.some.inj h
    subst h
    exact retV C hH dX6_operand_13
set_option maxHeartbeats 2000000 in
set_option maxRecDepth 20000 in
theorem wX6_opened_59 (C : Cx D ca A p s m args meth c cX6_opened RX6 3 none) {q : Unit × Mm} {lev : Nat} (hlev : 8 ≤ lev + 1) {r_X6_level : Int32 → Int32 → Mm → Option (Unit × Mm)} {r_X6_operand : Int32 → Mm → Option (Unit × Mm)} {r_X6_opened : Int32 → Int32 → Mm → Option (Unit × Mm)} (hr_X6_level : ∀ (v1 : Int32) (v2 : Int32) (mm : Mm) (q : Unit × Mm), r_X6_level v1 v2 mm = some q → Met l yX6_level (wsOf yX6_level cX6_level 6 none) (rmk lev) (PcX WN ad ca WS D A [.ref (ad 15), .int v1, .int v2] mm) (QcV WN ad ca WS D A q) 0 0 A) (hr_X6_operand : ∀ (v1 : Int32) (mm : Mm) (q : Unit × Mm), r_X6_operand v1 mm = some q → Met l yX6_operand (wsOf yX6_operand cX6_operand 3 none) (rmk lev) (PcX WN ad ca WS D A [.ref (ad 15), .int v1] mm) (QcV WN ad ca WS D A q) 0 0 A) (hr_X6_opened : ∀ (v1 : Int32) (v2 : Int32) (mm : Mm) (q : Unit × Mm), r_X6_opened v1 v2 mm = some q → Met l yX6_opened (wsOf yX6_opened cX6_opened 3 none) (rmk lev) (PcX WN ad ca WS D A [.ref (ad 15), .int v1, .int v2] mm) (QcV WN ad ca WS D A q) 0 0 A) {s0 : Int32} {s1 : Nat} {mm : Mm} (h : DX6_opened_59 r_X6_level r_X6_operand r_X6_opened s0 s1 mm = some q) (hH : Hx WN ad ca WS D A s.heap mm H locs) (hl : lv_has ls 3 []) : W p l e (rmk (lev + 1)) s m args below meth c H locs 0 0 (MQ below (QcV WN ad ca WS D A q) args s 0 0 A) (F0 m 59 ls [.int s0, .ref (ad s1)]) := by
  unfold DX6_opened_59 at h
  have hx := C.1
  have hb := C.2.1
  refine lv_iconst (v := 0) hx hb dX6_opened_59 (by decide) ?_
  obtain ⟨hLa60, h⟩ := tC h
  obtain ⟨q60, e60, h⟩ := tB h
  refine rcV C hH hl.1 (mX5_add l e60) cf_RX6_50 (ro_la hLa60) (RR_of (by omega) (by decide)) rfl (rest := []) rfl (Nat.le_of_ble_eq_true rfl) dX6_opened_60 ?_
  intro H locs hH
  have h := Option.some.inj h
  subst h
  exact retV C hH dX6_opened_63
set_option maxHeartbeats 2000000 in
set_option maxRecDepth 20000 in
theorem mbX6_opened (l : Launch) {D : va_G} {ca : Nat → ClassId} {A : Nat → Prop} {ad : Nat → Nat} {lev : Nat} (hlev : 8 ≤ lev + 1) {r_X6_level : Int32 → Int32 → Mm → Option (Unit × Mm)} {r_X6_operand : Int32 → Mm → Option (Unit × Mm)} {r_X6_opened : Int32 → Int32 → Mm → Option (Unit × Mm)} (hr_X6_level : ∀ (v1 : Int32) (v2 : Int32) (mm : Mm) (q : Unit × Mm), r_X6_level v1 v2 mm = some q → Met l yX6_level (wsOf yX6_level cX6_level 6 none) (rmk lev) (PcX WN ad ca WS D A [.ref (ad 15), .int v1, .int v2] mm) (QcV WN ad ca WS D A q) 0 0 A) (hr_X6_operand : ∀ (v1 : Int32) (mm : Mm) (q : Unit × Mm), r_X6_operand v1 mm = some q → Met l yX6_operand (wsOf yX6_operand cX6_operand 3 none) (rmk lev) (PcX WN ad ca WS D A [.ref (ad 15), .int v1] mm) (QcV WN ad ca WS D A q) 0 0 A) (hr_X6_opened : ∀ (v1 : Int32) (v2 : Int32) (mm : Mm) (q : Unit × Mm), r_X6_opened v1 v2 mm = some q → Met l yX6_opened (wsOf yX6_opened cX6_opened 3 none) (rmk lev) (PcX WN ad ca WS D A [.ref (ad 15), .int v1, .int v2] mm) (QcV WN ad ca WS D A q) 0 0 A) {v1 : Int32} {v2 : Int32} {mm : Mm} {q : Unit × Mm} (h : bX6_opened r_X6_level r_X6_operand r_X6_opened v1 v2 mm = some q) : Met l yX6_opened (wsOf yX6_opened cX6_opened 3 none) (rmk (lev + 1)) (PcX WN ad ca WS D A [.ref (ad 15), .int v1, .int v2] mm) (QcV WN ad ca WS D A q) 0 0 A := by
  unfold bX6_opened at h
  refine ent (by decide) (Nat.le_of_ble_eq_true rfl) (fun p e s m args below meth c hargs C hH ls hl => ?_)
  have hx := C.1
  have hb := C.2.1
  have hl : lv_has ls 3 [(0, .ref (ad 15)), (1, .int v1), (2, .int v2)] := hl
  refine lv_iload_n hx hb dX6_opened_0 rfl (lv_at hl 1 rfl) ?_
  refine lv_bipush (v := 40) hx hb dX6_opened_1 (by decide) ?_
  refine lv_icmp_ne (tgt := 38) hx hb dX6_opened_3 (by decide) (fun hc3 => ?_) (fun hc3 => ?_)
  · replace h := tF hc3 h
    refine lv_aload_n hx hb dX6_opened_38 rfl (lv_at hl 0 rfl) ?_
    refine lv_iload_n hx hb dX6_opened_39 rfl (lv_at hl 2 rfl) ?_
    obtain ⟨q40, e40, h⟩ := tB h
    refine rcV C hH hl.1 (hr_X6_operand _ _ _ e40) cf_RX6_54 ro_15 (RR_of (by omega) (by decide)) rfl (rest := []) rfl (Nat.le_of_ble_eq_true rfl) dX6_opened_40 ?_
    intro H locs hH
    refine lv_aload_n hx hb dX6_opened_43 rfl (lv_at hl 0 rfl) ?_
    refine rgD C hH fd_RX6_18_15 dX6_opened_44 ?_
    refine lv_iload_n hx hb dX6_opened_47 rfl (lv_at hl 1 rfl) ?_
    refine lv_bipush (v := 45) hx hb dX6_opened_48 (by decide) ?_
    refine lv_icmp_ne (tgt := 58) hx hb dX6_opened_50 (by decide) (fun hc50 => ?_) (fun hc50 => ?_)
    · replace h := tF hc50 h
      refine lv_iload_n hx hb dX6_opened_58 rfl (lv_at hl 1 rfl) ?_
      exact wX6_opened_59 C hlev hr_X6_level hr_X6_operand hr_X6_opened h hH (lv_sub hl [] rfl)
    · replace h := tT hc50 h
      refine lv_bipush (v := 126) hx hb dX6_opened_53 (by decide) ?_
      refine lv_goto (tgt := 59) hx hb dX6_opened_55 (by decide) ?_
      exact wX6_opened_59 C hlev hr_X6_level hr_X6_operand hr_X6_opened h hH (lv_sub hl [] rfl)
  · replace h := tT hc3 h
    refine lv_aload_n hx hb dX6_opened_6 rfl (lv_at hl 0 rfl) ?_
    refine lv_iconst (v := 0) hx hb dX6_opened_7 (by decide) ?_
    refine lv_iload_n hx hb dX6_opened_8 rfl (lv_at hl 2 rfl) ?_
    obtain ⟨q9, e9, h⟩ := tB h
    refine rcV C hH hl.1 (hr_X6_level _ _ _ _ e9) cf_RX6_46 ro_15 (RR_of (by omega) (by decide)) rfl (rest := []) rfl (Nat.le_of_ble_eq_true rfl) dX6_opened_9 ?_
    intro H locs hH
    refine lv_aload_n hx hb dX6_opened_12 rfl (lv_at hl 0 rfl) ?_
    refine lv_bipush (v := 41) hx hb dX6_opened_13 (by decide) ?_
    obtain ⟨q15, e15, h⟩ := tB h
    refine rcI C hH hl.1 (mX6_passes l e15) cf_RX6_38 ro_15 (RR_of (by omega) (by decide)) rfl (rest := []) rfl (Nat.le_of_ble_eq_true rfl) dX6_opened_15 ?_
    intro hz15 H locs hH
    refine lv_if_ne (tgt := 37) hx hb dX6_opened_18 (by decide) (fun hc18 => ?_) (fun hc18 => ?_)
    · replace h := tF hc18 h
      have h := Option.some.inj h
      subst h
      exact retV C hH dX6_opened_37
    · replace h := tT hc18 h
      refine lv_aload_n hx hb dX6_opened_21 rfl (lv_at hl 0 rfl) ?_
      refine rgI C hH fi_RX6_32_15 dX6_opened_22 ?_
      refine lv_iconst (v := (-1)) hx hb dX6_opened_25 (by decide) ?_
      refine lv_icmp_ne (tgt := 37) hx hb dX6_opened_26 (by decide) (fun hc26 => ?_) (fun hc26 => ?_)
      · replace h := tF hc26 h
        have h := Option.some.inj h
        subst h
        exact retV C hH dX6_opened_37
      · replace h := tT hc26 h
        refine lv_aload_n hx hb dX6_opened_29 rfl (lv_at hl 0 rfl) ?_
        refine lv_aload_n hx hb dX6_opened_30 rfl (lv_at hl 0 rfl) ?_
        refine rgI C hH fi_RX6_29_15 dX6_opened_31 ?_
        refine rpI C hH fp_RX6_32_15 rfl rfl dX6_opened_34 (fun H locs hH => ?_)
        have h := Option.some.inj h
        subst h
        exact retV C hH dX6_opened_37
set_option maxHeartbeats 2000000 in
set_option maxRecDepth 20000 in
theorem mgX6_level (l : Launch) {D : va_G} {ca : Nat → ClassId} {A : Nat → Prop} {ad : Nat → Nat} : ∀ n : Nat, (∀ (v1 : Int32) (v2 : Int32) (mm : Mm) (q : Unit × Mm), dX6_level n v1 v2 mm = some q → Met l yX6_level (wsOf yX6_level cX6_level 6 none) (rmk (8 + n)) (PcX WN ad ca WS D A [.ref (ad 15), .int v1, .int v2] mm) (QcV WN ad ca WS D A q) 0 0 A) ∧ (∀ (v1 : Int32) (mm : Mm) (q : Unit × Mm), dX6_operand n v1 mm = some q → Met l yX6_operand (wsOf yX6_operand cX6_operand 3 none) (rmk (8 + n)) (PcX WN ad ca WS D A [.ref (ad 15), .int v1] mm) (QcV WN ad ca WS D A q) 0 0 A) ∧ (∀ (v1 : Int32) (v2 : Int32) (mm : Mm) (q : Unit × Mm), dX6_opened n v1 v2 mm = some q → Met l yX6_opened (wsOf yX6_opened cX6_opened 3 none) (rmk (8 + n)) (PcX WN ad ca WS D A [.ref (ad 15), .int v1, .int v2] mm) (QcV WN ad ca WS D A q) 0 0 A) := by
  intro n
  induction n with
  | zero => exact ⟨(fun v1 v2 mm q h => none_ne (show (none : Option (Unit × Mm)) = some q from h)), (fun v1 mm q h => none_ne (show (none : Option (Unit × Mm)) = some q from h)), (fun v1 v2 mm q h => none_ne (show (none : Option (Unit × Mm)) = some q from h))⟩
  | succ n ih => exact ⟨(fun v1 v2 mm q h => mbX6_level l (by omega) ih.1 ih.2.1 ih.2.2 h), (fun v1 mm q h => mbX6_operand l (by omega) ih.1 ih.2.1 ih.2.2 h), (fun v1 v2 mm q h => mbX6_opened l (by omega) ih.1 ih.2.1 ih.2.2 h)⟩
set_option maxHeartbeats 2000000 in
set_option maxRecDepth 20000 in
theorem mX6_level (l : Launch) {D : va_G} {ca : Nat → ClassId} {A : Nat → Prop} {ad : Nat → Nat} (n : Nat) (v1 : Int32) (v2 : Int32) (mm : Mm) (q : Unit × Mm) (h : dX6_level n v1 v2 mm = some q) : Met l yX6_level (wsOf yX6_level cX6_level 6 none) (rmk (8 + n)) (PcX WN ad ca WS D A [.ref (ad 15), .int v1, .int v2] mm) (QcV WN ad ca WS D A q) 0 0 A := (mgX6_level l n).1 v1 v2 mm q h
set_option maxHeartbeats 2000000 in
set_option maxRecDepth 20000 in
theorem mX6_operand (l : Launch) {D : va_G} {ca : Nat → ClassId} {A : Nat → Prop} {ad : Nat → Nat} (n : Nat) (v1 : Int32) (mm : Mm) (q : Unit × Mm) (h : dX6_operand n v1 mm = some q) : Met l yX6_operand (wsOf yX6_operand cX6_operand 3 none) (rmk (8 + n)) (PcX WN ad ca WS D A [.ref (ad 15), .int v1] mm) (QcV WN ad ca WS D A q) 0 0 A := (mgX6_level l n).2.1 v1 mm q h
set_option maxHeartbeats 2000000 in
set_option maxRecDepth 20000 in
theorem mX6_opened (l : Launch) {D : va_G} {ca : Nat → ClassId} {A : Nat → Prop} {ad : Nat → Nat} (n : Nat) (v1 : Int32) (v2 : Int32) (mm : Mm) (q : Unit × Mm) (h : dX6_opened n v1 v2 mm = some q) : Met l yX6_opened (wsOf yX6_opened cX6_opened 3 none) (rmk (8 + n)) (PcX WN ad ca WS D A [.ref (ad 15), .int v1, .int v2] mm) (QcV WN ad ca WS D A q) 0 0 A := (mgX6_level l n).2.2 v1 v2 mm q h
set_option maxHeartbeats 2000000 in
set_option maxRecDepth 20000 in
theorem wX6_line_31 (C : Cx D ca A p s m args meth c cX6_line RX6 1 none) {q : Unit × Mm} {mm : Mm} (h : DX6_line_31 mm = some q) (hH : Hx WN ad ca WS D A s.heap mm H locs) (hl : lv_has ls 1 [(0, .ref (ad 15))]) : W p l e (rmk 109) s m args below meth c H locs 0 0 (MQ below (QcV WN ad ca WS D A q) args s 0 0 A) (F0 m 31 ls []) := by
  unfold DX6_line_31 at h
  have hx := C.1
  have hb := C.2.1
  refine lv_aload_n hx hb dX6_line_31 rfl (lv_at hl 0 rfl) ?_
  refine rgD C hH fd_RX6_18_15 dX6_line_32 ?_
  refine lv_bipush (v := 59) hx hb dX6_line_35 (by decide) ?_
  refine lv_iconst (v := 0) hx hb dX6_line_37 (by decide) ?_
  obtain ⟨hLa38, h⟩ := tC h
  obtain ⟨q38, e38, h⟩ := tB h
  refine rcV C hH hl.1 (mX5_add l e38) cf_RX6_50 (ro_la hLa38) (RR_of (by decide) (by decide)) rfl (rest := []) rfl (Nat.le_of_ble_eq_true rfl) dX6_line_38 ?_
  intro H locs hH
  have h := Option.some.inj h
  subst h
  exact retV C hH dX6_line_41
set_option maxHeartbeats 2000000 in
set_option maxRecDepth 20000 in
theorem mX6_line (l : Launch) {D : va_G} {ca : Nat → ClassId} {A : Nat → Prop} {ad : Nat → Nat} {mm : Mm} {q : Unit × Mm} (h : dX6_line mm = some q) : Met l yX6_line (wsOf yX6_line cX6_line 1 none) (rmk 109) (PcX WN ad ca WS D A [.ref (ad 15)] mm) (QcV WN ad ca WS D A q) 0 0 A := by
  unfold dX6_line at h
  refine ent (by decide) (Nat.le_of_ble_eq_true rfl) (fun p e s m args below meth c hargs C hH ls hl => ?_)
  have hx := C.1
  have hb := C.2.1
  have hl : lv_has ls 1 [(0, .ref (ad 15))] := hl
  refine lv_aload_n hx hb dX6_line_0 rfl (lv_at hl 0 rfl) ?_
  refine lv_iconst (v := 0) hx hb dX6_line_1 (by decide) ?_
  refine lv_iconst (v := 0) hx hb dX6_line_2 (by decide) ?_
  obtain ⟨q3, e3, h⟩ := tB h
  refine rcV C hH hl.1 (mX6_level l 100 _ _ _ _ e3) cf_RX6_46 ro_15 (RR_of (by decide) (by decide)) rfl (rest := []) rfl (Nat.le_of_ble_eq_true rfl) dX6_line_3 ?_
  intro H locs hH
  refine lv_aload_n hx hb dX6_line_6 rfl (lv_at hl 0 rfl) ?_
  refine lv_bipush (v := 63) hx hb dX6_line_7 (by decide) ?_
  obtain ⟨q9, e9, h⟩ := tB h
  refine rcI C hH hl.1 (mX6_passes l e9) cf_RX6_38 ro_15 (RR_of (by decide) (by decide)) rfl (rest := []) rfl (Nat.le_of_ble_eq_true rfl) dX6_line_9 ?_
  intro hz9 H locs hH
  refine lv_if_eq (tgt := 31) hx hb dX6_line_12 (by decide) (fun hc12 => ?_) (fun hc12 => ?_)
  · replace h := tT hc12 h
    exact wX6_line_31 C h hH (lv_sub hl [0] rfl)
  · replace h := tF hc12 h
    refine lv_aload_n hx hb dX6_line_15 rfl (lv_at hl 0 rfl) ?_
    refine rgD C hH fd_RX6_18_15 dX6_line_16 ?_
    refine lv_bipush (v := 63) hx hb dX6_line_19 (by decide) ?_
    refine lv_iconst (v := 0) hx hb dX6_line_21 (by decide) ?_
    obtain ⟨hLa22, h⟩ := tC h
    obtain ⟨q22, e22, h⟩ := tB h
    refine rcV C hH hl.1 (mX5_add l e22) cf_RX6_50 (ro_la hLa22) (RR_of (by decide) (by decide)) rfl (rest := []) rfl (Nat.le_of_ble_eq_true rfl) dX6_line_22 ?_
    intro H locs hH
    refine lv_aload_n hx hb dX6_line_25 rfl (lv_at hl 0 rfl) ?_
    refine lv_iconst (v := 0) hx hb dX6_line_26 (by decide) ?_
    refine lv_iconst (v := 0) hx hb dX6_line_27 (by decide) ?_
    obtain ⟨q28, e28, h⟩ := tB h
    refine rcV C hH hl.1 (mX6_level l 100 _ _ _ _ e28) cf_RX6_46 ro_15 (RR_of (by decide) (by decide)) rfl (rest := []) rfl (Nat.le_of_ble_eq_true rfl) dX6_line_28 ?_
    intro H locs hH
    exact wX6_line_31 C h hH (lv_sub hl [0] rfl)
set_option maxHeartbeats 2000000 in
set_option maxRecDepth 20000 in
theorem wX6_read_80 (C : Cx D ca A p s m args meth c cX6_read RX6 3 (some .int)) {q : Int32 × Mm} {mm : Mm} (h : DX6_read_80 mm = some q) (hH : Hx WN ad ca WS D A s.heap mm H locs) (hl : lv_has ls 3 [(0, .ref (ad 15))]) : W p l e (rmk 110) s m args below meth c H locs 0 0 (MQ below (QcI WN ad ca WS D A pzT q) args s 0 0 A) (F0 m 80 ls []) := by
  unfold DX6_read_80 at h
  have hx := C.1
  have hb := C.2.1
  refine lv_aload_n hx hb dX6_read_80 rfl (lv_at hl 0 rfl) ?_
  refine lv_iconst (v := 0) hx hb dX6_read_81 (by decide) ?_
  refine rpI C hH fp_RX6_22_15 rfl rfl dX6_read_82 (fun H locs hH => ?_)
  refine lv_aload_n hx hb dX6_read_85 rfl (lv_at hl 0 rfl) ?_
  refine rgI C hH fi_RX6_32_15 dX6_read_86 ?_
  have h := Option.some.inj h
  subst h
  exact retI C hH trivial dX6_read_89
set_option maxHeartbeats 2000000 in
set_option maxRecDepth 20000 in
theorem wX6_read_56 (C : Cx D ca A p s m args meth c cX6_read RX6 3 (some .int)) {q : Int32 × Mm} {mm : Mm} (h : DX6_read_56 mm = some q) (hH : Hx WN ad ca WS D A s.heap mm H locs) (hl : lv_has ls 3 [(0, .ref (ad 15))]) : W p l e (rmk 110) s m args below meth c H locs 0 0 (MQ below (QcI WN ad ca WS D A pzT q) args s 0 0 A) (F0 m 56 ls []) := by
  unfold DX6_read_56 at h
  have hx := C.1
  have hb := C.2.1
  refine lv_aload_n hx hb dX6_read_56 rfl (lv_at hl 0 rfl) ?_
  refine rgI C hH fi_RX6_32_15 dX6_read_57 ?_
  refine lv_iconst (v := (-1)) hx hb dX6_read_60 (by decide) ?_
  refine lv_icmp_ne (tgt := 80) hx hb dX6_read_61 (by decide) (fun hc61 => ?_) (fun hc61 => ?_)
  · replace h := tF hc61 h
    exact wX6_read_80 C h hH (lv_sub hl [0] rfl)
  · replace h := tT hc61 h
    refine lv_aload_n hx hb dX6_read_64 rfl (lv_at hl 0 rfl) ?_
    obtain ⟨q65, e65, h⟩ := tB h
    refine rcI C hH hl.1 (mX6_ahead l e65) cf_RX6_42 ro_15 (RR_of (by decide) (by decide)) rfl (rest := []) rfl (Nat.le_of_ble_eq_true rfl) dX6_read_65 ?_
    intro hz65 H locs hH
    refine lv_iconst (v := (-1)) hx hb dX6_read_68 (by decide) ?_
    refine lv_icmp_eq (tgt := 80) hx hb dX6_read_69 (by decide) (fun hc69 => ?_) (fun hc69 => ?_)
    · replace h := tT hc69 h
      exact wX6_read_80 C h hH (lv_sub hl [0] rfl)
    · replace h := tF hc69 h
      refine lv_aload_n hx hb dX6_read_72 rfl (lv_at hl 0 rfl) ?_
      refine lv_aload_n hx hb dX6_read_73 rfl (lv_at hl 0 rfl) ?_
      refine rgI C hH fi_RX6_29_15 dX6_read_74 ?_
      refine rpI C hH fp_RX6_32_15 rfl rfl dX6_read_77 (fun H locs hH => ?_)
      exact wX6_read_80 C h hH (lv_sub hl [0] rfl)
set_option maxHeartbeats 2000000 in
set_option maxRecDepth 20000 in
theorem wbX6_read_21 (C : Cx D ca A p s m args meth c cX6_read RX6 3 (some .int)) {q : Int32 × Mm} {k21 : Int32 → Int32 → Mm → Option (Int32 × Mm)} (hk21 : ∀ (v1 : Int32) (v2 : Int32) (mm : Mm), k21 v1 v2 mm = some q → ∀ (H : Heap) (locs : List Loc) (ls : Array Slot), Hx WN ad ca WS D A s.heap mm H locs → lv_has ls 3 [(0, .ref (ad 15)), (1, .int v1), (2, .int v2)] → W p l e (rmk 110) s m args below meth c H locs 0 0 (MQ below (QcI WN ad ca WS D A pzT q) args s 0 0 A) (F0 m 21 ls [])) {v1 : Int32} {v2 : Int32} {mm : Mm} (h : BX6_read_21 k21 v1 v2 mm = some q) (hH : Hx WN ad ca WS D A s.heap mm H locs) (hl : lv_has ls 3 [(0, .ref (ad 15)), (1, .int v1), (2, .int v2)]) : W p l e (rmk 110) s m args below meth c H locs 0 0 (MQ below (QcI WN ad ca WS D A pzT q) args s 0 0 A) (F0 m 21 ls []) := by
  unfold BX6_read_21 at h
  have hx := C.1
  have hb := C.2.1
  refine lv_iload_n hx hb dX6_read_21 rfl (lv_at hl 2 rfl) ?_
  refine lv_bipush (v := 120) hx hb dX6_read_22 (by decide) ?_
  refine lv_icmp_gt (tgt := 56) hx hb dX6_read_24 (by decide) (fun hc24 => ?_) (fun hc24 => ?_)
  · replace h := tT hc24 h
    exact wX6_read_56 C h hH (lv_sub hl [0] rfl)
  · replace h := tF hc24 h
    refine lv_iload_n hx hb dX6_read_27 rfl (lv_at hl 1 rfl) ?_
    refine lv_if_eq (tgt := 56) hx hb dX6_read_28 (by decide) (fun hc28 => ?_) (fun hc28 => ?_)
    · replace h := tT hc28 h
      exact wX6_read_56 C h hH (lv_sub hl [0] rfl)
    · replace h := tF hc28 h
      refine lv_aload_n hx hb dX6_read_31 rfl (lv_at hl 0 rfl) ?_
      refine rgI C hH fi_RX6_32_15 dX6_read_32 ?_
      refine lv_iconst (v := (-1)) hx hb dX6_read_35 (by decide) ?_
      refine lv_icmp_ne (tgt := 56) hx hb dX6_read_36 (by decide) (fun hc36 => ?_) (fun hc36 => ?_)
      · replace h := tF hc36 h
        exact wX6_read_56 C h hH (lv_sub hl [0] rfl)
      · replace h := tT hc36 h
        refine lv_aload_n hx hb dX6_read_39 rfl (lv_at hl 0 rfl) ?_
        obtain ⟨q40, e40, h⟩ := tB h
        refine rcV C hH hl.1 (mX6_line l e40) cf_RX6_35 ro_15 (RR_of (by decide) (by decide)) rfl (rest := []) rfl (Nat.le_of_ble_eq_true rfl) dX6_read_40 ?_
        intro H locs hH
        refine lv_aload_n hx hb dX6_read_43 rfl (lv_at hl 0 rfl) ?_
        refine lv_bipush (v := 59) hx hb dX6_read_44 (by decide) ?_
        obtain ⟨q46, e46, h⟩ := tB h
        refine rcI C hH hl.1 (mX6_passes l e46) cf_RX6_38 ro_15 (RR_of (by decide) (by decide)) rfl (rest := []) rfl (Nat.le_of_ble_eq_true rfl) dX6_read_46 ?_
        intro hz46 H locs hH
        refine lv_istore_n (lv' := [(1, .int q46.1), (0, .ref (ad 15)), (2, .int v2)]) hx hb dX6_read_49 rfl hl (by decide) rfl (fun ls hl => ?_)
        refine lv_iinc (v := (v2 + 1)) (lv' := [(2, .int (v2 + 1)), (1, .int q46.1), (0, .ref (ad 15))]) hx hb dX6_read_50 hl (k := 2) rfl rfl (by decide) rfl (fun ls hl => ?_)
        refine lv_goto (tgt := 21) hx hb dX6_read_53 (by decide) ?_
        exact hk21 _ _ _ h _ _ _ hH (lv_sub hl [2, 1, 0] rfl)
set_option maxHeartbeats 2000000 in
set_option maxRecDepth 20000 in
theorem wX6_read_21 (C : Cx D ca A p s m args meth c cX6_read RX6 3 (some .int)) {q : Int32 × Mm} : ∀ (N : Nat) (v1 : Int32) (v2 : Int32) (mm : Mm), DX6_read_21 N v1 v2 mm = some q → ∀ (H : Heap) (locs : List Loc) (ls : Array Slot), Hx WN ad ca WS D A s.heap mm H locs → lv_has ls 3 [(0, .ref (ad 15)), (1, .int v1), (2, .int v2)] → W p l e (rmk 110) s m args below meth c H locs 0 0 (MQ below (QcI WN ad ca WS D A pzT q) args s 0 0 A) (F0 m 21 ls []) := by
  intro N
  induction N with
  | zero =>
    intro v1 v2 mm h
    have h2 : (none : Option (Int32 × Mm)) = some q := h
    cases h2
  | succ N ih =>
    intro v1 v2 mm h H locs ls hH hl
    exact wbX6_read_21 C ih h hH hl
set_option maxHeartbeats 2000000 in
set_option maxRecDepth 20000 in
theorem mX6_read (l : Launch) {D : va_G} {ca : Nat → ClassId} {A : Nat → Prop} {ad : Nat → Nat} {mm : Mm} {q : Int32 × Mm} (h : dX6_read mm = some q) : Met l yX6_read (wsOf yX6_read cX6_read 3 (some .int)) (rmk 110) (PcX WN ad ca WS D A [.ref (ad 15)] mm) (QcI WN ad ca WS D A pzT q) 0 0 A := by
  unfold dX6_read at h
  refine ent (by decide) (Nat.le_of_ble_eq_true rfl) (fun p e s m args below meth c hargs C hH ls hl => ?_)
  have hx := C.1
  have hb := C.2.1
  have hl : lv_has ls 3 [(0, .ref (ad 15))] := hl
  refine lv_aload_n hx hb dX6_read_0 rfl (lv_at hl 0 rfl) ?_
  refine rgD C hH fd_RX6_18_15 dX6_read_1 ?_
  obtain ⟨hLa4, h⟩ := tC h
  obtain ⟨q4, e4, h⟩ := tB h
  refine rcV C hH hl.1 (mX5_clear l e4) cf_RX6_26 (ro_la hLa4) (RR_of (by decide) (by decide)) rfl (rest := []) rfl (Nat.le_of_ble_eq_true rfl) dX6_read_4 ?_
  intro H locs hH
  refine lv_aload_n hx hb dX6_read_7 rfl (lv_at hl 0 rfl) ?_
  refine lv_iconst (v := 0) hx hb dX6_read_8 (by decide) ?_
  refine rpI C hH fp_RX6_29_15 rfl rfl dX6_read_9 (fun H locs hH => ?_)
  refine lv_aload_n hx hb dX6_read_12 rfl (lv_at hl 0 rfl) ?_
  refine lv_iconst (v := (-1)) hx hb dX6_read_13 (by decide) ?_
  refine rpI C hH fp_RX6_32_15 rfl rfl dX6_read_14 (fun H locs hH => ?_)
  refine lv_iconst (v := 1) hx hb dX6_read_17 (by decide) ?_
  refine lv_istore_n (lv' := [(1, .int 1), (0, .ref (ad 15))]) hx hb dX6_read_18 rfl hl (by decide) rfl (fun ls hl => ?_)
  refine lv_iconst (v := 0) hx hb dX6_read_19 (by decide) ?_
  refine lv_istore_n (lv' := [(2, .int 0), (1, .int 1), (0, .ref (ad 15))]) hx hb dX6_read_20 rfl hl (by decide) rfl (fun ls hl => ?_)
  exact wX6_read_21 C FU _ _ _ h _ _ _ hH (lv_sub hl [2, 1, 0] rfl)
set_option maxHeartbeats 2000000 in
set_option maxRecDepth 20000 in
theorem mX6_swap (l : Launch) {D : va_G} {ca : Nat → ClassId} {A : Nat → Prop} {ad : Nat → Nat} {v1 : Nat} {mm : Mm} {q : Nat × Mm} (h : dX6_swap v1 mm = some q) : Met l yX6_swap (wsOf yX6_swap cX6_swap 3 (some (.object "BlindSacks$Law"))) (rmk 1) (PcX WN ad ca WS D A [.ref (ad 15), .ref (ad v1)] mm) (QcR WN ad ca WS D A q) 0 0 A := by
  unfold dX6_swap at h
  refine ent (by decide) (Nat.le_of_ble_eq_true rfl) (fun p e s m args below meth c hargs C hH ls hl => ?_)
  have hx := C.1
  have hb := C.2.1
  have hl : lv_has ls 3 [(0, .ref (ad 15)), (1, .ref (ad v1))] := hl
  refine lv_aload_n hx hb dX6_swap_0 rfl (lv_at hl 0 rfl) ?_
  refine rgD C hH fd_RX6_18_15 dX6_swap_1 ?_
  refine lv_astore_n (lv' := [(2, .ref (ad (gR mm 15 1))), (0, .ref (ad 15)), (1, .ref (ad v1))]) hx hb dX6_swap_4 rfl hl (by decide) rfl (fun ls hl => ?_)
  refine lv_aload_n hx hb dX6_swap_5 rfl (lv_at hl 1 rfl) ?_
  refine lv_aload_n hx hb dX6_swap_6 rfl (lv_at hl 2 rfl) ?_
  refine rpD C hH fq_RX6_18_15 dX6_swap_7 (fun H locs hH => ?_)
  refine lv_aload_n hx hb dX6_swap_10 rfl (lv_at hl 0 rfl) ?_
  have h := Option.some.inj h
  subst h
  exact retR C hH dX6_swap_11
set_option maxHeartbeats 2000000 in
set_option maxRecDepth 20000 in
theorem mX9_law (l : Launch) {D : va_G} {ca : Nat → ClassId} {A : Nat → Prop} {ad : Nat → Nat} {mm : Mm} {q : Int32 × Mm} (h : dX9_law mm = some q) : Met l yX9_law (wsOf yX9_law cX9_law 3 (some .int)) (rmk 111) (PcX WN ad ca WS D A [.ref (ad 0)] mm) (QcI WN ad ca WS D A pzT q) 0 0 A := by
  unfold dX9_law at h
  refine ent (by decide) (Nat.le_of_ble_eq_true rfl) (fun p e s m args below meth c hargs C hH ls hl => ?_)
  have hx := C.1
  have hb := C.2.1
  have hl : lv_has ls 3 [(0, .ref (ad 0))] := hl
  refine lv_aload_n hx hb dX9_law_0 rfl (lv_at hl 0 rfl) ?_
  refine rgS C hH fs_RX9_19_0 dX9_law_1 ?_
  obtain ⟨q4, e4, h⟩ := tB h
  refine rcI C hH hl.1 (mX6_read l e4) cf_RX9_112 ro_15 (RR_of (by decide) (by decide)) rfl (rest := []) rfl (Nat.le_of_ble_eq_true rfl) dX9_law_4 ?_
  intro hz4 H locs hH
  refine lv_istore_n (lv' := [(1, .int q4.1), (0, .ref (ad 0))]) hx hb dX9_law_7 rfl hl (by decide) rfl (fun ls hl => ?_)
  refine lv_iload_n hx hb dX9_law_8 rfl (lv_at hl 0 rfl) ?_
  refine lv_if_lt (tgt := 17) hx hb dX9_law_9 (by decide) (fun hc9 => ?_) (fun hc9 => ?_)
  · replace h := tT hc9 h
    refine lv_aload_n hx hb dX9_law_17 rfl (lv_at hl 1 rfl) ?_
    refine rgS C hH fs_RX9_10_0 dX9_law_18 ?_
    refine rgD C hH fd_RX9_115_1 dX9_law_21 ?_
    refine lv_astore_n (lv' := [(2, .ref (ad (gR q4.2 1 4))), (1, .int q4.1), (0, .ref (ad 0))]) hx hb dX9_law_24 rfl hl (by decide) rfl (fun ls hl => ?_)
    refine lv_aload_n hx hb dX9_law_25 rfl (lv_at hl 2 rfl) ?_
    refine rgS C hH fs_RX9_10_0 dX9_law_26 ?_
    refine lv_aload_n hx hb dX9_law_29 rfl (lv_at hl 2 rfl) ?_
    refine rgS C hH fs_RX9_19_0 dX9_law_30 ?_
    refine lv_aload_n hx hb dX9_law_33 rfl (lv_at hl 0 rfl) ?_
    obtain ⟨q34, e34, h⟩ := tB h
    refine rcR C hH hl.1 (mX6_swap l e34) cf_RX9_119 ro_15 (RR_of (by decide) (by decide)) rfl (rest := [.ref (ad 1)]) rfl (Nat.le_of_ble_eq_true rfl) dX9_law_34 ?_
    intro H locs hH
    refine rpD C hH fq_RX9_115_1 dX9_law_37 (fun H locs hH => ?_)
    refine lv_iconst (v := 1) hx hb dX9_law_40 (by decide) ?_
    have h := Option.some.inj h
    subst h
    exact retI C hH trivial dX9_law_41
  · replace h := tF hc9 h
    refine lv_bipush (v := (-100)) hx hb dX9_law_12 (by decide) ?_
    refine lv_iload_n hx hb dX9_law_14 rfl (lv_at hl 0 rfl) ?_
    refine lv_isub hx hb dX9_law_15 ?_
    have h := Option.some.inj h
    subst h
    exact retI C hH trivial dX9_law_16
set_option maxHeartbeats 2000000 in
set_option maxRecDepth 20000 in
theorem mX10_byteAt (l : Launch) {D : va_G} {ca : Nat → ClassId} {A : Nat → Prop} {ad : Nat → Nat} {mm : Mm} {q : Int32 × Mm} (h : dX10_byteAt mm = some q) : Met l yX10_byteAt (wsOf yX10_byteAt cX10_byteAt 1 (some .int)) (rmk 1) (PcX WN ad ca WS D A [.ref (ad 58)] mm) (QcI WN ad ca WS D A pzT q) 0 0 A := by
  unfold dX10_byteAt at h
  refine ent (by decide) (Nat.le_of_ble_eq_true rfl) (fun p e s m args below meth c hargs C hH ls hl => ?_)
  have hx := C.1
  have hb := C.2.1
  have hl : lv_has ls 1 [(0, .ref (ad 58))] := hl
  refine lv_aload_n hx hb dX10_byteAt_0 rfl (lv_at hl 0 rfl) ?_
  refine rgI C hH fi_RX10_157_58 dX10_byteAt_1 ?_
  refine lv_aload_n hx hb dX10_byteAt_4 rfl (lv_at hl 0 rfl) ?_
  refine rgI C hH fi_RX10_160_58 dX10_byteAt_5 ?_
  refine lv_icmp_ge (tgt := 47) hx hb dX10_byteAt_8 (by decide) (fun hc8 => ?_) (fun hc8 => ?_)
  · replace h := tT hc8 h
    refine lv_iconst (v := 0) hx hb dX10_byteAt_47 (by decide) ?_
    have h := Option.some.inj h
    subst h
    exact retI C hH trivial dX10_byteAt_48
  · replace h := tF hc8 h
    refine lv_aload_n hx hb dX10_byteAt_11 rfl (lv_at hl 0 rfl) ?_
    refine rgI C hH fi_RX10_163_58 dX10_byteAt_12 ?_
    refine lv_if_ge (tgt := 30) hx hb dX10_byteAt_15 (by decide) (fun hc15 => ?_) (fun hc15 => ?_)
    · replace h := tT hc15 h
      refine lv_aload_n hx hb dX10_byteAt_30 rfl (lv_at hl 0 rfl) ?_
      refine rgS C hH fs_RX10_32_58 dX10_byteAt_31 ?_
      refine lv_aload_n hx hb dX10_byteAt_34 rfl (lv_at hl 0 rfl) ?_
      refine rgI C hH fi_RX10_163_58 dX10_byteAt_35 ?_
      refine lv_aload_n hx hb dX10_byteAt_38 rfl (lv_at hl 0 rfl) ?_
      refine rgI C hH fi_RX10_157_58 dX10_byteAt_39 ?_
      refine lv_iadd hx hb dX10_byteAt_42 ?_
      obtain ⟨hi43, h⟩ := tC h
      refine raI C hH (k := (Int32.toNatClampNeg ((gI mm 58 14) + (gI mm 58 15)))) (by decide) (show WS 66 = .inr (0, 120, 0) from rfl) hi43 rfl dX10_byteAt_43 ?_
      refine lv_goto (tgt := 48) hx hb dX10_byteAt_44 (by decide) ?_
      have h := Option.some.inj h
      subst h
      exact retI C hH trivial dX10_byteAt_48
    · replace h := tF hc15 h
      refine lv_aload_n hx hb dX10_byteAt_18 rfl (lv_at hl 0 rfl) ?_
      refine rgS C hH fs_RX10_29_58 dX10_byteAt_19 ?_
      refine lv_aload_n hx hb dX10_byteAt_22 rfl (lv_at hl 0 rfl) ?_
      refine rgI C hH fi_RX10_157_58 dX10_byteAt_23 ?_
      obtain ⟨hi26, h⟩ := tC h
      refine raI C hH (k := (Int32.toNatClampNeg (gI mm 58 15))) (by decide) (show WS 65 = .inr (0, 120, 0) from rfl) hi26 rfl dX10_byteAt_26 ?_
      refine lv_goto (tgt := 48) hx hb dX10_byteAt_27 (by decide) ?_
      have h := Option.some.inj h
      subst h
      exact retI C hH trivial dX10_byteAt_48
set_option maxHeartbeats 2000000 in
set_option maxRecDepth 20000 in
theorem wX10_takes_15 (C : Cx D ca A p s m args meth c cX10_takes RX10 2 (some .boolean)) {q : Int32 × Mm} {mm : Mm} (h : DX10_takes_15 mm = some q) (hH : Hx WN ad ca WS D A s.heap mm H locs) (hl : lv_has ls 2 []) : W p l e (rmk 2) s m args below meth c H locs 0 0 (MQ below (QcI WN ad ca WS D A pzZ q) args s 0 0 A) (F0 m 15 ls []) := by
  unfold DX10_takes_15 at h
  have hx := C.1
  have hb := C.2.1
  refine lv_iconst (v := 0) hx hb dX10_takes_15 (by decide) ?_
  have h := Option.some.inj h
  subst h
  exact retZ C hH (Or.inl rfl) dX10_takes_16
set_option maxHeartbeats 2000000 in
set_option maxRecDepth 20000 in
theorem mX10_takes (l : Launch) {D : va_G} {ca : Nat → ClassId} {A : Nat → Prop} {ad : Nat → Nat} {v1 : Int32} {mm : Mm} {q : Int32 × Mm} (h : dX10_takes v1 mm = some q) : Met l yX10_takes (wsOf yX10_takes cX10_takes 2 (some .boolean)) (rmk 2) (PcX WN ad ca WS D A [.ref (ad 58), .int v1] mm) (QcI WN ad ca WS D A pzZ q) 0 0 A := by
  unfold dX10_takes at h
  refine ent (by decide) (Nat.le_of_ble_eq_true rfl) (fun p e s m args below meth c hargs C hH ls hl => ?_)
  have hx := C.1
  have hb := C.2.1
  have hl : lv_has ls 2 [(0, .ref (ad 58)), (1, .int v1)] := hl
  refine lv_aload_n hx hb dX10_takes_0 rfl (lv_at hl 0 rfl) ?_
  refine rgI C hH fi_RX10_166_58 dX10_takes_1 ?_
  refine lv_if_ge (tgt := 15) hx hb dX10_takes_4 (by decide) (fun hc4 => ?_) (fun hc4 => ?_)
  · replace h := tT hc4 h
    exact wX10_takes_15 C h hH (lv_sub hl [] rfl)
  · replace h := tF hc4 h
    refine lv_aload_n hx hb dX10_takes_7 rfl (lv_at hl 0 rfl) ?_
    obtain ⟨q8, e8, h⟩ := tB h
    refine rcI C hH hl.1 (mX10_byteAt l e8) cf_RX10_169 ro_58 (RR_of (by decide) (by decide)) rfl (rest := []) rfl (Nat.le_of_ble_eq_true rfl) dX10_takes_8 ?_
    intro hz8 H locs hH
    refine lv_iload_n hx hb dX10_takes_11 rfl (lv_at hl 1 rfl) ?_
    refine lv_icmp_eq (tgt := 17) hx hb dX10_takes_12 (by decide) (fun hc12 => ?_) (fun hc12 => ?_)
    · replace h := tT hc12 h
      refine lv_aload_n hx hb dX10_takes_17 rfl (lv_at hl 0 rfl) ?_
      refine lv_dup hx hb dX10_takes_18 rfl ?_
      refine rgI C hH fi_RX10_157_58 dX10_takes_19 ?_
      refine lv_iconst (v := 1) hx hb dX10_takes_22 (by decide) ?_
      refine lv_iadd hx hb dX10_takes_23 ?_
      refine rpI C hH fp_RX10_157_58 rfl rfl dX10_takes_24 (fun H locs hH => ?_)
      refine lv_iconst (v := 1) hx hb dX10_takes_27 (by decide) ?_
      have h := Option.some.inj h
      subst h
      exact retZ C hH (Or.inr rfl) dX10_takes_28
    · replace h := tF hc12 h
      exact wX10_takes_15 C h hH (lv_sub hl [] rfl)
set_option maxHeartbeats 2000000 in
set_option maxRecDepth 20000 in
theorem wX10_wrong_19 (C : Cx D ca A p s m args meth c cX10_wrong RX10 1 (some .int)) {q : Int32 × Mm} {s0 : Int32} {mm : Mm} (h : DX10_wrong_19 s0 mm = some q) (hH : Hx WN ad ca WS D A s.heap mm H locs) (hl : lv_has ls 1 []) : W p l e (rmk 1) s m args below meth c H locs 0 0 (MQ below (QcI WN ad ca WS D A pzT q) args s 0 0 A) (F0 m 19 ls [.int s0, .ref (ad 58)]) := by
  unfold DX10_wrong_19 at h
  have hx := C.1
  have hb := C.2.1
  refine rpI C hH fp_RX10_166_58 rfl rfl dX10_wrong_19 (fun H locs hH => ?_)
  refine lv_iconst (v := 0) hx hb dX10_wrong_22 (by decide) ?_
  have h := Option.some.inj h
  subst h
  exact retI C hH trivial dX10_wrong_23
set_option maxHeartbeats 2000000 in
set_option maxRecDepth 20000 in
theorem mX10_wrong (l : Launch) {D : va_G} {ca : Nat → ClassId} {A : Nat → Prop} {ad : Nat → Nat} {mm : Mm} {q : Int32 × Mm} (h : dX10_wrong mm = some q) : Met l yX10_wrong (wsOf yX10_wrong cX10_wrong 1 (some .int)) (rmk 1) (PcX WN ad ca WS D A [.ref (ad 58)] mm) (QcI WN ad ca WS D A pzT q) 0 0 A := by
  unfold dX10_wrong at h
  refine ent (by decide) (Nat.le_of_ble_eq_true rfl) (fun p e s m args below meth c hargs C hH ls hl => ?_)
  have hx := C.1
  have hb := C.2.1
  have hl : lv_has ls 1 [(0, .ref (ad 58))] := hl
  refine lv_aload_n hx hb dX10_wrong_0 rfl (lv_at hl 0 rfl) ?_
  refine lv_aload_n hx hb dX10_wrong_1 rfl (lv_at hl 0 rfl) ?_
  refine rgI C hH fi_RX10_166_58 dX10_wrong_2 ?_
  refine lv_if_ge (tgt := 15) hx hb dX10_wrong_5 (by decide) (fun hc5 => ?_) (fun hc5 => ?_)
  · replace h := tT hc5 h
    refine lv_aload_n hx hb dX10_wrong_15 rfl (lv_at hl 0 rfl) ?_
    refine rgI C hH fi_RX10_166_58 dX10_wrong_16 ?_
    exact wX10_wrong_19 C h hH (lv_sub hl [] rfl)
  · replace h := tF hc5 h
    refine lv_aload_n hx hb dX10_wrong_8 rfl (lv_at hl 0 rfl) ?_
    refine rgI C hH fi_RX10_157_58 dX10_wrong_9 ?_
    refine lv_goto (tgt := 19) hx hb dX10_wrong_12 (by decide) ?_
    exact wX10_wrong_19 C h hH (lv_sub hl [] rfl)
set_option maxHeartbeats 2000000 in
set_option maxRecDepth 20000 in
theorem mX10_nameOf (l : Launch) {D : va_G} {ca : Nat → ClassId} {A : Nat → Prop} {ad : Nat → Nat} {v0 : Int32} {mm : Mm} {q : Int32 × Mm} (h : dX10_nameOf v0 mm = some q) : Met l yX10_nameOf (wsOf yX10_nameOf cX10_nameOf 1 (some .int)) (rmk 1) (PcX WN ad ca WS D A [.int v0] mm) (QcI WN ad ca WS D A pzT q) 0 0 A := by
  unfold dX10_nameOf at h
  refine ent (by decide) (Nat.le_of_ble_eq_true rfl) (fun p e s m args below meth c hargs C hH ls hl => ?_)
  have hx := C.1
  have hb := C.2.1
  have hl : lv_has ls 1 [(0, .int v0)] := hl
  refine lv_iload_n hx hb dX10_nameOf_0 rfl (lv_at hl 0 rfl) ?_
  by_cases hc1_97 : v0 = 97
  · replace h := tT hc1_97 h
    refine lv_lookup (tgt := 64) hx hb dX10_nameOf_1 (by decide) (by first | (rw [hc1_97]; done) | (rw [hc1_97]; rfl)) (by decide) ?_
    refine lv_iconst (v := 2) hx hb dX10_nameOf_64 (by decide) ?_
    have h := Option.some.inj h
    subst h
    exact retI C hH trivial dX10_nameOf_65
  · replace h := tF hc1_97 h
    by_cases hc1_98 : v0 = 98
    · replace h := tT hc1_98 h
      refine lv_lookup (tgt := 70) hx hb dX10_nameOf_1 (by decide) (by first | (rw [hc1_98]; done) | (rw [hc1_98]; rfl)) (by decide) ?_
      refine lv_iconst (v := 5) hx hb dX10_nameOf_70 (by decide) ?_
      have h := Option.some.inj h
      subst h
      exact retI C hH trivial dX10_nameOf_71
    · replace h := tF hc1_98 h
      by_cases hc1_103 : v0 = 103
      · replace h := tT hc1_103 h
        refine lv_lookup (tgt := 68) hx hb dX10_nameOf_1 (by decide) (by first | (rw [hc1_103]; done) | (rw [hc1_103]; rfl)) (by decide) ?_
        refine lv_iconst (v := 4) hx hb dX10_nameOf_68 (by decide) ?_
        have h := Option.some.inj h
        subst h
        exact retI C hH trivial dX10_nameOf_69
      · replace h := tF hc1_103 h
        by_cases hc1_112 : v0 = 112
        · replace h := tT hc1_112 h
          refine lv_lookup (tgt := 60) hx hb dX10_nameOf_1 (by decide) (by first | (rw [hc1_112]; done) | (rw [hc1_112]; rfl)) (by decide) ?_
          refine lv_iconst (v := 0) hx hb dX10_nameOf_60 (by decide) ?_
          have h := Option.some.inj h
          subst h
          exact retI C hH trivial dX10_nameOf_61
        · replace h := tF hc1_112 h
          by_cases hc1_115 : v0 = 115
          · replace h := tT hc1_115 h
            refine lv_lookup (tgt := 66) hx hb dX10_nameOf_1 (by decide) (by first | (rw [hc1_115]; done) | (rw [hc1_115]; rfl)) (by decide) ?_
            refine lv_iconst (v := 3) hx hb dX10_nameOf_66 (by decide) ?_
            have h := Option.some.inj h
            subst h
            exact retI C hH trivial dX10_nameOf_67
          · replace h := tF hc1_115 h
            by_cases hc1_119 : v0 = 119
            · replace h := tT hc1_119 h
              refine lv_lookup (tgt := 62) hx hb dX10_nameOf_1 (by decide) (by first | (rw [hc1_119]; done) | (rw [hc1_119]; rfl)) (by decide) ?_
              refine lv_iconst (v := 1) hx hb dX10_nameOf_62 (by decide) ?_
              have h := Option.some.inj h
              subst h
              exact retI C hH trivial dX10_nameOf_63
            · replace h := tF hc1_119 h
              refine lv_lookup (tgt := 72) hx hb dX10_nameOf_1 (by decide) (off := 71) (by rw [lv_osw (k := 97) (a := 97) hc1_97 rfl]; rw [lv_osw (k := 98) (a := 98) hc1_98 rfl]; rw [lv_osw (k := 103) (a := 103) hc1_103 rfl]; rw [lv_osw (k := 112) (a := 112) hc1_112 rfl]; rw [lv_osw (k := 115) (a := 115) hc1_115 rfl]; rw [lv_osw (k := 119) (a := 119) hc1_119 rfl]; try rfl) (by decide) ?_
              refine lv_iconst (v := (-1)) hx hb dX10_nameOf_72 (by decide) ?_
              have h := Option.some.inj h
              subst h
              exact retI C hH trivial dX10_nameOf_73
set_option maxHeartbeats 2000000 in
set_option maxRecDepth 20000 in
theorem wX10_either_32 (C : Cx D ca A p s m args meth c cX10_either RX10 3 (some .int)) {q : Int32 × Mm} {lev : Nat} (hlev : 3 ≤ lev + 1) {r_X10_either : Mm → Option (Int32 × Mm)} {r_X10_both : Mm → Option (Int32 × Mm)} {r_X10_compared : Mm → Option (Int32 × Mm)} {r_X10_sums : Mm → Option (Int32 × Mm)} {r_X10_product : Mm → Option (Int32 × Mm)} {r_X10_one : Mm → Option (Int32 × Mm)} (hr_X10_either : ∀ (mm : Mm) (q : Int32 × Mm), r_X10_either mm = some q → Met l yX10_either (wsOf yX10_either cX10_either 3 (some .int)) (rmk lev) (PcX WN ad ca WS D A [.ref (ad 58)] mm) (QcI WN ad ca WS D A pzT q) 0 0 A) (hr_X10_both : ∀ (mm : Mm) (q : Int32 × Mm), r_X10_both mm = some q → Met l yX10_both (wsOf yX10_both cX10_both 3 (some .int)) (rmk lev) (PcX WN ad ca WS D A [.ref (ad 58)] mm) (QcI WN ad ca WS D A pzT q) 0 0 A) (hr_X10_compared : ∀ (mm : Mm) (q : Int32 × Mm), r_X10_compared mm = some q → Met l yX10_compared (wsOf yX10_compared cX10_compared 4 (some .int)) (rmk lev) (PcX WN ad ca WS D A [.ref (ad 58)] mm) (QcI WN ad ca WS D A pzT q) 0 0 A) (hr_X10_sums : ∀ (mm : Mm) (q : Int32 × Mm), r_X10_sums mm = some q → Met l yX10_sums (wsOf yX10_sums cX10_sums 4 (some .int)) (rmk lev) (PcX WN ad ca WS D A [.ref (ad 58)] mm) (QcI WN ad ca WS D A pzT q) 0 0 A) (hr_X10_product : ∀ (mm : Mm) (q : Int32 × Mm), r_X10_product mm = some q → Met l yX10_product (wsOf yX10_product cX10_product 4 (some .int)) (rmk lev) (PcX WN ad ca WS D A [.ref (ad 58)] mm) (QcI WN ad ca WS D A pzT q) 0 0 A) (hr_X10_one : ∀ (mm : Mm) (q : Int32 × Mm), r_X10_one mm = some q → Met l yX10_one (wsOf yX10_one cX10_one 5 (some .int)) (rmk lev) (PcX WN ad ca WS D A [.ref (ad 58)] mm) (QcI WN ad ca WS D A pzT q) 0 0 A) {k5 : Int32 → Mm → Option (Int32 × Mm)} (hk5 : ∀ (v1 : Int32) (mm : Mm), k5 v1 mm = some q → ∀ (H : Heap) (locs : List Loc) (ls : Array Slot), Hx WN ad ca WS D A s.heap mm H locs → lv_has ls 3 [(0, .ref (ad 58)), (1, .int v1)] → W p l e (rmk (lev + 1)) s m args below meth c H locs 0 0 (MQ below (QcI WN ad ca WS D A pzT q) args s 0 0 A) (F0 m 5 ls [])) {s0 : Int32} {mm : Mm} (h : DX10_either_32 r_X10_either r_X10_both r_X10_compared r_X10_sums r_X10_product r_X10_one k5 s0 mm = some q) (hH : Hx WN ad ca WS D A s.heap mm H locs) (hl : lv_has ls 3 [(0, .ref (ad 58))]) : W p l e (rmk (lev + 1)) s m args below meth c H locs 0 0 (MQ below (QcI WN ad ca WS D A pzT q) args s 0 0 A) (F0 m 32 ls [.int s0]) := by
  unfold DX10_either_32 at h
  have hx := C.1
  have hb := C.2.1
  refine lv_istore_n (lv' := [(1, .int s0), (0, .ref (ad 58))]) hx hb dX10_either_32 rfl hl (by decide) rfl (fun ls hl => ?_)
  refine lv_goto (tgt := 5) hx hb dX10_either_33 (by decide) ?_
  exact hk5 _ _ h _ _ _ hH (lv_sub hl [1, 0] rfl)
set_option maxHeartbeats 2000000 in
set_option maxRecDepth 20000 in
theorem wX10_either_27 (C : Cx D ca A p s m args meth c cX10_either RX10 3 (some .int)) {q : Int32 × Mm} {lev : Nat} (hlev : 3 ≤ lev + 1) {r_X10_either : Mm → Option (Int32 × Mm)} {r_X10_both : Mm → Option (Int32 × Mm)} {r_X10_compared : Mm → Option (Int32 × Mm)} {r_X10_sums : Mm → Option (Int32 × Mm)} {r_X10_product : Mm → Option (Int32 × Mm)} {r_X10_one : Mm → Option (Int32 × Mm)} (hr_X10_either : ∀ (mm : Mm) (q : Int32 × Mm), r_X10_either mm = some q → Met l yX10_either (wsOf yX10_either cX10_either 3 (some .int)) (rmk lev) (PcX WN ad ca WS D A [.ref (ad 58)] mm) (QcI WN ad ca WS D A pzT q) 0 0 A) (hr_X10_both : ∀ (mm : Mm) (q : Int32 × Mm), r_X10_both mm = some q → Met l yX10_both (wsOf yX10_both cX10_both 3 (some .int)) (rmk lev) (PcX WN ad ca WS D A [.ref (ad 58)] mm) (QcI WN ad ca WS D A pzT q) 0 0 A) (hr_X10_compared : ∀ (mm : Mm) (q : Int32 × Mm), r_X10_compared mm = some q → Met l yX10_compared (wsOf yX10_compared cX10_compared 4 (some .int)) (rmk lev) (PcX WN ad ca WS D A [.ref (ad 58)] mm) (QcI WN ad ca WS D A pzT q) 0 0 A) (hr_X10_sums : ∀ (mm : Mm) (q : Int32 × Mm), r_X10_sums mm = some q → Met l yX10_sums (wsOf yX10_sums cX10_sums 4 (some .int)) (rmk lev) (PcX WN ad ca WS D A [.ref (ad 58)] mm) (QcI WN ad ca WS D A pzT q) 0 0 A) (hr_X10_product : ∀ (mm : Mm) (q : Int32 × Mm), r_X10_product mm = some q → Met l yX10_product (wsOf yX10_product cX10_product 4 (some .int)) (rmk lev) (PcX WN ad ca WS D A [.ref (ad 58)] mm) (QcI WN ad ca WS D A pzT q) 0 0 A) (hr_X10_one : ∀ (mm : Mm) (q : Int32 × Mm), r_X10_one mm = some q → Met l yX10_one (wsOf yX10_one cX10_one 5 (some .int)) (rmk lev) (PcX WN ad ca WS D A [.ref (ad 58)] mm) (QcI WN ad ca WS D A pzT q) 0 0 A) {k5 : Int32 → Mm → Option (Int32 × Mm)} (hk5 : ∀ (v1 : Int32) (mm : Mm), k5 v1 mm = some q → ∀ (H : Heap) (locs : List Loc) (ls : Array Slot), Hx WN ad ca WS D A s.heap mm H locs → lv_has ls 3 [(0, .ref (ad 58)), (1, .int v1)] → W p l e (rmk (lev + 1)) s m args below meth c H locs 0 0 (MQ below (QcI WN ad ca WS D A pzT q) args s 0 0 A) (F0 m 5 ls [])) {mm : Mm} (h : DX10_either_27 r_X10_either r_X10_both r_X10_compared r_X10_sums r_X10_product r_X10_one k5 mm = some q) (hH : Hx WN ad ca WS D A s.heap mm H locs) (hl : lv_has ls 3 [(0, .ref (ad 58))]) : W p l e (rmk (lev + 1)) s m args below meth c H locs 0 0 (MQ below (QcI WN ad ca WS D A pzT q) args s 0 0 A) (F0 m 27 ls []) := by
  unfold DX10_either_27 at h
  have hx := C.1
  have hb := C.2.1
  refine lv_iconst (v := 1) hx hb dX10_either_27 (by decide) ?_
  refine lv_goto (tgt := 32) hx hb dX10_either_28 (by decide) ?_
  exact wX10_either_32 C hlev hr_X10_either hr_X10_both hr_X10_compared hr_X10_sums hr_X10_product hr_X10_one hk5 h hH (lv_sub hl [0] rfl)
set_option maxHeartbeats 2000000 in
set_option maxRecDepth 20000 in
theorem wbX10_either_5 (C : Cx D ca A p s m args meth c cX10_either RX10 3 (some .int)) {q : Int32 × Mm} {lev : Nat} (hlev : 3 ≤ lev + 1) {r_X10_either : Mm → Option (Int32 × Mm)} {r_X10_both : Mm → Option (Int32 × Mm)} {r_X10_compared : Mm → Option (Int32 × Mm)} {r_X10_sums : Mm → Option (Int32 × Mm)} {r_X10_product : Mm → Option (Int32 × Mm)} {r_X10_one : Mm → Option (Int32 × Mm)} (hr_X10_either : ∀ (mm : Mm) (q : Int32 × Mm), r_X10_either mm = some q → Met l yX10_either (wsOf yX10_either cX10_either 3 (some .int)) (rmk lev) (PcX WN ad ca WS D A [.ref (ad 58)] mm) (QcI WN ad ca WS D A pzT q) 0 0 A) (hr_X10_both : ∀ (mm : Mm) (q : Int32 × Mm), r_X10_both mm = some q → Met l yX10_both (wsOf yX10_both cX10_both 3 (some .int)) (rmk lev) (PcX WN ad ca WS D A [.ref (ad 58)] mm) (QcI WN ad ca WS D A pzT q) 0 0 A) (hr_X10_compared : ∀ (mm : Mm) (q : Int32 × Mm), r_X10_compared mm = some q → Met l yX10_compared (wsOf yX10_compared cX10_compared 4 (some .int)) (rmk lev) (PcX WN ad ca WS D A [.ref (ad 58)] mm) (QcI WN ad ca WS D A pzT q) 0 0 A) (hr_X10_sums : ∀ (mm : Mm) (q : Int32 × Mm), r_X10_sums mm = some q → Met l yX10_sums (wsOf yX10_sums cX10_sums 4 (some .int)) (rmk lev) (PcX WN ad ca WS D A [.ref (ad 58)] mm) (QcI WN ad ca WS D A pzT q) 0 0 A) (hr_X10_product : ∀ (mm : Mm) (q : Int32 × Mm), r_X10_product mm = some q → Met l yX10_product (wsOf yX10_product cX10_product 4 (some .int)) (rmk lev) (PcX WN ad ca WS D A [.ref (ad 58)] mm) (QcI WN ad ca WS D A pzT q) 0 0 A) (hr_X10_one : ∀ (mm : Mm) (q : Int32 × Mm), r_X10_one mm = some q → Met l yX10_one (wsOf yX10_one cX10_one 5 (some .int)) (rmk lev) (PcX WN ad ca WS D A [.ref (ad 58)] mm) (QcI WN ad ca WS D A pzT q) 0 0 A) {k5 : Int32 → Mm → Option (Int32 × Mm)} (hk5 : ∀ (v1 : Int32) (mm : Mm), k5 v1 mm = some q → ∀ (H : Heap) (locs : List Loc) (ls : Array Slot), Hx WN ad ca WS D A s.heap mm H locs → lv_has ls 3 [(0, .ref (ad 58)), (1, .int v1)] → W p l e (rmk (lev + 1)) s m args below meth c H locs 0 0 (MQ below (QcI WN ad ca WS D A pzT q) args s 0 0 A) (F0 m 5 ls [])) {v1 : Int32} {mm : Mm} (h : BX10_either_5 r_X10_either r_X10_both r_X10_compared r_X10_sums r_X10_product r_X10_one k5 v1 mm = some q) (hH : Hx WN ad ca WS D A s.heap mm H locs) (hl : lv_has ls 3 [(0, .ref (ad 58)), (1, .int v1)]) : W p l e (rmk (lev + 1)) s m args below meth c H locs 0 0 (MQ below (QcI WN ad ca WS D A pzT q) args s 0 0 A) (F0 m 5 ls []) := by
  unfold BX10_either_5 at h
  have hx := C.1
  have hb := C.2.1
  refine lv_aload_n hx hb dX10_either_5 rfl (lv_at hl 0 rfl) ?_
  refine lv_bipush (v := 124) hx hb dX10_either_6 (by decide) ?_
  obtain ⟨q8, e8, h⟩ := tB h
  refine rcI C hH hl.1 (mX10_takes l e8) cf_RX10_176 ro_58 (RR_of (by omega) (by decide)) rfl (rest := []) rfl (Nat.le_of_ble_eq_true rfl) dX10_either_8 ?_
  intro hz8 H locs hH
  refine lv_if_eq (tgt := 36) hx hb dX10_either_11 (by decide) (fun hc11 => ?_) (fun hc11 => ?_)
  · replace h := tT hc11 h
    refine lv_iload_n hx hb dX10_either_36 rfl (lv_at hl 1 rfl) ?_
    have h := Option.some.inj h
    subst h
    exact retI C hH trivial dX10_either_37
  · replace h := tF hc11 h
    refine lv_aload_n hx hb dX10_either_14 rfl (lv_at hl 0 rfl) ?_
    obtain ⟨q15, e15, h⟩ := tB h
    refine rcI C hH hl.1 (hr_X10_both _ _ e15) cf_RX10_173 ro_58 (RR_of (by omega) (by decide)) rfl (rest := []) rfl (Nat.le_of_ble_eq_true rfl) dX10_either_15 ?_
    intro hz15 H locs hH
    refine lv_istore_n (lv' := [(2, .int q15.1), (0, .ref (ad 58)), (1, .int v1)]) hx hb dX10_either_18 rfl hl (by decide) rfl (fun ls hl => ?_)
    refine lv_iload_n hx hb dX10_either_19 rfl (lv_at hl 2 rfl) ?_
    refine lv_if_ne (tgt := 27) hx hb dX10_either_20 (by decide) (fun hc20 => ?_) (fun hc20 => ?_)
    · replace h := tF hc20 h
      exact wX10_either_27 C hlev hr_X10_either hr_X10_both hr_X10_compared hr_X10_sums hr_X10_product hr_X10_one hk5 h hH (lv_sub hl [1] rfl)
    · replace h := tT hc20 h
      refine lv_iload_n hx hb dX10_either_23 rfl (lv_at hl 0 rfl) ?_
      refine lv_if_eq (tgt := 31) hx hb dX10_either_24 (by decide) (fun hc24 => ?_) (fun hc24 => ?_)
      · replace h := tT hc24 h
        refine lv_iconst (v := 0) hx hb dX10_either_31 (by decide) ?_
        exact wX10_either_32 C hlev hr_X10_either hr_X10_both hr_X10_compared hr_X10_sums hr_X10_product hr_X10_one hk5 h hH (lv_sub hl [1] rfl)
      · replace h := tF hc24 h
        exact wX10_either_27 C hlev hr_X10_either hr_X10_both hr_X10_compared hr_X10_sums hr_X10_product hr_X10_one hk5 h hH (lv_sub hl [1] rfl)
set_option maxHeartbeats 2000000 in
set_option maxRecDepth 20000 in
theorem wX10_either_5 (C : Cx D ca A p s m args meth c cX10_either RX10 3 (some .int)) {q : Int32 × Mm} {lev : Nat} (hlev : 3 ≤ lev + 1) {r_X10_either : Mm → Option (Int32 × Mm)} {r_X10_both : Mm → Option (Int32 × Mm)} {r_X10_compared : Mm → Option (Int32 × Mm)} {r_X10_sums : Mm → Option (Int32 × Mm)} {r_X10_product : Mm → Option (Int32 × Mm)} {r_X10_one : Mm → Option (Int32 × Mm)} (hr_X10_either : ∀ (mm : Mm) (q : Int32 × Mm), r_X10_either mm = some q → Met l yX10_either (wsOf yX10_either cX10_either 3 (some .int)) (rmk lev) (PcX WN ad ca WS D A [.ref (ad 58)] mm) (QcI WN ad ca WS D A pzT q) 0 0 A) (hr_X10_both : ∀ (mm : Mm) (q : Int32 × Mm), r_X10_both mm = some q → Met l yX10_both (wsOf yX10_both cX10_both 3 (some .int)) (rmk lev) (PcX WN ad ca WS D A [.ref (ad 58)] mm) (QcI WN ad ca WS D A pzT q) 0 0 A) (hr_X10_compared : ∀ (mm : Mm) (q : Int32 × Mm), r_X10_compared mm = some q → Met l yX10_compared (wsOf yX10_compared cX10_compared 4 (some .int)) (rmk lev) (PcX WN ad ca WS D A [.ref (ad 58)] mm) (QcI WN ad ca WS D A pzT q) 0 0 A) (hr_X10_sums : ∀ (mm : Mm) (q : Int32 × Mm), r_X10_sums mm = some q → Met l yX10_sums (wsOf yX10_sums cX10_sums 4 (some .int)) (rmk lev) (PcX WN ad ca WS D A [.ref (ad 58)] mm) (QcI WN ad ca WS D A pzT q) 0 0 A) (hr_X10_product : ∀ (mm : Mm) (q : Int32 × Mm), r_X10_product mm = some q → Met l yX10_product (wsOf yX10_product cX10_product 4 (some .int)) (rmk lev) (PcX WN ad ca WS D A [.ref (ad 58)] mm) (QcI WN ad ca WS D A pzT q) 0 0 A) (hr_X10_one : ∀ (mm : Mm) (q : Int32 × Mm), r_X10_one mm = some q → Met l yX10_one (wsOf yX10_one cX10_one 5 (some .int)) (rmk lev) (PcX WN ad ca WS D A [.ref (ad 58)] mm) (QcI WN ad ca WS D A pzT q) 0 0 A) : ∀ (N : Nat) (v1 : Int32) (mm : Mm), DX10_either_5 r_X10_either r_X10_both r_X10_compared r_X10_sums r_X10_product r_X10_one N v1 mm = some q → ∀ (H : Heap) (locs : List Loc) (ls : Array Slot), Hx WN ad ca WS D A s.heap mm H locs → lv_has ls 3 [(0, .ref (ad 58)), (1, .int v1)] → W p l e (rmk (lev + 1)) s m args below meth c H locs 0 0 (MQ below (QcI WN ad ca WS D A pzT q) args s 0 0 A) (F0 m 5 ls []) := by
  intro N
  induction N with
  | zero =>
    intro v1 mm h
    have h2 : (none : Option (Int32 × Mm)) = some q := h
    cases h2
  | succ N ih =>
    intro v1 mm h H locs ls hH hl
    exact wbX10_either_5 C hlev hr_X10_either hr_X10_both hr_X10_compared hr_X10_sums hr_X10_product hr_X10_one ih h hH hl
set_option maxHeartbeats 2000000 in
set_option maxRecDepth 20000 in
theorem mbX10_either (l : Launch) {D : va_G} {ca : Nat → ClassId} {A : Nat → Prop} {ad : Nat → Nat} {lev : Nat} (hlev : 3 ≤ lev + 1) {r_X10_either : Mm → Option (Int32 × Mm)} {r_X10_both : Mm → Option (Int32 × Mm)} {r_X10_compared : Mm → Option (Int32 × Mm)} {r_X10_sums : Mm → Option (Int32 × Mm)} {r_X10_product : Mm → Option (Int32 × Mm)} {r_X10_one : Mm → Option (Int32 × Mm)} (hr_X10_either : ∀ (mm : Mm) (q : Int32 × Mm), r_X10_either mm = some q → Met l yX10_either (wsOf yX10_either cX10_either 3 (some .int)) (rmk lev) (PcX WN ad ca WS D A [.ref (ad 58)] mm) (QcI WN ad ca WS D A pzT q) 0 0 A) (hr_X10_both : ∀ (mm : Mm) (q : Int32 × Mm), r_X10_both mm = some q → Met l yX10_both (wsOf yX10_both cX10_both 3 (some .int)) (rmk lev) (PcX WN ad ca WS D A [.ref (ad 58)] mm) (QcI WN ad ca WS D A pzT q) 0 0 A) (hr_X10_compared : ∀ (mm : Mm) (q : Int32 × Mm), r_X10_compared mm = some q → Met l yX10_compared (wsOf yX10_compared cX10_compared 4 (some .int)) (rmk lev) (PcX WN ad ca WS D A [.ref (ad 58)] mm) (QcI WN ad ca WS D A pzT q) 0 0 A) (hr_X10_sums : ∀ (mm : Mm) (q : Int32 × Mm), r_X10_sums mm = some q → Met l yX10_sums (wsOf yX10_sums cX10_sums 4 (some .int)) (rmk lev) (PcX WN ad ca WS D A [.ref (ad 58)] mm) (QcI WN ad ca WS D A pzT q) 0 0 A) (hr_X10_product : ∀ (mm : Mm) (q : Int32 × Mm), r_X10_product mm = some q → Met l yX10_product (wsOf yX10_product cX10_product 4 (some .int)) (rmk lev) (PcX WN ad ca WS D A [.ref (ad 58)] mm) (QcI WN ad ca WS D A pzT q) 0 0 A) (hr_X10_one : ∀ (mm : Mm) (q : Int32 × Mm), r_X10_one mm = some q → Met l yX10_one (wsOf yX10_one cX10_one 5 (some .int)) (rmk lev) (PcX WN ad ca WS D A [.ref (ad 58)] mm) (QcI WN ad ca WS D A pzT q) 0 0 A) {mm : Mm} {q : Int32 × Mm} (h : bX10_either r_X10_either r_X10_both r_X10_compared r_X10_sums r_X10_product r_X10_one mm = some q) : Met l yX10_either (wsOf yX10_either cX10_either 3 (some .int)) (rmk (lev + 1)) (PcX WN ad ca WS D A [.ref (ad 58)] mm) (QcI WN ad ca WS D A pzT q) 0 0 A := by
  unfold bX10_either at h
  refine ent (by decide) (Nat.le_of_ble_eq_true rfl) (fun p e s m args below meth c hargs C hH ls hl => ?_)
  have hx := C.1
  have hb := C.2.1
  have hl : lv_has ls 3 [(0, .ref (ad 58))] := hl
  refine lv_aload_n hx hb dX10_either_0 rfl (lv_at hl 0 rfl) ?_
  obtain ⟨q1, e1, h⟩ := tB h
  refine rcI C hH hl.1 (hr_X10_both _ _ e1) cf_RX10_173 ro_58 (RR_of (by omega) (by decide)) rfl (rest := []) rfl (Nat.le_of_ble_eq_true rfl) dX10_either_1 ?_
  intro hz1 H locs hH
  refine lv_istore_n (lv' := [(1, .int q1.1), (0, .ref (ad 58))]) hx hb dX10_either_4 rfl hl (by decide) rfl (fun ls hl => ?_)
  exact wX10_either_5 C hlev hr_X10_either hr_X10_both hr_X10_compared hr_X10_sums hr_X10_product hr_X10_one FU _ _ h _ _ _ hH (lv_sub hl [1, 0] rfl)
set_option maxHeartbeats 2000000 in
set_option maxRecDepth 20000 in
theorem wX10_both_32 (C : Cx D ca A p s m args meth c cX10_both RX10 3 (some .int)) {q : Int32 × Mm} {lev : Nat} (hlev : 3 ≤ lev + 1) {r_X10_either : Mm → Option (Int32 × Mm)} {r_X10_both : Mm → Option (Int32 × Mm)} {r_X10_compared : Mm → Option (Int32 × Mm)} {r_X10_sums : Mm → Option (Int32 × Mm)} {r_X10_product : Mm → Option (Int32 × Mm)} {r_X10_one : Mm → Option (Int32 × Mm)} (hr_X10_either : ∀ (mm : Mm) (q : Int32 × Mm), r_X10_either mm = some q → Met l yX10_either (wsOf yX10_either cX10_either 3 (some .int)) (rmk lev) (PcX WN ad ca WS D A [.ref (ad 58)] mm) (QcI WN ad ca WS D A pzT q) 0 0 A) (hr_X10_both : ∀ (mm : Mm) (q : Int32 × Mm), r_X10_both mm = some q → Met l yX10_both (wsOf yX10_both cX10_both 3 (some .int)) (rmk lev) (PcX WN ad ca WS D A [.ref (ad 58)] mm) (QcI WN ad ca WS D A pzT q) 0 0 A) (hr_X10_compared : ∀ (mm : Mm) (q : Int32 × Mm), r_X10_compared mm = some q → Met l yX10_compared (wsOf yX10_compared cX10_compared 4 (some .int)) (rmk lev) (PcX WN ad ca WS D A [.ref (ad 58)] mm) (QcI WN ad ca WS D A pzT q) 0 0 A) (hr_X10_sums : ∀ (mm : Mm) (q : Int32 × Mm), r_X10_sums mm = some q → Met l yX10_sums (wsOf yX10_sums cX10_sums 4 (some .int)) (rmk lev) (PcX WN ad ca WS D A [.ref (ad 58)] mm) (QcI WN ad ca WS D A pzT q) 0 0 A) (hr_X10_product : ∀ (mm : Mm) (q : Int32 × Mm), r_X10_product mm = some q → Met l yX10_product (wsOf yX10_product cX10_product 4 (some .int)) (rmk lev) (PcX WN ad ca WS D A [.ref (ad 58)] mm) (QcI WN ad ca WS D A pzT q) 0 0 A) (hr_X10_one : ∀ (mm : Mm) (q : Int32 × Mm), r_X10_one mm = some q → Met l yX10_one (wsOf yX10_one cX10_one 5 (some .int)) (rmk lev) (PcX WN ad ca WS D A [.ref (ad 58)] mm) (QcI WN ad ca WS D A pzT q) 0 0 A) {k5 : Int32 → Mm → Option (Int32 × Mm)} (hk5 : ∀ (v1 : Int32) (mm : Mm), k5 v1 mm = some q → ∀ (H : Heap) (locs : List Loc) (ls : Array Slot), Hx WN ad ca WS D A s.heap mm H locs → lv_has ls 3 [(0, .ref (ad 58)), (1, .int v1)] → W p l e (rmk (lev + 1)) s m args below meth c H locs 0 0 (MQ below (QcI WN ad ca WS D A pzT q) args s 0 0 A) (F0 m 5 ls [])) {s0 : Int32} {mm : Mm} (h : DX10_both_32 r_X10_either r_X10_both r_X10_compared r_X10_sums r_X10_product r_X10_one k5 s0 mm = some q) (hH : Hx WN ad ca WS D A s.heap mm H locs) (hl : lv_has ls 3 [(0, .ref (ad 58))]) : W p l e (rmk (lev + 1)) s m args below meth c H locs 0 0 (MQ below (QcI WN ad ca WS D A pzT q) args s 0 0 A) (F0 m 32 ls [.int s0]) := by
  unfold DX10_both_32 at h
  have hx := C.1
  have hb := C.2.1
  refine lv_istore_n (lv' := [(1, .int s0), (0, .ref (ad 58))]) hx hb dX10_both_32 rfl hl (by decide) rfl (fun ls hl => ?_)
  refine lv_goto (tgt := 5) hx hb dX10_both_33 (by decide) ?_
  exact hk5 _ _ h _ _ _ hH (lv_sub hl [1, 0] rfl)
set_option maxHeartbeats 2000000 in
set_option maxRecDepth 20000 in
theorem wX10_both_31 (C : Cx D ca A p s m args meth c cX10_both RX10 3 (some .int)) {q : Int32 × Mm} {lev : Nat} (hlev : 3 ≤ lev + 1) {r_X10_either : Mm → Option (Int32 × Mm)} {r_X10_both : Mm → Option (Int32 × Mm)} {r_X10_compared : Mm → Option (Int32 × Mm)} {r_X10_sums : Mm → Option (Int32 × Mm)} {r_X10_product : Mm → Option (Int32 × Mm)} {r_X10_one : Mm → Option (Int32 × Mm)} (hr_X10_either : ∀ (mm : Mm) (q : Int32 × Mm), r_X10_either mm = some q → Met l yX10_either (wsOf yX10_either cX10_either 3 (some .int)) (rmk lev) (PcX WN ad ca WS D A [.ref (ad 58)] mm) (QcI WN ad ca WS D A pzT q) 0 0 A) (hr_X10_both : ∀ (mm : Mm) (q : Int32 × Mm), r_X10_both mm = some q → Met l yX10_both (wsOf yX10_both cX10_both 3 (some .int)) (rmk lev) (PcX WN ad ca WS D A [.ref (ad 58)] mm) (QcI WN ad ca WS D A pzT q) 0 0 A) (hr_X10_compared : ∀ (mm : Mm) (q : Int32 × Mm), r_X10_compared mm = some q → Met l yX10_compared (wsOf yX10_compared cX10_compared 4 (some .int)) (rmk lev) (PcX WN ad ca WS D A [.ref (ad 58)] mm) (QcI WN ad ca WS D A pzT q) 0 0 A) (hr_X10_sums : ∀ (mm : Mm) (q : Int32 × Mm), r_X10_sums mm = some q → Met l yX10_sums (wsOf yX10_sums cX10_sums 4 (some .int)) (rmk lev) (PcX WN ad ca WS D A [.ref (ad 58)] mm) (QcI WN ad ca WS D A pzT q) 0 0 A) (hr_X10_product : ∀ (mm : Mm) (q : Int32 × Mm), r_X10_product mm = some q → Met l yX10_product (wsOf yX10_product cX10_product 4 (some .int)) (rmk lev) (PcX WN ad ca WS D A [.ref (ad 58)] mm) (QcI WN ad ca WS D A pzT q) 0 0 A) (hr_X10_one : ∀ (mm : Mm) (q : Int32 × Mm), r_X10_one mm = some q → Met l yX10_one (wsOf yX10_one cX10_one 5 (some .int)) (rmk lev) (PcX WN ad ca WS D A [.ref (ad 58)] mm) (QcI WN ad ca WS D A pzT q) 0 0 A) {k5 : Int32 → Mm → Option (Int32 × Mm)} (hk5 : ∀ (v1 : Int32) (mm : Mm), k5 v1 mm = some q → ∀ (H : Heap) (locs : List Loc) (ls : Array Slot), Hx WN ad ca WS D A s.heap mm H locs → lv_has ls 3 [(0, .ref (ad 58)), (1, .int v1)] → W p l e (rmk (lev + 1)) s m args below meth c H locs 0 0 (MQ below (QcI WN ad ca WS D A pzT q) args s 0 0 A) (F0 m 5 ls [])) {mm : Mm} (h : DX10_both_31 r_X10_either r_X10_both r_X10_compared r_X10_sums r_X10_product r_X10_one k5 mm = some q) (hH : Hx WN ad ca WS D A s.heap mm H locs) (hl : lv_has ls 3 [(0, .ref (ad 58))]) : W p l e (rmk (lev + 1)) s m args below meth c H locs 0 0 (MQ below (QcI WN ad ca WS D A pzT q) args s 0 0 A) (F0 m 31 ls []) := by
  unfold DX10_both_31 at h
  have hx := C.1
  have hb := C.2.1
  refine lv_iconst (v := 0) hx hb dX10_both_31 (by decide) ?_
  exact wX10_both_32 C hlev hr_X10_either hr_X10_both hr_X10_compared hr_X10_sums hr_X10_product hr_X10_one hk5 h hH (lv_sub hl [0] rfl)
set_option maxHeartbeats 2000000 in
set_option maxRecDepth 20000 in
theorem wbX10_both_5 (C : Cx D ca A p s m args meth c cX10_both RX10 3 (some .int)) {q : Int32 × Mm} {lev : Nat} (hlev : 3 ≤ lev + 1) {r_X10_either : Mm → Option (Int32 × Mm)} {r_X10_both : Mm → Option (Int32 × Mm)} {r_X10_compared : Mm → Option (Int32 × Mm)} {r_X10_sums : Mm → Option (Int32 × Mm)} {r_X10_product : Mm → Option (Int32 × Mm)} {r_X10_one : Mm → Option (Int32 × Mm)} (hr_X10_either : ∀ (mm : Mm) (q : Int32 × Mm), r_X10_either mm = some q → Met l yX10_either (wsOf yX10_either cX10_either 3 (some .int)) (rmk lev) (PcX WN ad ca WS D A [.ref (ad 58)] mm) (QcI WN ad ca WS D A pzT q) 0 0 A) (hr_X10_both : ∀ (mm : Mm) (q : Int32 × Mm), r_X10_both mm = some q → Met l yX10_both (wsOf yX10_both cX10_both 3 (some .int)) (rmk lev) (PcX WN ad ca WS D A [.ref (ad 58)] mm) (QcI WN ad ca WS D A pzT q) 0 0 A) (hr_X10_compared : ∀ (mm : Mm) (q : Int32 × Mm), r_X10_compared mm = some q → Met l yX10_compared (wsOf yX10_compared cX10_compared 4 (some .int)) (rmk lev) (PcX WN ad ca WS D A [.ref (ad 58)] mm) (QcI WN ad ca WS D A pzT q) 0 0 A) (hr_X10_sums : ∀ (mm : Mm) (q : Int32 × Mm), r_X10_sums mm = some q → Met l yX10_sums (wsOf yX10_sums cX10_sums 4 (some .int)) (rmk lev) (PcX WN ad ca WS D A [.ref (ad 58)] mm) (QcI WN ad ca WS D A pzT q) 0 0 A) (hr_X10_product : ∀ (mm : Mm) (q : Int32 × Mm), r_X10_product mm = some q → Met l yX10_product (wsOf yX10_product cX10_product 4 (some .int)) (rmk lev) (PcX WN ad ca WS D A [.ref (ad 58)] mm) (QcI WN ad ca WS D A pzT q) 0 0 A) (hr_X10_one : ∀ (mm : Mm) (q : Int32 × Mm), r_X10_one mm = some q → Met l yX10_one (wsOf yX10_one cX10_one 5 (some .int)) (rmk lev) (PcX WN ad ca WS D A [.ref (ad 58)] mm) (QcI WN ad ca WS D A pzT q) 0 0 A) {k5 : Int32 → Mm → Option (Int32 × Mm)} (hk5 : ∀ (v1 : Int32) (mm : Mm), k5 v1 mm = some q → ∀ (H : Heap) (locs : List Loc) (ls : Array Slot), Hx WN ad ca WS D A s.heap mm H locs → lv_has ls 3 [(0, .ref (ad 58)), (1, .int v1)] → W p l e (rmk (lev + 1)) s m args below meth c H locs 0 0 (MQ below (QcI WN ad ca WS D A pzT q) args s 0 0 A) (F0 m 5 ls [])) {v1 : Int32} {mm : Mm} (h : BX10_both_5 r_X10_either r_X10_both r_X10_compared r_X10_sums r_X10_product r_X10_one k5 v1 mm = some q) (hH : Hx WN ad ca WS D A s.heap mm H locs) (hl : lv_has ls 3 [(0, .ref (ad 58)), (1, .int v1)]) : W p l e (rmk (lev + 1)) s m args below meth c H locs 0 0 (MQ below (QcI WN ad ca WS D A pzT q) args s 0 0 A) (F0 m 5 ls []) := by
  unfold BX10_both_5 at h
  have hx := C.1
  have hb := C.2.1
  refine lv_aload_n hx hb dX10_both_5 rfl (lv_at hl 0 rfl) ?_
  refine lv_bipush (v := 38) hx hb dX10_both_6 (by decide) ?_
  obtain ⟨q8, e8, h⟩ := tB h
  refine rcI C hH hl.1 (mX10_takes l e8) cf_RX10_176 ro_58 (RR_of (by omega) (by decide)) rfl (rest := []) rfl (Nat.le_of_ble_eq_true rfl) dX10_both_8 ?_
  intro hz8 H locs hH
  refine lv_if_eq (tgt := 36) hx hb dX10_both_11 (by decide) (fun hc11 => ?_) (fun hc11 => ?_)
  · replace h := tT hc11 h
    refine lv_iload_n hx hb dX10_both_36 rfl (lv_at hl 1 rfl) ?_
    have h := Option.some.inj h
    subst h
    exact retI C hH trivial dX10_both_37
  · replace h := tF hc11 h
    refine lv_aload_n hx hb dX10_both_14 rfl (lv_at hl 0 rfl) ?_
    obtain ⟨q15, e15, h⟩ := tB h
    refine rcI C hH hl.1 (hr_X10_compared _ _ e15) cf_RX10_179 ro_58 (RR_of (by omega) (by decide)) rfl (rest := []) rfl (Nat.le_of_ble_eq_true rfl) dX10_both_15 ?_
    intro hz15 H locs hH
    refine lv_istore_n (lv' := [(2, .int q15.1), (0, .ref (ad 58)), (1, .int v1)]) hx hb dX10_both_18 rfl hl (by decide) rfl (fun ls hl => ?_)
    refine lv_iload_n hx hb dX10_both_19 rfl (lv_at hl 2 rfl) ?_
    refine lv_if_eq (tgt := 31) hx hb dX10_both_20 (by decide) (fun hc20 => ?_) (fun hc20 => ?_)
    · replace h := tT hc20 h
      exact wX10_both_31 C hlev hr_X10_either hr_X10_both hr_X10_compared hr_X10_sums hr_X10_product hr_X10_one hk5 h hH (lv_sub hl [1] rfl)
    · replace h := tF hc20 h
      refine lv_iload_n hx hb dX10_both_23 rfl (lv_at hl 0 rfl) ?_
      refine lv_if_eq (tgt := 31) hx hb dX10_both_24 (by decide) (fun hc24 => ?_) (fun hc24 => ?_)
      · replace h := tT hc24 h
        exact wX10_both_31 C hlev hr_X10_either hr_X10_both hr_X10_compared hr_X10_sums hr_X10_product hr_X10_one hk5 h hH (lv_sub hl [1] rfl)
      · replace h := tF hc24 h
        refine lv_iconst (v := 1) hx hb dX10_both_27 (by decide) ?_
        refine lv_goto (tgt := 32) hx hb dX10_both_28 (by decide) ?_
        exact wX10_both_32 C hlev hr_X10_either hr_X10_both hr_X10_compared hr_X10_sums hr_X10_product hr_X10_one hk5 h hH (lv_sub hl [1] rfl)
set_option maxHeartbeats 2000000 in
set_option maxRecDepth 20000 in
theorem wX10_both_5 (C : Cx D ca A p s m args meth c cX10_both RX10 3 (some .int)) {q : Int32 × Mm} {lev : Nat} (hlev : 3 ≤ lev + 1) {r_X10_either : Mm → Option (Int32 × Mm)} {r_X10_both : Mm → Option (Int32 × Mm)} {r_X10_compared : Mm → Option (Int32 × Mm)} {r_X10_sums : Mm → Option (Int32 × Mm)} {r_X10_product : Mm → Option (Int32 × Mm)} {r_X10_one : Mm → Option (Int32 × Mm)} (hr_X10_either : ∀ (mm : Mm) (q : Int32 × Mm), r_X10_either mm = some q → Met l yX10_either (wsOf yX10_either cX10_either 3 (some .int)) (rmk lev) (PcX WN ad ca WS D A [.ref (ad 58)] mm) (QcI WN ad ca WS D A pzT q) 0 0 A) (hr_X10_both : ∀ (mm : Mm) (q : Int32 × Mm), r_X10_both mm = some q → Met l yX10_both (wsOf yX10_both cX10_both 3 (some .int)) (rmk lev) (PcX WN ad ca WS D A [.ref (ad 58)] mm) (QcI WN ad ca WS D A pzT q) 0 0 A) (hr_X10_compared : ∀ (mm : Mm) (q : Int32 × Mm), r_X10_compared mm = some q → Met l yX10_compared (wsOf yX10_compared cX10_compared 4 (some .int)) (rmk lev) (PcX WN ad ca WS D A [.ref (ad 58)] mm) (QcI WN ad ca WS D A pzT q) 0 0 A) (hr_X10_sums : ∀ (mm : Mm) (q : Int32 × Mm), r_X10_sums mm = some q → Met l yX10_sums (wsOf yX10_sums cX10_sums 4 (some .int)) (rmk lev) (PcX WN ad ca WS D A [.ref (ad 58)] mm) (QcI WN ad ca WS D A pzT q) 0 0 A) (hr_X10_product : ∀ (mm : Mm) (q : Int32 × Mm), r_X10_product mm = some q → Met l yX10_product (wsOf yX10_product cX10_product 4 (some .int)) (rmk lev) (PcX WN ad ca WS D A [.ref (ad 58)] mm) (QcI WN ad ca WS D A pzT q) 0 0 A) (hr_X10_one : ∀ (mm : Mm) (q : Int32 × Mm), r_X10_one mm = some q → Met l yX10_one (wsOf yX10_one cX10_one 5 (some .int)) (rmk lev) (PcX WN ad ca WS D A [.ref (ad 58)] mm) (QcI WN ad ca WS D A pzT q) 0 0 A) : ∀ (N : Nat) (v1 : Int32) (mm : Mm), DX10_both_5 r_X10_either r_X10_both r_X10_compared r_X10_sums r_X10_product r_X10_one N v1 mm = some q → ∀ (H : Heap) (locs : List Loc) (ls : Array Slot), Hx WN ad ca WS D A s.heap mm H locs → lv_has ls 3 [(0, .ref (ad 58)), (1, .int v1)] → W p l e (rmk (lev + 1)) s m args below meth c H locs 0 0 (MQ below (QcI WN ad ca WS D A pzT q) args s 0 0 A) (F0 m 5 ls []) := by
  intro N
  induction N with
  | zero =>
    intro v1 mm h
    have h2 : (none : Option (Int32 × Mm)) = some q := h
    cases h2
  | succ N ih =>
    intro v1 mm h H locs ls hH hl
    exact wbX10_both_5 C hlev hr_X10_either hr_X10_both hr_X10_compared hr_X10_sums hr_X10_product hr_X10_one ih h hH hl
set_option maxHeartbeats 2000000 in
set_option maxRecDepth 20000 in
theorem mbX10_both (l : Launch) {D : va_G} {ca : Nat → ClassId} {A : Nat → Prop} {ad : Nat → Nat} {lev : Nat} (hlev : 3 ≤ lev + 1) {r_X10_either : Mm → Option (Int32 × Mm)} {r_X10_both : Mm → Option (Int32 × Mm)} {r_X10_compared : Mm → Option (Int32 × Mm)} {r_X10_sums : Mm → Option (Int32 × Mm)} {r_X10_product : Mm → Option (Int32 × Mm)} {r_X10_one : Mm → Option (Int32 × Mm)} (hr_X10_either : ∀ (mm : Mm) (q : Int32 × Mm), r_X10_either mm = some q → Met l yX10_either (wsOf yX10_either cX10_either 3 (some .int)) (rmk lev) (PcX WN ad ca WS D A [.ref (ad 58)] mm) (QcI WN ad ca WS D A pzT q) 0 0 A) (hr_X10_both : ∀ (mm : Mm) (q : Int32 × Mm), r_X10_both mm = some q → Met l yX10_both (wsOf yX10_both cX10_both 3 (some .int)) (rmk lev) (PcX WN ad ca WS D A [.ref (ad 58)] mm) (QcI WN ad ca WS D A pzT q) 0 0 A) (hr_X10_compared : ∀ (mm : Mm) (q : Int32 × Mm), r_X10_compared mm = some q → Met l yX10_compared (wsOf yX10_compared cX10_compared 4 (some .int)) (rmk lev) (PcX WN ad ca WS D A [.ref (ad 58)] mm) (QcI WN ad ca WS D A pzT q) 0 0 A) (hr_X10_sums : ∀ (mm : Mm) (q : Int32 × Mm), r_X10_sums mm = some q → Met l yX10_sums (wsOf yX10_sums cX10_sums 4 (some .int)) (rmk lev) (PcX WN ad ca WS D A [.ref (ad 58)] mm) (QcI WN ad ca WS D A pzT q) 0 0 A) (hr_X10_product : ∀ (mm : Mm) (q : Int32 × Mm), r_X10_product mm = some q → Met l yX10_product (wsOf yX10_product cX10_product 4 (some .int)) (rmk lev) (PcX WN ad ca WS D A [.ref (ad 58)] mm) (QcI WN ad ca WS D A pzT q) 0 0 A) (hr_X10_one : ∀ (mm : Mm) (q : Int32 × Mm), r_X10_one mm = some q → Met l yX10_one (wsOf yX10_one cX10_one 5 (some .int)) (rmk lev) (PcX WN ad ca WS D A [.ref (ad 58)] mm) (QcI WN ad ca WS D A pzT q) 0 0 A) {mm : Mm} {q : Int32 × Mm} (h : bX10_both r_X10_either r_X10_both r_X10_compared r_X10_sums r_X10_product r_X10_one mm = some q) : Met l yX10_both (wsOf yX10_both cX10_both 3 (some .int)) (rmk (lev + 1)) (PcX WN ad ca WS D A [.ref (ad 58)] mm) (QcI WN ad ca WS D A pzT q) 0 0 A := by
  unfold bX10_both at h
  refine ent (by decide) (Nat.le_of_ble_eq_true rfl) (fun p e s m args below meth c hargs C hH ls hl => ?_)
  have hx := C.1
  have hb := C.2.1
  have hl : lv_has ls 3 [(0, .ref (ad 58))] := hl
  refine lv_aload_n hx hb dX10_both_0 rfl (lv_at hl 0 rfl) ?_
  obtain ⟨q1, e1, h⟩ := tB h
  refine rcI C hH hl.1 (hr_X10_compared _ _ e1) cf_RX10_179 ro_58 (RR_of (by omega) (by decide)) rfl (rest := []) rfl (Nat.le_of_ble_eq_true rfl) dX10_both_1 ?_
  intro hz1 H locs hH
  refine lv_istore_n (lv' := [(1, .int q1.1), (0, .ref (ad 58))]) hx hb dX10_both_4 rfl hl (by decide) rfl (fun ls hl => ?_)
  exact wX10_both_5 C hlev hr_X10_either hr_X10_both hr_X10_compared hr_X10_sums hr_X10_product hr_X10_one FU _ _ h _ _ _ hH (lv_sub hl [1, 0] rfl)
set_option maxHeartbeats 2000000 in
set_option maxRecDepth 20000 in
theorem wX10_compared_35 (C : Cx D ca A p s m args meth c cX10_compared RX10 4 (some .int)) {q : Int32 × Mm} {lev : Nat} (hlev : 3 ≤ lev + 1) {r_X10_either : Mm → Option (Int32 × Mm)} {r_X10_both : Mm → Option (Int32 × Mm)} {r_X10_compared : Mm → Option (Int32 × Mm)} {r_X10_sums : Mm → Option (Int32 × Mm)} {r_X10_product : Mm → Option (Int32 × Mm)} {r_X10_one : Mm → Option (Int32 × Mm)} (hr_X10_either : ∀ (mm : Mm) (q : Int32 × Mm), r_X10_either mm = some q → Met l yX10_either (wsOf yX10_either cX10_either 3 (some .int)) (rmk lev) (PcX WN ad ca WS D A [.ref (ad 58)] mm) (QcI WN ad ca WS D A pzT q) 0 0 A) (hr_X10_both : ∀ (mm : Mm) (q : Int32 × Mm), r_X10_both mm = some q → Met l yX10_both (wsOf yX10_both cX10_both 3 (some .int)) (rmk lev) (PcX WN ad ca WS D A [.ref (ad 58)] mm) (QcI WN ad ca WS D A pzT q) 0 0 A) (hr_X10_compared : ∀ (mm : Mm) (q : Int32 × Mm), r_X10_compared mm = some q → Met l yX10_compared (wsOf yX10_compared cX10_compared 4 (some .int)) (rmk lev) (PcX WN ad ca WS D A [.ref (ad 58)] mm) (QcI WN ad ca WS D A pzT q) 0 0 A) (hr_X10_sums : ∀ (mm : Mm) (q : Int32 × Mm), r_X10_sums mm = some q → Met l yX10_sums (wsOf yX10_sums cX10_sums 4 (some .int)) (rmk lev) (PcX WN ad ca WS D A [.ref (ad 58)] mm) (QcI WN ad ca WS D A pzT q) 0 0 A) (hr_X10_product : ∀ (mm : Mm) (q : Int32 × Mm), r_X10_product mm = some q → Met l yX10_product (wsOf yX10_product cX10_product 4 (some .int)) (rmk lev) (PcX WN ad ca WS D A [.ref (ad 58)] mm) (QcI WN ad ca WS D A pzT q) 0 0 A) (hr_X10_one : ∀ (mm : Mm) (q : Int32 × Mm), r_X10_one mm = some q → Met l yX10_one (wsOf yX10_one cX10_one 5 (some .int)) (rmk lev) (PcX WN ad ca WS D A [.ref (ad 58)] mm) (QcI WN ad ca WS D A pzT q) 0 0 A) {v1 : Int32} {mm : Mm} (h : DX10_compared_35 r_X10_either r_X10_both r_X10_compared r_X10_sums r_X10_product r_X10_one v1 mm = some q) (hH : Hx WN ad ca WS D A s.heap mm H locs) (hl : lv_has ls 4 [(1, .int v1)]) : W p l e (rmk (lev + 1)) s m args below meth c H locs 0 0 (MQ below (QcI WN ad ca WS D A pzT q) args s 0 0 A) (F0 m 35 ls []) := by
  unfold DX10_compared_35 at h
  have hx := C.1
  have hb := C.2.1
  refine lv_iload_n hx hb dX10_compared_35 rfl (lv_at hl 0 rfl) ?_
  have h := Option.some.inj h
  subst h
  exact retI C hH trivial dX10_compared_36
set_option maxHeartbeats 2000000 in
set_option maxRecDepth 20000 in
theorem wX10_compared_89 (C : Cx D ca A p s m args meth c cX10_compared RX10 4 (some .int)) {q : Int32 × Mm} {lev : Nat} (hlev : 3 ≤ lev + 1) {r_X10_either : Mm → Option (Int32 × Mm)} {r_X10_both : Mm → Option (Int32 × Mm)} {r_X10_compared : Mm → Option (Int32 × Mm)} {r_X10_sums : Mm → Option (Int32 × Mm)} {r_X10_product : Mm → Option (Int32 × Mm)} {r_X10_one : Mm → Option (Int32 × Mm)} (hr_X10_either : ∀ (mm : Mm) (q : Int32 × Mm), r_X10_either mm = some q → Met l yX10_either (wsOf yX10_either cX10_either 3 (some .int)) (rmk lev) (PcX WN ad ca WS D A [.ref (ad 58)] mm) (QcI WN ad ca WS D A pzT q) 0 0 A) (hr_X10_both : ∀ (mm : Mm) (q : Int32 × Mm), r_X10_both mm = some q → Met l yX10_both (wsOf yX10_both cX10_both 3 (some .int)) (rmk lev) (PcX WN ad ca WS D A [.ref (ad 58)] mm) (QcI WN ad ca WS D A pzT q) 0 0 A) (hr_X10_compared : ∀ (mm : Mm) (q : Int32 × Mm), r_X10_compared mm = some q → Met l yX10_compared (wsOf yX10_compared cX10_compared 4 (some .int)) (rmk lev) (PcX WN ad ca WS D A [.ref (ad 58)] mm) (QcI WN ad ca WS D A pzT q) 0 0 A) (hr_X10_sums : ∀ (mm : Mm) (q : Int32 × Mm), r_X10_sums mm = some q → Met l yX10_sums (wsOf yX10_sums cX10_sums 4 (some .int)) (rmk lev) (PcX WN ad ca WS D A [.ref (ad 58)] mm) (QcI WN ad ca WS D A pzT q) 0 0 A) (hr_X10_product : ∀ (mm : Mm) (q : Int32 × Mm), r_X10_product mm = some q → Met l yX10_product (wsOf yX10_product cX10_product 4 (some .int)) (rmk lev) (PcX WN ad ca WS D A [.ref (ad 58)] mm) (QcI WN ad ca WS D A pzT q) 0 0 A) (hr_X10_one : ∀ (mm : Mm) (q : Int32 × Mm), r_X10_one mm = some q → Met l yX10_one (wsOf yX10_one cX10_one 5 (some .int)) (rmk lev) (PcX WN ad ca WS D A [.ref (ad 58)] mm) (QcI WN ad ca WS D A pzT q) 0 0 A) {mm : Mm} (h : DX10_compared_89 r_X10_either r_X10_both r_X10_compared r_X10_sums r_X10_product r_X10_one mm = some q) (hH : Hx WN ad ca WS D A s.heap mm H locs) (hl : lv_has ls 4 []) : W p l e (rmk (lev + 1)) s m args below meth c H locs 0 0 (MQ below (QcI WN ad ca WS D A pzT q) args s 0 0 A) (F0 m 89 ls []) := by
  unfold DX10_compared_89 at h
  have hx := C.1
  have hb := C.2.1
  refine lv_iconst (v := 0) hx hb dX10_compared_89 (by decide) ?_
  have h := Option.some.inj h
  subst h
  exact retI C hH trivial dX10_compared_90
set_option maxHeartbeats 2000000 in
set_option maxRecDepth 20000 in
theorem wX10_compared_85 (C : Cx D ca A p s m args meth c cX10_compared RX10 4 (some .int)) {q : Int32 × Mm} {lev : Nat} (hlev : 3 ≤ lev + 1) {r_X10_either : Mm → Option (Int32 × Mm)} {r_X10_both : Mm → Option (Int32 × Mm)} {r_X10_compared : Mm → Option (Int32 × Mm)} {r_X10_sums : Mm → Option (Int32 × Mm)} {r_X10_product : Mm → Option (Int32 × Mm)} {r_X10_one : Mm → Option (Int32 × Mm)} (hr_X10_either : ∀ (mm : Mm) (q : Int32 × Mm), r_X10_either mm = some q → Met l yX10_either (wsOf yX10_either cX10_either 3 (some .int)) (rmk lev) (PcX WN ad ca WS D A [.ref (ad 58)] mm) (QcI WN ad ca WS D A pzT q) 0 0 A) (hr_X10_both : ∀ (mm : Mm) (q : Int32 × Mm), r_X10_both mm = some q → Met l yX10_both (wsOf yX10_both cX10_both 3 (some .int)) (rmk lev) (PcX WN ad ca WS D A [.ref (ad 58)] mm) (QcI WN ad ca WS D A pzT q) 0 0 A) (hr_X10_compared : ∀ (mm : Mm) (q : Int32 × Mm), r_X10_compared mm = some q → Met l yX10_compared (wsOf yX10_compared cX10_compared 4 (some .int)) (rmk lev) (PcX WN ad ca WS D A [.ref (ad 58)] mm) (QcI WN ad ca WS D A pzT q) 0 0 A) (hr_X10_sums : ∀ (mm : Mm) (q : Int32 × Mm), r_X10_sums mm = some q → Met l yX10_sums (wsOf yX10_sums cX10_sums 4 (some .int)) (rmk lev) (PcX WN ad ca WS D A [.ref (ad 58)] mm) (QcI WN ad ca WS D A pzT q) 0 0 A) (hr_X10_product : ∀ (mm : Mm) (q : Int32 × Mm), r_X10_product mm = some q → Met l yX10_product (wsOf yX10_product cX10_product 4 (some .int)) (rmk lev) (PcX WN ad ca WS D A [.ref (ad 58)] mm) (QcI WN ad ca WS D A pzT q) 0 0 A) (hr_X10_one : ∀ (mm : Mm) (q : Int32 × Mm), r_X10_one mm = some q → Met l yX10_one (wsOf yX10_one cX10_one 5 (some .int)) (rmk lev) (PcX WN ad ca WS D A [.ref (ad 58)] mm) (QcI WN ad ca WS D A pzT q) 0 0 A) {mm : Mm} (h : DX10_compared_85 r_X10_either r_X10_both r_X10_compared r_X10_sums r_X10_product r_X10_one mm = some q) (hH : Hx WN ad ca WS D A s.heap mm H locs) (hl : lv_has ls 4 []) : W p l e (rmk (lev + 1)) s m args below meth c H locs 0 0 (MQ below (QcI WN ad ca WS D A pzT q) args s 0 0 A) (F0 m 85 ls []) := by
  unfold DX10_compared_85 at h
  have hx := C.1
  have hb := C.2.1
  refine lv_iconst (v := 1) hx hb dX10_compared_85 (by decide) ?_
  refine lv_goto (tgt := 90) hx hb dX10_compared_86 (by decide) ?_
  have h := Option.some.inj h
  subst h
  exact retI C hH trivial dX10_compared_90
set_option maxHeartbeats 2000000 in
set_option maxRecDepth 20000 in
theorem wX10_compared_37 (C : Cx D ca A p s m args meth c cX10_compared RX10 4 (some .int)) {q : Int32 × Mm} {lev : Nat} (hlev : 3 ≤ lev + 1) {r_X10_either : Mm → Option (Int32 × Mm)} {r_X10_both : Mm → Option (Int32 × Mm)} {r_X10_compared : Mm → Option (Int32 × Mm)} {r_X10_sums : Mm → Option (Int32 × Mm)} {r_X10_product : Mm → Option (Int32 × Mm)} {r_X10_one : Mm → Option (Int32 × Mm)} (hr_X10_either : ∀ (mm : Mm) (q : Int32 × Mm), r_X10_either mm = some q → Met l yX10_either (wsOf yX10_either cX10_either 3 (some .int)) (rmk lev) (PcX WN ad ca WS D A [.ref (ad 58)] mm) (QcI WN ad ca WS D A pzT q) 0 0 A) (hr_X10_both : ∀ (mm : Mm) (q : Int32 × Mm), r_X10_both mm = some q → Met l yX10_both (wsOf yX10_both cX10_both 3 (some .int)) (rmk lev) (PcX WN ad ca WS D A [.ref (ad 58)] mm) (QcI WN ad ca WS D A pzT q) 0 0 A) (hr_X10_compared : ∀ (mm : Mm) (q : Int32 × Mm), r_X10_compared mm = some q → Met l yX10_compared (wsOf yX10_compared cX10_compared 4 (some .int)) (rmk lev) (PcX WN ad ca WS D A [.ref (ad 58)] mm) (QcI WN ad ca WS D A pzT q) 0 0 A) (hr_X10_sums : ∀ (mm : Mm) (q : Int32 × Mm), r_X10_sums mm = some q → Met l yX10_sums (wsOf yX10_sums cX10_sums 4 (some .int)) (rmk lev) (PcX WN ad ca WS D A [.ref (ad 58)] mm) (QcI WN ad ca WS D A pzT q) 0 0 A) (hr_X10_product : ∀ (mm : Mm) (q : Int32 × Mm), r_X10_product mm = some q → Met l yX10_product (wsOf yX10_product cX10_product 4 (some .int)) (rmk lev) (PcX WN ad ca WS D A [.ref (ad 58)] mm) (QcI WN ad ca WS D A pzT q) 0 0 A) (hr_X10_one : ∀ (mm : Mm) (q : Int32 × Mm), r_X10_one mm = some q → Met l yX10_one (wsOf yX10_one cX10_one 5 (some .int)) (rmk lev) (PcX WN ad ca WS D A [.ref (ad 58)] mm) (QcI WN ad ca WS D A pzT q) 0 0 A) {v1 : Int32} {v2 : Int32} {mm : Mm} (h : DX10_compared_37 r_X10_either r_X10_both r_X10_compared r_X10_sums r_X10_product r_X10_one v1 v2 mm = some q) (hH : Hx WN ad ca WS D A s.heap mm H locs) (hl : lv_has ls 4 [(0, .ref (ad 58)), (1, .int v1), (2, .int v2)]) : W p l e (rmk (lev + 1)) s m args below meth c H locs 0 0 (MQ below (QcI WN ad ca WS D A pzT q) args s 0 0 A) (F0 m 37 ls []) := by
  unfold DX10_compared_37 at h
  have hx := C.1
  have hb := C.2.1
  refine lv_aload_n hx hb dX10_compared_37 rfl (lv_at hl 0 rfl) ?_
  refine lv_dup hx hb dX10_compared_38 rfl ?_
  refine rgI C hH fi_RX10_157_58 dX10_compared_39 ?_
  refine lv_iconst (v := 1) hx hb dX10_compared_42 (by decide) ?_
  refine lv_iadd hx hb dX10_compared_43 ?_
  refine rpI C hH fp_RX10_157_58 rfl rfl dX10_compared_44 (fun H locs hH => ?_)
  refine lv_aload_n hx hb dX10_compared_47 rfl (lv_at hl 0 rfl) ?_
  obtain ⟨q48, e48, h⟩ := tB h
  refine rcI C hH hl.1 (hr_X10_sums _ _ e48) cf_RX10_182 ro_58 (RR_of (by omega) (by decide)) rfl (rest := []) rfl (Nat.le_of_ble_eq_true rfl) dX10_compared_48 ?_
  intro hz48 H locs hH
  refine lv_istore_n (lv' := [(3, .int q48.1), (0, .ref (ad 58)), (1, .int v1), (2, .int v2)]) hx hb dX10_compared_51 rfl hl (by decide) rfl (fun ls hl => ?_)
  refine lv_iload_n hx hb dX10_compared_52 rfl (lv_at hl 3 rfl) ?_
  refine lv_bipush (v := 60) hx hb dX10_compared_53 (by decide) ?_
  refine lv_icmp_ne (tgt := 66) hx hb dX10_compared_55 (by decide) (fun hc55 => ?_) (fun hc55 => ?_)
  · replace h := tF hc55 h
    refine lv_iload_n hx hb dX10_compared_66 rfl (lv_at hl 3 rfl) ?_
    refine lv_bipush (v := 61) hx hb dX10_compared_67 (by decide) ?_
    refine lv_icmp_ne (tgt := 80) hx hb dX10_compared_69 (by decide) (fun hc69 => ?_) (fun hc69 => ?_)
    · replace h := tF hc69 h
      refine lv_iload_n hx hb dX10_compared_80 rfl (lv_at hl 2 rfl) ?_
      refine lv_iload_n hx hb dX10_compared_81 rfl (lv_at hl 0 rfl) ?_
      refine lv_icmp_le (tgt := 89) hx hb dX10_compared_82 (by decide) (fun hc82 => ?_) (fun hc82 => ?_)
      · replace h := tT hc82 h
        exact wX10_compared_89 C hlev hr_X10_either hr_X10_both hr_X10_compared hr_X10_sums hr_X10_product hr_X10_one h hH (lv_sub hl [] rfl)
      · replace h := tF hc82 h
        exact wX10_compared_85 C hlev hr_X10_either hr_X10_both hr_X10_compared hr_X10_sums hr_X10_product hr_X10_one h hH (lv_sub hl [] rfl)
    · replace h := tT hc69 h
      refine lv_iload_n hx hb dX10_compared_72 rfl (lv_at hl 2 rfl) ?_
      refine lv_iload_n hx hb dX10_compared_73 rfl (lv_at hl 0 rfl) ?_
      refine lv_icmp_ne (tgt := 89) hx hb dX10_compared_74 (by decide) (fun hc74 => ?_) (fun hc74 => ?_)
      · replace h := tF hc74 h
        exact wX10_compared_89 C hlev hr_X10_either hr_X10_both hr_X10_compared hr_X10_sums hr_X10_product hr_X10_one h hH (lv_sub hl [] rfl)
      · replace h := tT hc74 h
        refine lv_goto (tgt := 85) hx hb dX10_compared_77 (by decide) ?_
        exact wX10_compared_85 C hlev hr_X10_either hr_X10_both hr_X10_compared hr_X10_sums hr_X10_product hr_X10_one h hH (lv_sub hl [] rfl)
  · replace h := tT hc55 h
    refine lv_iload_n hx hb dX10_compared_58 rfl (lv_at hl 2 rfl) ?_
    refine lv_iload_n hx hb dX10_compared_59 rfl (lv_at hl 0 rfl) ?_
    refine lv_icmp_ge (tgt := 89) hx hb dX10_compared_60 (by decide) (fun hc60 => ?_) (fun hc60 => ?_)
    · replace h := tT hc60 h
      exact wX10_compared_89 C hlev hr_X10_either hr_X10_both hr_X10_compared hr_X10_sums hr_X10_product hr_X10_one h hH (lv_sub hl [] rfl)
    · replace h := tF hc60 h
      refine lv_goto (tgt := 85) hx hb dX10_compared_63 (by decide) ?_
      exact wX10_compared_85 C hlev hr_X10_either hr_X10_both hr_X10_compared hr_X10_sums hr_X10_product hr_X10_one h hH (lv_sub hl [] rfl)
set_option maxHeartbeats 2000000 in
set_option maxRecDepth 20000 in
theorem mbX10_compared (l : Launch) {D : va_G} {ca : Nat → ClassId} {A : Nat → Prop} {ad : Nat → Nat} {lev : Nat} (hlev : 3 ≤ lev + 1) {r_X10_either : Mm → Option (Int32 × Mm)} {r_X10_both : Mm → Option (Int32 × Mm)} {r_X10_compared : Mm → Option (Int32 × Mm)} {r_X10_sums : Mm → Option (Int32 × Mm)} {r_X10_product : Mm → Option (Int32 × Mm)} {r_X10_one : Mm → Option (Int32 × Mm)} (hr_X10_either : ∀ (mm : Mm) (q : Int32 × Mm), r_X10_either mm = some q → Met l yX10_either (wsOf yX10_either cX10_either 3 (some .int)) (rmk lev) (PcX WN ad ca WS D A [.ref (ad 58)] mm) (QcI WN ad ca WS D A pzT q) 0 0 A) (hr_X10_both : ∀ (mm : Mm) (q : Int32 × Mm), r_X10_both mm = some q → Met l yX10_both (wsOf yX10_both cX10_both 3 (some .int)) (rmk lev) (PcX WN ad ca WS D A [.ref (ad 58)] mm) (QcI WN ad ca WS D A pzT q) 0 0 A) (hr_X10_compared : ∀ (mm : Mm) (q : Int32 × Mm), r_X10_compared mm = some q → Met l yX10_compared (wsOf yX10_compared cX10_compared 4 (some .int)) (rmk lev) (PcX WN ad ca WS D A [.ref (ad 58)] mm) (QcI WN ad ca WS D A pzT q) 0 0 A) (hr_X10_sums : ∀ (mm : Mm) (q : Int32 × Mm), r_X10_sums mm = some q → Met l yX10_sums (wsOf yX10_sums cX10_sums 4 (some .int)) (rmk lev) (PcX WN ad ca WS D A [.ref (ad 58)] mm) (QcI WN ad ca WS D A pzT q) 0 0 A) (hr_X10_product : ∀ (mm : Mm) (q : Int32 × Mm), r_X10_product mm = some q → Met l yX10_product (wsOf yX10_product cX10_product 4 (some .int)) (rmk lev) (PcX WN ad ca WS D A [.ref (ad 58)] mm) (QcI WN ad ca WS D A pzT q) 0 0 A) (hr_X10_one : ∀ (mm : Mm) (q : Int32 × Mm), r_X10_one mm = some q → Met l yX10_one (wsOf yX10_one cX10_one 5 (some .int)) (rmk lev) (PcX WN ad ca WS D A [.ref (ad 58)] mm) (QcI WN ad ca WS D A pzT q) 0 0 A) {mm : Mm} {q : Int32 × Mm} (h : bX10_compared r_X10_either r_X10_both r_X10_compared r_X10_sums r_X10_product r_X10_one mm = some q) : Met l yX10_compared (wsOf yX10_compared cX10_compared 4 (some .int)) (rmk (lev + 1)) (PcX WN ad ca WS D A [.ref (ad 58)] mm) (QcI WN ad ca WS D A pzT q) 0 0 A := by
  unfold bX10_compared at h
  refine ent (by decide) (Nat.le_of_ble_eq_true rfl) (fun p e s m args below meth c hargs C hH ls hl => ?_)
  have hx := C.1
  have hb := C.2.1
  have hl : lv_has ls 4 [(0, .ref (ad 58))] := hl
  refine lv_aload_n hx hb dX10_compared_0 rfl (lv_at hl 0 rfl) ?_
  obtain ⟨q1, e1, h⟩ := tB h
  refine rcI C hH hl.1 (hr_X10_sums _ _ e1) cf_RX10_182 ro_58 (RR_of (by omega) (by decide)) rfl (rest := []) rfl (Nat.le_of_ble_eq_true rfl) dX10_compared_1 ?_
  intro hz1 H locs hH
  refine lv_istore_n (lv' := [(1, .int q1.1), (0, .ref (ad 58))]) hx hb dX10_compared_4 rfl hl (by decide) rfl (fun ls hl => ?_)
  refine lv_aload_n hx hb dX10_compared_5 rfl (lv_at hl 1 rfl) ?_
  obtain ⟨q6, e6, h⟩ := tB h
  refine rcI C hH hl.1 (mX10_byteAt l e6) cf_RX10_169 ro_58 (RR_of (by omega) (by decide)) rfl (rest := []) rfl (Nat.le_of_ble_eq_true rfl) dX10_compared_6 ?_
  intro hz6 H locs hH
  refine lv_istore_n (lv' := [(2, .int q6.1), (1, .int q1.1), (0, .ref (ad 58))]) hx hb dX10_compared_9 rfl hl (by decide) rfl (fun ls hl => ?_)
  refine lv_aload_n hx hb dX10_compared_10 rfl (lv_at hl 2 rfl) ?_
  refine rgI C hH fi_RX10_166_58 dX10_compared_11 ?_
  refine lv_if_ge (tgt := 35) hx hb dX10_compared_14 (by decide) (fun hc14 => ?_) (fun hc14 => ?_)
  · replace h := tT hc14 h
    exact wX10_compared_35 C hlev hr_X10_either hr_X10_both hr_X10_compared hr_X10_sums hr_X10_product hr_X10_one h hH (lv_sub hl [1] rfl)
  · replace h := tF hc14 h
    refine lv_iload_n hx hb dX10_compared_17 rfl (lv_at hl 0 rfl) ?_
    refine lv_bipush (v := 60) hx hb dX10_compared_18 (by decide) ?_
    refine lv_icmp_eq (tgt := 37) hx hb dX10_compared_20 (by decide) (fun hc20 => ?_) (fun hc20 => ?_)
    · replace h := tT hc20 h
      exact wX10_compared_37 C hlev hr_X10_either hr_X10_both hr_X10_compared hr_X10_sums hr_X10_product hr_X10_one h hH (lv_sub hl [2, 1, 0] rfl)
    · replace h := tF hc20 h
      refine lv_iload_n hx hb dX10_compared_23 rfl (lv_at hl 0 rfl) ?_
      refine lv_bipush (v := 61) hx hb dX10_compared_24 (by decide) ?_
      refine lv_icmp_eq (tgt := 37) hx hb dX10_compared_26 (by decide) (fun hc26 => ?_) (fun hc26 => ?_)
      · replace h := tT hc26 h
        exact wX10_compared_37 C hlev hr_X10_either hr_X10_both hr_X10_compared hr_X10_sums hr_X10_product hr_X10_one h hH (lv_sub hl [2, 1, 0] rfl)
      · replace h := tF hc26 h
        refine lv_iload_n hx hb dX10_compared_29 rfl (lv_at hl 0 rfl) ?_
        refine lv_bipush (v := 62) hx hb dX10_compared_30 (by decide) ?_
        refine lv_icmp_eq (tgt := 37) hx hb dX10_compared_32 (by decide) (fun hc32 => ?_) (fun hc32 => ?_)
        · replace h := tT hc32 h
          exact wX10_compared_37 C hlev hr_X10_either hr_X10_both hr_X10_compared hr_X10_sums hr_X10_product hr_X10_one h hH (lv_sub hl [2, 1, 0] rfl)
        · replace h := tF hc32 h
          exact wX10_compared_35 C hlev hr_X10_either hr_X10_both hr_X10_compared hr_X10_sums hr_X10_product hr_X10_one h hH (lv_sub hl [1] rfl)
set_option maxHeartbeats 2000000 in
set_option maxRecDepth 20000 in
theorem wX10_sums_77 (C : Cx D ca A p s m args meth c cX10_sums RX10 4 (some .int)) {q : Int32 × Mm} {lev : Nat} (hlev : 3 ≤ lev + 1) {r_X10_either : Mm → Option (Int32 × Mm)} {r_X10_both : Mm → Option (Int32 × Mm)} {r_X10_compared : Mm → Option (Int32 × Mm)} {r_X10_sums : Mm → Option (Int32 × Mm)} {r_X10_product : Mm → Option (Int32 × Mm)} {r_X10_one : Mm → Option (Int32 × Mm)} (hr_X10_either : ∀ (mm : Mm) (q : Int32 × Mm), r_X10_either mm = some q → Met l yX10_either (wsOf yX10_either cX10_either 3 (some .int)) (rmk lev) (PcX WN ad ca WS D A [.ref (ad 58)] mm) (QcI WN ad ca WS D A pzT q) 0 0 A) (hr_X10_both : ∀ (mm : Mm) (q : Int32 × Mm), r_X10_both mm = some q → Met l yX10_both (wsOf yX10_both cX10_both 3 (some .int)) (rmk lev) (PcX WN ad ca WS D A [.ref (ad 58)] mm) (QcI WN ad ca WS D A pzT q) 0 0 A) (hr_X10_compared : ∀ (mm : Mm) (q : Int32 × Mm), r_X10_compared mm = some q → Met l yX10_compared (wsOf yX10_compared cX10_compared 4 (some .int)) (rmk lev) (PcX WN ad ca WS D A [.ref (ad 58)] mm) (QcI WN ad ca WS D A pzT q) 0 0 A) (hr_X10_sums : ∀ (mm : Mm) (q : Int32 × Mm), r_X10_sums mm = some q → Met l yX10_sums (wsOf yX10_sums cX10_sums 4 (some .int)) (rmk lev) (PcX WN ad ca WS D A [.ref (ad 58)] mm) (QcI WN ad ca WS D A pzT q) 0 0 A) (hr_X10_product : ∀ (mm : Mm) (q : Int32 × Mm), r_X10_product mm = some q → Met l yX10_product (wsOf yX10_product cX10_product 4 (some .int)) (rmk lev) (PcX WN ad ca WS D A [.ref (ad 58)] mm) (QcI WN ad ca WS D A pzT q) 0 0 A) (hr_X10_one : ∀ (mm : Mm) (q : Int32 × Mm), r_X10_one mm = some q → Met l yX10_one (wsOf yX10_one cX10_one 5 (some .int)) (rmk lev) (PcX WN ad ca WS D A [.ref (ad 58)] mm) (QcI WN ad ca WS D A pzT q) 0 0 A) {v1 : Int32} {mm : Mm} (h : DX10_sums_77 r_X10_either r_X10_both r_X10_compared r_X10_sums r_X10_product r_X10_one v1 mm = some q) (hH : Hx WN ad ca WS D A s.heap mm H locs) (hl : lv_has ls 4 [(1, .int v1)]) : W p l e (rmk (lev + 1)) s m args below meth c H locs 0 0 (MQ below (QcI WN ad ca WS D A pzT q) args s 0 0 A) (F0 m 77 ls []) := by
  unfold DX10_sums_77 at h
  have hx := C.1
  have hb := C.2.1
  refine lv_iload_n hx hb dX10_sums_77 rfl (lv_at hl 0 rfl) ?_
  have h := Option.some.inj h
  subst h
  exact retI C hH trivial dX10_sums_78
set_option maxHeartbeats 2000000 in
set_option maxRecDepth 20000 in
theorem wX10_sums_73 (C : Cx D ca A p s m args meth c cX10_sums RX10 4 (some .int)) {q : Int32 × Mm} {lev : Nat} (hlev : 3 ≤ lev + 1) {r_X10_either : Mm → Option (Int32 × Mm)} {r_X10_both : Mm → Option (Int32 × Mm)} {r_X10_compared : Mm → Option (Int32 × Mm)} {r_X10_sums : Mm → Option (Int32 × Mm)} {r_X10_product : Mm → Option (Int32 × Mm)} {r_X10_one : Mm → Option (Int32 × Mm)} (hr_X10_either : ∀ (mm : Mm) (q : Int32 × Mm), r_X10_either mm = some q → Met l yX10_either (wsOf yX10_either cX10_either 3 (some .int)) (rmk lev) (PcX WN ad ca WS D A [.ref (ad 58)] mm) (QcI WN ad ca WS D A pzT q) 0 0 A) (hr_X10_both : ∀ (mm : Mm) (q : Int32 × Mm), r_X10_both mm = some q → Met l yX10_both (wsOf yX10_both cX10_both 3 (some .int)) (rmk lev) (PcX WN ad ca WS D A [.ref (ad 58)] mm) (QcI WN ad ca WS D A pzT q) 0 0 A) (hr_X10_compared : ∀ (mm : Mm) (q : Int32 × Mm), r_X10_compared mm = some q → Met l yX10_compared (wsOf yX10_compared cX10_compared 4 (some .int)) (rmk lev) (PcX WN ad ca WS D A [.ref (ad 58)] mm) (QcI WN ad ca WS D A pzT q) 0 0 A) (hr_X10_sums : ∀ (mm : Mm) (q : Int32 × Mm), r_X10_sums mm = some q → Met l yX10_sums (wsOf yX10_sums cX10_sums 4 (some .int)) (rmk lev) (PcX WN ad ca WS D A [.ref (ad 58)] mm) (QcI WN ad ca WS D A pzT q) 0 0 A) (hr_X10_product : ∀ (mm : Mm) (q : Int32 × Mm), r_X10_product mm = some q → Met l yX10_product (wsOf yX10_product cX10_product 4 (some .int)) (rmk lev) (PcX WN ad ca WS D A [.ref (ad 58)] mm) (QcI WN ad ca WS D A pzT q) 0 0 A) (hr_X10_one : ∀ (mm : Mm) (q : Int32 × Mm), r_X10_one mm = some q → Met l yX10_one (wsOf yX10_one cX10_one 5 (some .int)) (rmk lev) (PcX WN ad ca WS D A [.ref (ad 58)] mm) (QcI WN ad ca WS D A pzT q) 0 0 A) {k5 : Int32 → Mm → Option (Int32 × Mm)} (hk5 : ∀ (v1 : Int32) (mm : Mm), k5 v1 mm = some q → ∀ (H : Heap) (locs : List Loc) (ls : Array Slot), Hx WN ad ca WS D A s.heap mm H locs → lv_has ls 4 [(0, .ref (ad 58)), (1, .int v1)] → W p l e (rmk (lev + 1)) s m args below meth c H locs 0 0 (MQ below (QcI WN ad ca WS D A pzT q) args s 0 0 A) (F0 m 5 ls [])) {s0 : Int32} {mm : Mm} (h : DX10_sums_73 r_X10_either r_X10_both r_X10_compared r_X10_sums r_X10_product r_X10_one k5 s0 mm = some q) (hH : Hx WN ad ca WS D A s.heap mm H locs) (hl : lv_has ls 4 [(0, .ref (ad 58))]) : W p l e (rmk (lev + 1)) s m args below meth c H locs 0 0 (MQ below (QcI WN ad ca WS D A pzT q) args s 0 0 A) (F0 m 73 ls [.int s0]) := by
  unfold DX10_sums_73 at h
  have hx := C.1
  have hb := C.2.1
  refine lv_istore_n (lv' := [(1, .int s0), (0, .ref (ad 58))]) hx hb dX10_sums_73 rfl hl (by decide) rfl (fun ls hl => ?_)
  refine lv_goto (tgt := 5) hx hb dX10_sums_74 (by decide) ?_
  exact hk5 _ _ h _ _ _ hH (lv_sub hl [1, 0] rfl)
set_option maxHeartbeats 2000000 in
set_option maxRecDepth 20000 in
theorem wX10_sums_44 (C : Cx D ca A p s m args meth c cX10_sums RX10 4 (some .int)) {q : Int32 × Mm} {lev : Nat} (hlev : 3 ≤ lev + 1) {r_X10_either : Mm → Option (Int32 × Mm)} {r_X10_both : Mm → Option (Int32 × Mm)} {r_X10_compared : Mm → Option (Int32 × Mm)} {r_X10_sums : Mm → Option (Int32 × Mm)} {r_X10_product : Mm → Option (Int32 × Mm)} {r_X10_one : Mm → Option (Int32 × Mm)} (hr_X10_either : ∀ (mm : Mm) (q : Int32 × Mm), r_X10_either mm = some q → Met l yX10_either (wsOf yX10_either cX10_either 3 (some .int)) (rmk lev) (PcX WN ad ca WS D A [.ref (ad 58)] mm) (QcI WN ad ca WS D A pzT q) 0 0 A) (hr_X10_both : ∀ (mm : Mm) (q : Int32 × Mm), r_X10_both mm = some q → Met l yX10_both (wsOf yX10_both cX10_both 3 (some .int)) (rmk lev) (PcX WN ad ca WS D A [.ref (ad 58)] mm) (QcI WN ad ca WS D A pzT q) 0 0 A) (hr_X10_compared : ∀ (mm : Mm) (q : Int32 × Mm), r_X10_compared mm = some q → Met l yX10_compared (wsOf yX10_compared cX10_compared 4 (some .int)) (rmk lev) (PcX WN ad ca WS D A [.ref (ad 58)] mm) (QcI WN ad ca WS D A pzT q) 0 0 A) (hr_X10_sums : ∀ (mm : Mm) (q : Int32 × Mm), r_X10_sums mm = some q → Met l yX10_sums (wsOf yX10_sums cX10_sums 4 (some .int)) (rmk lev) (PcX WN ad ca WS D A [.ref (ad 58)] mm) (QcI WN ad ca WS D A pzT q) 0 0 A) (hr_X10_product : ∀ (mm : Mm) (q : Int32 × Mm), r_X10_product mm = some q → Met l yX10_product (wsOf yX10_product cX10_product 4 (some .int)) (rmk lev) (PcX WN ad ca WS D A [.ref (ad 58)] mm) (QcI WN ad ca WS D A pzT q) 0 0 A) (hr_X10_one : ∀ (mm : Mm) (q : Int32 × Mm), r_X10_one mm = some q → Met l yX10_one (wsOf yX10_one cX10_one 5 (some .int)) (rmk lev) (PcX WN ad ca WS D A [.ref (ad 58)] mm) (QcI WN ad ca WS D A pzT q) 0 0 A) {k5 : Int32 → Mm → Option (Int32 × Mm)} (hk5 : ∀ (v1 : Int32) (mm : Mm), k5 v1 mm = some q → ∀ (H : Heap) (locs : List Loc) (ls : Array Slot), Hx WN ad ca WS D A s.heap mm H locs → lv_has ls 4 [(0, .ref (ad 58)), (1, .int v1)] → W p l e (rmk (lev + 1)) s m args below meth c H locs 0 0 (MQ below (QcI WN ad ca WS D A pzT q) args s 0 0 A) (F0 m 5 ls [])) {v1 : Int32} {s0 : Int32} {mm : Mm} (h : DX10_sums_44 r_X10_either r_X10_both r_X10_compared r_X10_sums r_X10_product r_X10_one k5 v1 s0 mm = some q) (hH : Hx WN ad ca WS D A s.heap mm H locs) (hl : lv_has ls 4 [(0, .ref (ad 58)), (1, .int v1)]) : W p l e (rmk (lev + 1)) s m args below meth c H locs 0 0 (MQ below (QcI WN ad ca WS D A pzT q) args s 0 0 A) (F0 m 44 ls [.int s0]) := by
  unfold DX10_sums_44 at h
  have hx := C.1
  have hb := C.2.1
  refine lv_istore_n (lv' := [(2, .int s0), (0, .ref (ad 58)), (1, .int v1)]) hx hb dX10_sums_44 rfl hl (by decide) rfl (fun ls hl => ?_)
  refine lv_aload_n hx hb dX10_sums_45 rfl (lv_at hl 1 rfl) ?_
  refine lv_dup hx hb dX10_sums_46 rfl ?_
  refine rgI C hH fi_RX10_157_58 dX10_sums_47 ?_
  refine lv_iconst (v := 1) hx hb dX10_sums_50 (by decide) ?_
  refine lv_iadd hx hb dX10_sums_51 ?_
  refine rpI C hH fp_RX10_157_58 rfl rfl dX10_sums_52 (fun H locs hH => ?_)
  refine lv_aload_n hx hb dX10_sums_55 rfl (lv_at hl 1 rfl) ?_
  obtain ⟨q56, e56, h⟩ := tB h
  refine rcI C hH hl.1 (hr_X10_product _ _ e56) cf_RX10_185 ro_58 (RR_of (by omega) (by decide)) rfl (rest := []) rfl (Nat.le_of_ble_eq_true rfl) dX10_sums_56 ?_
  intro hz56 H locs hH
  refine lv_istore_n (lv' := [(3, .int q56.1), (2, .int s0), (0, .ref (ad 58)), (1, .int v1)]) hx hb dX10_sums_59 rfl hl (by decide) rfl (fun ls hl => ?_)
  refine lv_iload_n hx hb dX10_sums_60 rfl (lv_at hl 1 rfl) ?_
  refine lv_if_eq (tgt := 70) hx hb dX10_sums_61 (by decide) (fun hc61 => ?_) (fun hc61 => ?_)
  · replace h := tT hc61 h
    refine lv_iload_n hx hb dX10_sums_70 rfl (lv_at hl 3 rfl) ?_
    refine lv_iload_n hx hb dX10_sums_71 rfl (lv_at hl 0 rfl) ?_
    refine lv_isub hx hb dX10_sums_72 ?_
    exact wX10_sums_73 C hlev hr_X10_either hr_X10_both hr_X10_compared hr_X10_sums hr_X10_product hr_X10_one hk5 h hH (lv_sub hl [2] rfl)
  · replace h := tF hc61 h
    refine lv_iload_n hx hb dX10_sums_64 rfl (lv_at hl 3 rfl) ?_
    refine lv_iload_n hx hb dX10_sums_65 rfl (lv_at hl 0 rfl) ?_
    refine lv_iadd hx hb dX10_sums_66 ?_
    refine lv_goto (tgt := 73) hx hb dX10_sums_67 (by decide) ?_
    exact wX10_sums_73 C hlev hr_X10_either hr_X10_both hr_X10_compared hr_X10_sums hr_X10_product hr_X10_one hk5 h hH (lv_sub hl [2] rfl)
set_option maxHeartbeats 2000000 in
set_option maxRecDepth 20000 in
theorem wX10_sums_30 (C : Cx D ca A p s m args meth c cX10_sums RX10 4 (some .int)) {q : Int32 × Mm} {lev : Nat} (hlev : 3 ≤ lev + 1) {r_X10_either : Mm → Option (Int32 × Mm)} {r_X10_both : Mm → Option (Int32 × Mm)} {r_X10_compared : Mm → Option (Int32 × Mm)} {r_X10_sums : Mm → Option (Int32 × Mm)} {r_X10_product : Mm → Option (Int32 × Mm)} {r_X10_one : Mm → Option (Int32 × Mm)} (hr_X10_either : ∀ (mm : Mm) (q : Int32 × Mm), r_X10_either mm = some q → Met l yX10_either (wsOf yX10_either cX10_either 3 (some .int)) (rmk lev) (PcX WN ad ca WS D A [.ref (ad 58)] mm) (QcI WN ad ca WS D A pzT q) 0 0 A) (hr_X10_both : ∀ (mm : Mm) (q : Int32 × Mm), r_X10_both mm = some q → Met l yX10_both (wsOf yX10_both cX10_both 3 (some .int)) (rmk lev) (PcX WN ad ca WS D A [.ref (ad 58)] mm) (QcI WN ad ca WS D A pzT q) 0 0 A) (hr_X10_compared : ∀ (mm : Mm) (q : Int32 × Mm), r_X10_compared mm = some q → Met l yX10_compared (wsOf yX10_compared cX10_compared 4 (some .int)) (rmk lev) (PcX WN ad ca WS D A [.ref (ad 58)] mm) (QcI WN ad ca WS D A pzT q) 0 0 A) (hr_X10_sums : ∀ (mm : Mm) (q : Int32 × Mm), r_X10_sums mm = some q → Met l yX10_sums (wsOf yX10_sums cX10_sums 4 (some .int)) (rmk lev) (PcX WN ad ca WS D A [.ref (ad 58)] mm) (QcI WN ad ca WS D A pzT q) 0 0 A) (hr_X10_product : ∀ (mm : Mm) (q : Int32 × Mm), r_X10_product mm = some q → Met l yX10_product (wsOf yX10_product cX10_product 4 (some .int)) (rmk lev) (PcX WN ad ca WS D A [.ref (ad 58)] mm) (QcI WN ad ca WS D A pzT q) 0 0 A) (hr_X10_one : ∀ (mm : Mm) (q : Int32 × Mm), r_X10_one mm = some q → Met l yX10_one (wsOf yX10_one cX10_one 5 (some .int)) (rmk lev) (PcX WN ad ca WS D A [.ref (ad 58)] mm) (QcI WN ad ca WS D A pzT q) 0 0 A) {k5 : Int32 → Mm → Option (Int32 × Mm)} (hk5 : ∀ (v1 : Int32) (mm : Mm), k5 v1 mm = some q → ∀ (H : Heap) (locs : List Loc) (ls : Array Slot), Hx WN ad ca WS D A s.heap mm H locs → lv_has ls 4 [(0, .ref (ad 58)), (1, .int v1)] → W p l e (rmk (lev + 1)) s m args below meth c H locs 0 0 (MQ below (QcI WN ad ca WS D A pzT q) args s 0 0 A) (F0 m 5 ls [])) {v1 : Int32} {mm : Mm} (h : DX10_sums_30 r_X10_either r_X10_both r_X10_compared r_X10_sums r_X10_product r_X10_one k5 v1 mm = some q) (hH : Hx WN ad ca WS D A s.heap mm H locs) (hl : lv_has ls 4 [(0, .ref (ad 58)), (1, .int v1)]) : W p l e (rmk (lev + 1)) s m args below meth c H locs 0 0 (MQ below (QcI WN ad ca WS D A pzT q) args s 0 0 A) (F0 m 30 ls []) := by
  unfold DX10_sums_30 at h
  have hx := C.1
  have hb := C.2.1
  refine lv_aload_n hx hb dX10_sums_30 rfl (lv_at hl 0 rfl) ?_
  obtain ⟨q31, e31, h⟩ := tB h
  refine rcI C hH hl.1 (mX10_byteAt l e31) cf_RX10_169 ro_58 (RR_of (by omega) (by decide)) rfl (rest := []) rfl (Nat.le_of_ble_eq_true rfl) dX10_sums_31 ?_
  intro hz31 H locs hH
  refine lv_bipush (v := 43) hx hb dX10_sums_34 (by decide) ?_
  refine lv_icmp_ne (tgt := 43) hx hb dX10_sums_36 (by decide) (fun hc36 => ?_) (fun hc36 => ?_)
  · replace h := tF hc36 h
    refine lv_iconst (v := 0) hx hb dX10_sums_43 (by decide) ?_
    exact wX10_sums_44 C hlev hr_X10_either hr_X10_both hr_X10_compared hr_X10_sums hr_X10_product hr_X10_one hk5 h hH (lv_sub hl [0, 1] rfl)
  · replace h := tT hc36 h
    refine lv_iconst (v := 1) hx hb dX10_sums_39 (by decide) ?_
    refine lv_goto (tgt := 44) hx hb dX10_sums_40 (by decide) ?_
    exact wX10_sums_44 C hlev hr_X10_either hr_X10_both hr_X10_compared hr_X10_sums hr_X10_product hr_X10_one hk5 h hH (lv_sub hl [0, 1] rfl)
set_option maxHeartbeats 2000000 in
set_option maxRecDepth 20000 in
theorem wbX10_sums_5 (C : Cx D ca A p s m args meth c cX10_sums RX10 4 (some .int)) {q : Int32 × Mm} {lev : Nat} (hlev : 3 ≤ lev + 1) {r_X10_either : Mm → Option (Int32 × Mm)} {r_X10_both : Mm → Option (Int32 × Mm)} {r_X10_compared : Mm → Option (Int32 × Mm)} {r_X10_sums : Mm → Option (Int32 × Mm)} {r_X10_product : Mm → Option (Int32 × Mm)} {r_X10_one : Mm → Option (Int32 × Mm)} (hr_X10_either : ∀ (mm : Mm) (q : Int32 × Mm), r_X10_either mm = some q → Met l yX10_either (wsOf yX10_either cX10_either 3 (some .int)) (rmk lev) (PcX WN ad ca WS D A [.ref (ad 58)] mm) (QcI WN ad ca WS D A pzT q) 0 0 A) (hr_X10_both : ∀ (mm : Mm) (q : Int32 × Mm), r_X10_both mm = some q → Met l yX10_both (wsOf yX10_both cX10_both 3 (some .int)) (rmk lev) (PcX WN ad ca WS D A [.ref (ad 58)] mm) (QcI WN ad ca WS D A pzT q) 0 0 A) (hr_X10_compared : ∀ (mm : Mm) (q : Int32 × Mm), r_X10_compared mm = some q → Met l yX10_compared (wsOf yX10_compared cX10_compared 4 (some .int)) (rmk lev) (PcX WN ad ca WS D A [.ref (ad 58)] mm) (QcI WN ad ca WS D A pzT q) 0 0 A) (hr_X10_sums : ∀ (mm : Mm) (q : Int32 × Mm), r_X10_sums mm = some q → Met l yX10_sums (wsOf yX10_sums cX10_sums 4 (some .int)) (rmk lev) (PcX WN ad ca WS D A [.ref (ad 58)] mm) (QcI WN ad ca WS D A pzT q) 0 0 A) (hr_X10_product : ∀ (mm : Mm) (q : Int32 × Mm), r_X10_product mm = some q → Met l yX10_product (wsOf yX10_product cX10_product 4 (some .int)) (rmk lev) (PcX WN ad ca WS D A [.ref (ad 58)] mm) (QcI WN ad ca WS D A pzT q) 0 0 A) (hr_X10_one : ∀ (mm : Mm) (q : Int32 × Mm), r_X10_one mm = some q → Met l yX10_one (wsOf yX10_one cX10_one 5 (some .int)) (rmk lev) (PcX WN ad ca WS D A [.ref (ad 58)] mm) (QcI WN ad ca WS D A pzT q) 0 0 A) {k5 : Int32 → Mm → Option (Int32 × Mm)} (hk5 : ∀ (v1 : Int32) (mm : Mm), k5 v1 mm = some q → ∀ (H : Heap) (locs : List Loc) (ls : Array Slot), Hx WN ad ca WS D A s.heap mm H locs → lv_has ls 4 [(0, .ref (ad 58)), (1, .int v1)] → W p l e (rmk (lev + 1)) s m args below meth c H locs 0 0 (MQ below (QcI WN ad ca WS D A pzT q) args s 0 0 A) (F0 m 5 ls [])) {v1 : Int32} {mm : Mm} (h : BX10_sums_5 r_X10_either r_X10_both r_X10_compared r_X10_sums r_X10_product r_X10_one k5 v1 mm = some q) (hH : Hx WN ad ca WS D A s.heap mm H locs) (hl : lv_has ls 4 [(0, .ref (ad 58)), (1, .int v1)]) : W p l e (rmk (lev + 1)) s m args below meth c H locs 0 0 (MQ below (QcI WN ad ca WS D A pzT q) args s 0 0 A) (F0 m 5 ls []) := by
  unfold BX10_sums_5 at h
  have hx := C.1
  have hb := C.2.1
  refine lv_aload_n hx hb dX10_sums_5 rfl (lv_at hl 0 rfl) ?_
  refine rgI C hH fi_RX10_166_58 dX10_sums_6 ?_
  refine lv_if_ge (tgt := 77) hx hb dX10_sums_9 (by decide) (fun hc9 => ?_) (fun hc9 => ?_)
  · replace h := tT hc9 h
    exact wX10_sums_77 C hlev hr_X10_either hr_X10_both hr_X10_compared hr_X10_sums hr_X10_product hr_X10_one h hH (lv_sub hl [1] rfl)
  · replace h := tF hc9 h
    refine lv_aload_n hx hb dX10_sums_12 rfl (lv_at hl 0 rfl) ?_
    obtain ⟨q13, e13, h⟩ := tB h
    refine rcI C hH hl.1 (mX10_byteAt l e13) cf_RX10_169 ro_58 (RR_of (by omega) (by decide)) rfl (rest := []) rfl (Nat.le_of_ble_eq_true rfl) dX10_sums_13 ?_
    intro hz13 H locs hH
    refine lv_bipush (v := 43) hx hb dX10_sums_16 (by decide) ?_
    refine lv_icmp_eq (tgt := 30) hx hb dX10_sums_18 (by decide) (fun hc18 => ?_) (fun hc18 => ?_)
    · replace h := tT hc18 h
      exact wX10_sums_30 C hlev hr_X10_either hr_X10_both hr_X10_compared hr_X10_sums hr_X10_product hr_X10_one hk5 h hH (lv_sub hl [0, 1] rfl)
    · replace h := tF hc18 h
      refine lv_aload_n hx hb dX10_sums_21 rfl (lv_at hl 0 rfl) ?_
      obtain ⟨q22, e22, h⟩ := tB h
      refine rcI C hH hl.1 (mX10_byteAt l e22) cf_RX10_169 ro_58 (RR_of (by omega) (by decide)) rfl (rest := []) rfl (Nat.le_of_ble_eq_true rfl) dX10_sums_22 ?_
      intro hz22 H locs hH
      refine lv_bipush (v := 45) hx hb dX10_sums_25 (by decide) ?_
      refine lv_icmp_ne (tgt := 77) hx hb dX10_sums_27 (by decide) (fun hc27 => ?_) (fun hc27 => ?_)
      · replace h := tF hc27 h
        exact wX10_sums_77 C hlev hr_X10_either hr_X10_both hr_X10_compared hr_X10_sums hr_X10_product hr_X10_one h hH (lv_sub hl [1] rfl)
      · replace h := tT hc27 h
        exact wX10_sums_30 C hlev hr_X10_either hr_X10_both hr_X10_compared hr_X10_sums hr_X10_product hr_X10_one hk5 h hH (lv_sub hl [0, 1] rfl)
set_option maxHeartbeats 2000000 in
set_option maxRecDepth 20000 in
theorem wX10_sums_5 (C : Cx D ca A p s m args meth c cX10_sums RX10 4 (some .int)) {q : Int32 × Mm} {lev : Nat} (hlev : 3 ≤ lev + 1) {r_X10_either : Mm → Option (Int32 × Mm)} {r_X10_both : Mm → Option (Int32 × Mm)} {r_X10_compared : Mm → Option (Int32 × Mm)} {r_X10_sums : Mm → Option (Int32 × Mm)} {r_X10_product : Mm → Option (Int32 × Mm)} {r_X10_one : Mm → Option (Int32 × Mm)} (hr_X10_either : ∀ (mm : Mm) (q : Int32 × Mm), r_X10_either mm = some q → Met l yX10_either (wsOf yX10_either cX10_either 3 (some .int)) (rmk lev) (PcX WN ad ca WS D A [.ref (ad 58)] mm) (QcI WN ad ca WS D A pzT q) 0 0 A) (hr_X10_both : ∀ (mm : Mm) (q : Int32 × Mm), r_X10_both mm = some q → Met l yX10_both (wsOf yX10_both cX10_both 3 (some .int)) (rmk lev) (PcX WN ad ca WS D A [.ref (ad 58)] mm) (QcI WN ad ca WS D A pzT q) 0 0 A) (hr_X10_compared : ∀ (mm : Mm) (q : Int32 × Mm), r_X10_compared mm = some q → Met l yX10_compared (wsOf yX10_compared cX10_compared 4 (some .int)) (rmk lev) (PcX WN ad ca WS D A [.ref (ad 58)] mm) (QcI WN ad ca WS D A pzT q) 0 0 A) (hr_X10_sums : ∀ (mm : Mm) (q : Int32 × Mm), r_X10_sums mm = some q → Met l yX10_sums (wsOf yX10_sums cX10_sums 4 (some .int)) (rmk lev) (PcX WN ad ca WS D A [.ref (ad 58)] mm) (QcI WN ad ca WS D A pzT q) 0 0 A) (hr_X10_product : ∀ (mm : Mm) (q : Int32 × Mm), r_X10_product mm = some q → Met l yX10_product (wsOf yX10_product cX10_product 4 (some .int)) (rmk lev) (PcX WN ad ca WS D A [.ref (ad 58)] mm) (QcI WN ad ca WS D A pzT q) 0 0 A) (hr_X10_one : ∀ (mm : Mm) (q : Int32 × Mm), r_X10_one mm = some q → Met l yX10_one (wsOf yX10_one cX10_one 5 (some .int)) (rmk lev) (PcX WN ad ca WS D A [.ref (ad 58)] mm) (QcI WN ad ca WS D A pzT q) 0 0 A) : ∀ (N : Nat) (v1 : Int32) (mm : Mm), DX10_sums_5 r_X10_either r_X10_both r_X10_compared r_X10_sums r_X10_product r_X10_one N v1 mm = some q → ∀ (H : Heap) (locs : List Loc) (ls : Array Slot), Hx WN ad ca WS D A s.heap mm H locs → lv_has ls 4 [(0, .ref (ad 58)), (1, .int v1)] → W p l e (rmk (lev + 1)) s m args below meth c H locs 0 0 (MQ below (QcI WN ad ca WS D A pzT q) args s 0 0 A) (F0 m 5 ls []) := by
  intro N
  induction N with
  | zero =>
    intro v1 mm h
    have h2 : (none : Option (Int32 × Mm)) = some q := h
    cases h2
  | succ N ih =>
    intro v1 mm h H locs ls hH hl
    exact wbX10_sums_5 C hlev hr_X10_either hr_X10_both hr_X10_compared hr_X10_sums hr_X10_product hr_X10_one ih h hH hl
set_option maxHeartbeats 2000000 in
set_option maxRecDepth 20000 in
theorem mbX10_sums (l : Launch) {D : va_G} {ca : Nat → ClassId} {A : Nat → Prop} {ad : Nat → Nat} {lev : Nat} (hlev : 3 ≤ lev + 1) {r_X10_either : Mm → Option (Int32 × Mm)} {r_X10_both : Mm → Option (Int32 × Mm)} {r_X10_compared : Mm → Option (Int32 × Mm)} {r_X10_sums : Mm → Option (Int32 × Mm)} {r_X10_product : Mm → Option (Int32 × Mm)} {r_X10_one : Mm → Option (Int32 × Mm)} (hr_X10_either : ∀ (mm : Mm) (q : Int32 × Mm), r_X10_either mm = some q → Met l yX10_either (wsOf yX10_either cX10_either 3 (some .int)) (rmk lev) (PcX WN ad ca WS D A [.ref (ad 58)] mm) (QcI WN ad ca WS D A pzT q) 0 0 A) (hr_X10_both : ∀ (mm : Mm) (q : Int32 × Mm), r_X10_both mm = some q → Met l yX10_both (wsOf yX10_both cX10_both 3 (some .int)) (rmk lev) (PcX WN ad ca WS D A [.ref (ad 58)] mm) (QcI WN ad ca WS D A pzT q) 0 0 A) (hr_X10_compared : ∀ (mm : Mm) (q : Int32 × Mm), r_X10_compared mm = some q → Met l yX10_compared (wsOf yX10_compared cX10_compared 4 (some .int)) (rmk lev) (PcX WN ad ca WS D A [.ref (ad 58)] mm) (QcI WN ad ca WS D A pzT q) 0 0 A) (hr_X10_sums : ∀ (mm : Mm) (q : Int32 × Mm), r_X10_sums mm = some q → Met l yX10_sums (wsOf yX10_sums cX10_sums 4 (some .int)) (rmk lev) (PcX WN ad ca WS D A [.ref (ad 58)] mm) (QcI WN ad ca WS D A pzT q) 0 0 A) (hr_X10_product : ∀ (mm : Mm) (q : Int32 × Mm), r_X10_product mm = some q → Met l yX10_product (wsOf yX10_product cX10_product 4 (some .int)) (rmk lev) (PcX WN ad ca WS D A [.ref (ad 58)] mm) (QcI WN ad ca WS D A pzT q) 0 0 A) (hr_X10_one : ∀ (mm : Mm) (q : Int32 × Mm), r_X10_one mm = some q → Met l yX10_one (wsOf yX10_one cX10_one 5 (some .int)) (rmk lev) (PcX WN ad ca WS D A [.ref (ad 58)] mm) (QcI WN ad ca WS D A pzT q) 0 0 A) {mm : Mm} {q : Int32 × Mm} (h : bX10_sums r_X10_either r_X10_both r_X10_compared r_X10_sums r_X10_product r_X10_one mm = some q) : Met l yX10_sums (wsOf yX10_sums cX10_sums 4 (some .int)) (rmk (lev + 1)) (PcX WN ad ca WS D A [.ref (ad 58)] mm) (QcI WN ad ca WS D A pzT q) 0 0 A := by
  unfold bX10_sums at h
  refine ent (by decide) (Nat.le_of_ble_eq_true rfl) (fun p e s m args below meth c hargs C hH ls hl => ?_)
  have hx := C.1
  have hb := C.2.1
  have hl : lv_has ls 4 [(0, .ref (ad 58))] := hl
  refine lv_aload_n hx hb dX10_sums_0 rfl (lv_at hl 0 rfl) ?_
  obtain ⟨q1, e1, h⟩ := tB h
  refine rcI C hH hl.1 (hr_X10_product _ _ e1) cf_RX10_185 ro_58 (RR_of (by omega) (by decide)) rfl (rest := []) rfl (Nat.le_of_ble_eq_true rfl) dX10_sums_1 ?_
  intro hz1 H locs hH
  refine lv_istore_n (lv' := [(1, .int q1.1), (0, .ref (ad 58))]) hx hb dX10_sums_4 rfl hl (by decide) rfl (fun ls hl => ?_)
  exact wX10_sums_5 C hlev hr_X10_either hr_X10_both hr_X10_compared hr_X10_sums hr_X10_product hr_X10_one FU _ _ h _ _ _ hH (lv_sub hl [1, 0] rfl)
end WALK
