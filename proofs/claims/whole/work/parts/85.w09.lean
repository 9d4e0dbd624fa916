/-! ===== the walks: each method by its denotation (laid by wip/whole/gen.py) ===== -/
section WALK
variable {p : Program} {l : Launch} {e : Env} {s : State} {m : MethodId} {args : Array Value} {below : List Frame} {meth : Method} {c : Code} {H : Heap} {locs : List Loc} {Q : State → Prop} {cells slots : Nat} {ls : Array Slot} {D : va_G} {ca : Nat → ClassId} {A : Nat → Prop} {ad : Nat → Nat}
set_option maxHeartbeats 2000000 in
set_option maxRecDepth 20000 in
theorem wX9_row_22 (C : Cx D ca A p s m args meth c cX9_row RX9 4 (some .int)) {q : Int32 × Mm} {mm : Mm} (h : DX9_row_22 mm = some q) (hH : Hx WN ad ca WS D A s.heap mm H locs) (hl : lv_has ls 4 []) : W p l e (rmk 3) s m args below meth c H locs 0 0 (MQ below (QcI WN ad ca WS D A pzT q) args s 0 0 A) (F0 m 22 ls []) := by
  unfold DX9_row_22 at h
  have hx := C.1
  have hb := C.2.1
  refine lv_iconst (v := (-1)) hx hb dX9_row_22 (by decide) ?_
  have h := Option.some.inj h
  subst h
  exact retI C hH trivial dX9_row_23
set_option maxHeartbeats 2000000 in
set_option maxRecDepth 20000 in
theorem mX9_row (l : Launch) {D : va_G} {ca : Nat → ClassId} {A : Nat → Prop} {ad : Nat → Nat} {v1 : Int32} {v2 : Int32} {v3 : Int32} {mm : Mm} {q : Int32 × Mm} (h : dX9_row v1 v2 v3 mm = some q) : Met l yX9_row (wsOf yX9_row cX9_row 4 (some .int)) (rmk 3) (PcX WN ad ca WS D A [.ref (ad 0), .int v1, .int v2, .int v3] mm) (QcI WN ad ca WS D A pzT q) 0 0 A := by
  unfold dX9_row at h
  refine ent (by decide) (Nat.le_of_ble_eq_true rfl) (fun p e s m args below meth c hargs C hH ls hl => ?_)
  have hx := C.1
  have hb := C.2.1
  have hl : lv_has ls 4 [(0, .ref (ad 0)), (1, .int v1), (2, .int v2), (3, .int v3)] := hl
  refine lv_iload_n hx hb dX9_row_0 rfl (lv_at hl 1 rfl) ?_
  obtain ⟨q1, e1, h⟩ := tB h
  refine rsI C hH hl.1 (mX9_isShelf l e1) cs_RX9_75 (RR_of (by decide) (by decide)) rfl (rest := []) rfl (Nat.le_of_ble_eq_true rfl) dX9_row_1 ?_
  intro hz1 H locs hH
  refine lv_if_eq (tgt := 22) hx hb dX9_row_4 (by decide) (fun hc4 => ?_) (fun hc4 => ?_)
  · replace h := tT hc4 h
    exact wX9_row_22 C h hH (lv_sub hl [] rfl)
  · replace h := tF hc4 h
    refine lv_iload_n hx hb dX9_row_7 rfl (lv_at hl 2 rfl) ?_
    refine lv_if_lt (tgt := 22) hx hb dX9_row_8 (by decide) (fun hc8 => ?_) (fun hc8 => ?_)
    · replace h := tT hc8 h
      exact wX9_row_22 C h hH (lv_sub hl [] rfl)
    · replace h := tF hc8 h
      refine lv_iload_n hx hb dX9_row_11 rfl (lv_at hl 2 rfl) ?_
      refine lv_iconst (v := 4) hx hb dX9_row_12 (by decide) ?_
      refine lv_icmp_gt (tgt := 22) hx hb dX9_row_13 (by decide) (fun hc13 => ?_) (fun hc13 => ?_)
      · replace h := tT hc13 h
        exact wX9_row_22 C h hH (lv_sub hl [] rfl)
      · replace h := tF hc13 h
        refine lv_iload_n hx hb dX9_row_16 rfl (lv_at hl 3 rfl) ?_
        refine lv_bipush (v := 60) hx hb dX9_row_17 (by decide) ?_
        refine lv_icmp_le (tgt := 24) hx hb dX9_row_19 (by decide) (fun hc19 => ?_) (fun hc19 => ?_)
        · replace h := tT hc19 h
          refine lv_iload_n hx hb dX9_row_24 rfl (lv_at hl 3 rfl) ?_
          refine lv_if_ge (tgt := 31) hx hb dX9_row_25 (by decide) (fun hc25 => ?_) (fun hc25 => ?_)
          · replace h := tT hc25 h
            refine lv_aload_n hx hb dX9_row_31 rfl (lv_at hl 0 rfl) ?_
            refine rgS C hH fs_RX9_62_0 dX9_row_32 ?_
            refine lv_iload_n hx hb dX9_row_35 rfl (lv_at hl 1 rfl) ?_
            obtain ⟨hi36, h⟩ := tC h
            refine raS C hH (o := 37) (k := (Int32.toNatClampNeg v1)) (by decide) (show WS 37 = .inr (4, 6, 38) from rfl) hi36 rfl dX9_row_36 ?_
            refine lv_iload_n hx hb dX9_row_37 rfl (lv_at hl 2 rfl) ?_
            refine lv_iload_n hx hb dX9_row_38 rfl (lv_at hl 3 rfl) ?_
            obtain ⟨q39, e39, h⟩ := tB h
            refine rcV C hH hl.1 (mX8_layRow l e39) cf_RX9_298 (ro_sh (sh_of hi36)) (RR_of (by decide) (by decide)) rfl (rest := []) rfl (Nat.le_of_ble_eq_true rfl) dX9_row_39 ?_
            intro H locs hH
            refine lv_iconst (v := 1) hx hb dX9_row_42 (by decide) ?_
            have h := Option.some.inj h
            subst h
            exact retI C hH trivial dX9_row_43
          · replace h := tF hc25 h
            refine lv_bipush (v := (-14)) hx hb dX9_row_28 (by decide) ?_
            have h := Option.some.inj h
            subst h
            exact retI C hH trivial dX9_row_30
        · replace h := tF hc19 h
          exact wX9_row_22 C h hH (lv_sub hl [] rfl)
set_option maxHeartbeats 2000000 in
set_option maxRecDepth 20000 in
theorem wX10_row_25 (C : Cx D ca A p s m args meth c cX10_row RX10 5 (some .int)) {q : Int32 × Mm} {mm : Mm} (h : DX10_row_25 mm = some q) (hH : Hx WN ad ca WS D A s.heap mm H locs) (hl : lv_has ls 5 []) : W p l e (rmk 3) s m args below meth c H locs 0 0 (MQ below (QcI WN ad ca WS D A pzT q) args s 0 0 A) (F0 m 25 ls []) := by
  unfold DX10_row_25 at h
  have hx := C.1
  have hb := C.2.1
  refine lv_iconst (v := (-1)) hx hb dX10_row_25 (by decide) ?_
  have h := Option.some.inj h
  subst h
  exact retI C hH trivial dX10_row_26
set_option maxHeartbeats 2000000 in
set_option maxRecDepth 20000 in
theorem wbX10_row_57 (C : Cx D ca A p s m args meth c cX10_row RX10 5 (some .int)) {q : Int32 × Mm} {k57 : Int32 → Int32 → Mm → Option (Int32 × Mm)} (hk57 : ∀ (v1 : Int32) (v4 : Int32) (mm : Mm), k57 v1 v4 mm = some q → ∀ (H : Heap) (locs : List Loc) (ls : Array Slot), Hx WN ad ca WS D A s.heap mm H locs → lv_has ls 5 [(0, .ref (ad 58)), (1, .int v1), (4, .int v4)] → W p l e (rmk 3) s m args below meth c H locs 0 0 (MQ below (QcI WN ad ca WS D A pzT q) args s 0 0 A) (F0 m 57 ls [])) {v1 : Int32} {v4 : Int32} {mm : Mm} (h : BX10_row_57 k57 v1 v4 mm = some q) (hH : Hx WN ad ca WS D A s.heap mm H locs) (hl : lv_has ls 5 [(0, .ref (ad 58)), (1, .int v1), (4, .int v4)]) : W p l e (rmk 3) s m args below meth c H locs 0 0 (MQ below (QcI WN ad ca WS D A pzT q) args s 0 0 A) (F0 m 57 ls []) := by
  unfold BX10_row_57 at h
  have hx := C.1
  have hb := C.2.1
  refine lv_iload hx hb dX10_row_57 (lv_at hl 2 rfl) ?_
  refine lv_bipush (v := 60) hx hb dX10_row_59 (by decide) ?_
  refine lv_iload_n hx hb dX10_row_61 rfl (lv_at hl 1 rfl) ?_
  refine lv_imul hx hb dX10_row_62 ?_
  refine lv_bipush (v := 60) hx hb dX10_row_63 (by decide) ?_
  refine lv_iadd hx hb dX10_row_65 ?_
  refine lv_icmp_ge (tgt := 83) hx hb dX10_row_66 (by decide) (fun hc66 => ?_) (fun hc66 => ?_)
  · replace h := tT hc66 h
    refine lv_iconst (v := 1) hx hb dX10_row_83 (by decide) ?_
    have h := Option.some.inj h
    subst h
    exact retI C hH trivial dX10_row_84
  · replace h := tF hc66 h
    refine lv_aload_n hx hb dX10_row_69 rfl (lv_at hl 0 rfl) ?_
    refine rgS C hH fs_RX10_78_58 dX10_row_70 ?_
    refine lv_iload hx hb dX10_row_73 (lv_at hl 2 rfl) ?_
    refine lv_lconst (v := 0) hx hb dX10_row_75 (by decide) ?_
    obtain ⟨hi76, h⟩ := tC h
    refine rwL C hH (k := (Int32.toNatClampNeg v4)) (by decide) (show WS 81 = .inr (3, 360, 0) from rfl) hi76 rfl dX10_row_76 (fun H locs hH => ?_)
    refine lv_iinc (v := (v4 + 1)) (lv' := [(4, .int (v4 + 1)), (0, .ref (ad 58)), (1, .int v1)]) hx hb dX10_row_77 hl (k := 2) rfl rfl (by decide) rfl (fun ls hl => ?_)
    refine lv_goto (tgt := 57) hx hb dX10_row_80 (by decide) ?_
    exact hk57 _ _ _ h _ _ _ hH (lv_sub hl [1, 2, 0] rfl)
set_option maxHeartbeats 2000000 in
set_option maxRecDepth 20000 in
theorem wX10_row_57 (C : Cx D ca A p s m args meth c cX10_row RX10 5 (some .int)) {q : Int32 × Mm} : ∀ (N : Nat) (v1 : Int32) (v4 : Int32) (mm : Mm), DX10_row_57 N v1 v4 mm = some q → ∀ (H : Heap) (locs : List Loc) (ls : Array Slot), Hx WN ad ca WS D A s.heap mm H locs → lv_has ls 5 [(0, .ref (ad 58)), (1, .int v1), (4, .int v4)] → W p l e (rmk 3) s m args below meth c H locs 0 0 (MQ below (QcI WN ad ca WS D A pzT q) args s 0 0 A) (F0 m 57 ls []) := by
  intro N
  induction N with
  | zero =>
    intro v1 v4 mm h
    have h2 : (none : Option (Int32 × Mm)) = some q := h
    cases h2
  | succ N ih =>
    intro v1 v4 mm h H locs ls hH hl
    exact wbX10_row_57 C ih h hH hl
set_option maxHeartbeats 2000000 in
set_option maxRecDepth 20000 in
theorem mX10_row (l : Launch) {D : va_G} {ca : Nat → ClassId} {A : Nat → Prop} {ad : Nat → Nat} {v1 : Int32} {v2 : Int32} {v3 : Int32} {mm : Mm} {q : Int32 × Mm} (h : dX10_row v1 v2 v3 mm = some q) : Met l yX10_row (wsOf yX10_row cX10_row 5 (some .int)) (rmk 3) (PcX WN ad ca WS D A [.ref (ad 58), .int v1, .int v2, .int v3] mm) (QcI WN ad ca WS D A pzT q) 0 0 A := by
  unfold dX10_row at h
  refine ent (by decide) (Nat.le_of_ble_eq_true rfl) (fun p e s m args below meth c hargs C hH ls hl => ?_)
  have hx := C.1
  have hb := C.2.1
  have hl : lv_has ls 5 [(0, .ref (ad 58)), (1, .int v1), (2, .int v2), (3, .int v3)] := hl
  refine lv_iload_n hx hb dX10_row_0 rfl (lv_at hl 1 rfl) ?_
  obtain ⟨q1, e1, h⟩ := tB h
  refine rsI C hH hl.1 (mX10_isShelf l e1) cs_RX10_114 (RR_of (by decide) (by decide)) rfl (rest := []) rfl (Nat.le_of_ble_eq_true rfl) dX10_row_1 ?_
  intro hz1 H locs hH
  refine lv_if_eq (tgt := 25) hx hb dX10_row_4 (by decide) (fun hc4 => ?_) (fun hc4 => ?_)
  · replace h := tT hc4 h
    exact wX10_row_25 C h hH (lv_sub hl [] rfl)
  · replace h := tF hc4 h
    refine lv_iload_n hx hb dX10_row_7 rfl (lv_at hl 2 rfl) ?_
    refine lv_i2l' hx hb dX10_row_8 ?_
    refine lv_lconst (v := 0) hx hb dX10_row_9 (by decide) ?_
    refine rldc2 C (v := 4) k_RX10_128 dX10_row_10 ?_
    obtain ⟨q13, e13, h⟩ := tB h
    refine rsI C hH hl.1 (mX10_within l e13) cs_RX10_96 (RR_of (by decide) (by decide)) rfl (rest := []) rfl (Nat.le_of_ble_eq_true rfl) dX10_row_13 ?_
    intro hz13 H locs hH
    refine lv_if_eq (tgt := 25) hx hb dX10_row_16 (by decide) (fun hc16 => ?_) (fun hc16 => ?_)
    · replace h := tT hc16 h
      exact wX10_row_25 C h hH (lv_sub hl [] rfl)
    · replace h := tF hc16 h
      refine lv_iload_n hx hb dX10_row_19 rfl (lv_at hl 3 rfl) ?_
      refine lv_bipush (v := 60) hx hb dX10_row_20 (by decide) ?_
      refine lv_icmp_le (tgt := 27) hx hb dX10_row_22 (by decide) (fun hc22 => ?_) (fun hc22 => ?_)
      · replace h := tT hc22 h
        refine lv_iload_n hx hb dX10_row_27 rfl (lv_at hl 3 rfl) ?_
        refine lv_if_ge (tgt := 34) hx hb dX10_row_28 (by decide) (fun hc28 => ?_) (fun hc28 => ?_)
        · replace h := tT hc28 h
          refine lv_aload_n hx hb dX10_row_34 rfl (lv_at hl 0 rfl) ?_
          refine rgS C hH fs_RX10_72_58 dX10_row_35 ?_
          refine lv_iload_n hx hb dX10_row_38 rfl (lv_at hl 1 rfl) ?_
          refine lv_bipush (v := 50) hx hb dX10_row_39 (by decide) ?_
          refine lv_iload_n hx hb dX10_row_41 rfl (lv_at hl 2 rfl) ?_
          refine lv_iadd hx hb dX10_row_42 ?_
          obtain ⟨hi43, h⟩ := tC h
          refine rwI C hH (k := (Int32.toNatClampNeg v1)) (by decide) (show WS 79 = .inr (0, 6, 0) from rfl) hi43 rfl dX10_row_43 (fun H locs hH => ?_)
          refine lv_aload_n hx hb dX10_row_44 rfl (lv_at hl 0 rfl) ?_
          refine rgS C hH fs_RX10_75_58 dX10_row_45 ?_
          refine lv_iload_n hx hb dX10_row_48 rfl (lv_at hl 1 rfl) ?_
          refine lv_iload_n hx hb dX10_row_49 rfl (lv_at hl 3 rfl) ?_
          obtain ⟨hi50, h⟩ := tC h
          refine rwI C hH (k := (Int32.toNatClampNeg v1)) (by decide) (show WS 80 = .inr (0, 6, 0) from rfl) hi50 rfl dX10_row_50 (fun H locs hH => ?_)
          refine lv_bipush (v := 60) hx hb dX10_row_51 (by decide) ?_
          refine lv_iload_n hx hb dX10_row_53 rfl (lv_at hl 1 rfl) ?_
          refine lv_imul hx hb dX10_row_54 ?_
          refine lv_istore (lv' := [(4, .int (60 * v1)), (0, .ref (ad 58)), (1, .int v1), (2, .int v2), (3, .int v3)]) hx hb dX10_row_55 hl (by decide) rfl (fun ls hl => ?_)
          exact wX10_row_57 C FU _ _ _ h _ _ _ hH (lv_sub hl [1, 2, 0] rfl)
        · replace h := tF hc28 h
          refine lv_bipush (v := (-14)) hx hb dX10_row_31 (by decide) ?_
          have h := Option.some.inj h
          subst h
          exact retI C hH trivial dX10_row_33
      · replace h := tF hc22 h
        exact wX10_row_25 C h hH (lv_sub hl [] rfl)
set_option maxHeartbeats 2000000 in
set_option maxRecDepth 20000 in
theorem mX9_placeRefusal (l : Launch) {D : va_G} {ca : Nat → ClassId} {A : Nat → Prop} {ad : Nat → Nat} {v1 : Int32} {v2 : Int32} {mm : Mm} {q : Int32 × Mm} (h : dX9_placeRefusal v1 v2 mm = some q) : Met l yX9_placeRefusal (wsOf yX9_placeRefusal cX9_placeRefusal 4 (some .int)) (rmk 2) (PcX WN ad ca WS D A [.ref (ad 0), .int v1, .int v2] mm) (QcI WN ad ca WS D A pzT q) 0 0 A := by
  unfold dX9_placeRefusal at h
  refine ent (by decide) (Nat.le_of_ble_eq_true rfl) (fun p e s m args below meth c hargs C hH ls hl => ?_)
  have hx := C.1
  have hb := C.2.1
  have hl : lv_has ls 4 [(0, .ref (ad 0)), (1, .int v1), (2, .int v2)] := hl
  refine lv_iload_n hx hb dX9_placeRefusal_0 rfl (lv_at hl 1 rfl) ?_
  obtain ⟨q1, e1, h⟩ := tB h
  refine rsI C hH hl.1 (mX9_isShelf l e1) cs_RX9_75 (RR_of (by decide) (by decide)) rfl (rest := []) rfl (Nat.le_of_ble_eq_true rfl) dX9_placeRefusal_1 ?_
  intro hz1 H locs hH
  refine lv_if_ne (tgt := 9) hx hb dX9_placeRefusal_4 (by decide) (fun hc4 => ?_) (fun hc4 => ?_)
  · replace h := tF hc4 h
    refine lv_aload_n hx hb dX9_placeRefusal_9 rfl (lv_at hl 0 rfl) ?_
    refine rgS C hH fs_RX9_62_0 dX9_placeRefusal_10 ?_
    refine lv_iload_n hx hb dX9_placeRefusal_13 rfl (lv_at hl 1 rfl) ?_
    obtain ⟨hi14, h⟩ := tC h
    refine raS C hH (o := 37) (k := (Int32.toNatClampNeg v1)) (by decide) (show WS 37 = .inr (4, 6, 38) from rfl) hi14 rfl dX9_placeRefusal_14 ?_
    refine lv_astore_n (lv' := [(3, .ref (ad (38 + (Int32.toNatClampNeg v1)))), (0, .ref (ad 0)), (1, .int v1), (2, .int v2)]) hx hb dX9_placeRefusal_15 rfl hl (by decide) rfl (fun ls hl => ?_)
    refine lv_aload_n hx hb dX9_placeRefusal_16 rfl (lv_at hl 0 rfl) ?_
    refine rgI C hH (fiSH_RX9_311 (sh_of hi14)) dX9_placeRefusal_17 ?_
    refine lv_if_ne (tgt := 26) hx hb dX9_placeRefusal_20 (by decide) (fun hc20 => ?_) (fun hc20 => ?_)
    · replace h := tF hc20 h
      refine lv_aload_n hx hb dX9_placeRefusal_26 rfl (lv_at hl 0 rfl) ?_
      refine rgI C hH (fiSH_RX9_311 (sh_of hi14)) dX9_placeRefusal_27 ?_
      refine lv_iconst (v := 2) hx hb dX9_placeRefusal_30 (by decide) ?_
      refine lv_icmp_eq (tgt := 37) hx hb dX9_placeRefusal_31 (by decide) (fun hc31 => ?_) (fun hc31 => ?_)
      · replace h := tT hc31 h
        refine lv_aload_n hx hb dX9_placeRefusal_37 rfl (lv_at hl 0 rfl) ?_
        refine lv_iload_n hx hb dX9_placeRefusal_38 rfl (lv_at hl 3 rfl) ?_
        refine lv_iconst (v := 1) hx hb dX9_placeRefusal_39 (by decide) ?_
        obtain ⟨q40, e40, h⟩ := tB h
        refine rcI C hH hl.1 (mX8_hasPlaces l e40) cf_RX9_316 (ro_sh (sh_of hi14)) (RR_of (by decide) (by decide)) rfl (rest := []) rfl (Nat.le_of_ble_eq_true rfl) dX9_placeRefusal_40 ?_
        intro hz40 H locs hH
        refine lv_if_eq (tgt := 50) hx hb dX9_placeRefusal_43 (by decide) (fun hc43 => ?_) (fun hc43 => ?_)
        · replace h := tT hc43 h
          refine lv_bipush (v := (-13)) hx hb dX9_placeRefusal_50 (by decide) ?_
          have h := Option.some.inj h
          subst h
          exact retI C hH trivial dX9_placeRefusal_52
        · replace h := tF hc43 h
          refine lv_iconst (v := 0) hx hb dX9_placeRefusal_46 (by decide) ?_
          refine lv_goto (tgt := 52) hx hb dX9_placeRefusal_47 (by decide) ?_
          have h := Option.some.inj h
          subst h
          exact retI C hH trivial dX9_placeRefusal_52
      · replace h := tF hc31 h
        refine lv_bipush (v := (-12)) hx hb dX9_placeRefusal_34 (by decide) ?_
        have h := Option.some.inj h
        subst h
        exact retI C hH trivial dX9_placeRefusal_36
    · replace h := tT hc20 h
      refine lv_bipush (v := (-11)) hx hb dX9_placeRefusal_23 (by decide) ?_
      have h := Option.some.inj h
      subst h
      exact retI C hH trivial dX9_placeRefusal_25
  · replace h := tT hc4 h
    refine lv_iconst (v := (-1)) hx hb dX9_placeRefusal_7 (by decide) ?_
    have h := Option.some.inj h
    subst h
    exact retI C hH trivial dX9_placeRefusal_8
set_option maxHeartbeats 2000000 in
set_option maxRecDepth 20000 in
theorem wX8_fitted_66 (C : Cx D ca A p s m args meth c cX8_fitted RX8 3 (some .long)) {q : Int64 × Mm} {v1 : Int64} {mm : Mm} (h : DX8_fitted_66 v1 mm = some q) (hH : Hx WN ad ca WS D A s.heap mm H locs) (hl : lv_has ls 3 [(1, .long v1)]) : W p l e (rmk 1) s m args below meth c H locs 0 0 (MQ below (QcL WN ad ca WS D A q) args s 0 0 A) (F0 m 66 ls []) := by
  unfold DX8_fitted_66 at h
  have hx := C.1
  have hb := C.2.1
  refine lv_lload_n hx hb dX8_fitted_66 rfl (lv_at hl 0 rfl) ?_
  have h := Option.some.inj h
  subst h
  exact retL C hH dX8_fitted_67
set_option maxHeartbeats 2000000 in
set_option maxRecDepth 20000 in
theorem mX8_fitted (l : Launch) {D : va_G} {ca : Nat → ClassId} {A : Nat → Prop} {ad : Nat → Nat} {v0 : Nat} {v1 : Int64} {mm : Mm} {q : Int64 × Mm} (h : dX8_fitted v0 v1 mm = some q) : Met l yX8_fitted (wsOf yX8_fitted cX8_fitted 3 (some .long)) (rmk 1) (PcX WN ad ca WS D A [.ref (ad v0), .long v1] mm) (QcL WN ad ca WS D A q) 0 0 A := by
  unfold dX8_fitted at h
  refine ent (by decide) (Nat.le_of_ble_eq_true rfl) (fun p e s m args below meth c hargs C hH ls hl => ?_)
  have hx := C.1
  have hb := C.2.1
  have hl : lv_has ls 3 [(0, .ref (ad v0)), (1, .long v1)] := hl
  obtain ⟨ho0, h⟩ := tC h
  refine lv_aload_n hx hb dX8_fitted_0 rfl (lv_at hl 0 rfl) ?_
  refine rgI C hH (fiSH_RX8_22 ho0) dX8_fitted_1 ?_
  obtain ⟨x4, ex4⟩ : ∃ z : Int32, z = (gI mm v0 3) := ⟨_, rfl⟩
  rw [← ex4] at h ⊢
  by_cases hc4_0 : x4 = 0
  · replace h := tT hc4_0 h
    refine lv_tableIn (tgt := 40) hx hb dX8_fitted_4 (by rw [hc4_0]; decide) (by rw [hc4_0]; decide) (by rw [hc4_0]; rfl) (by decide) ?_
    refine lv_lload_n hx hb dX8_fitted_40 rfl (lv_at hl 1 rfl) ?_
    refine lv_l2i' hx hb dX8_fitted_41 ?_
    refine lv_i2b' hx hb dX8_fitted_42 ?_
    refine lv_i2l' hx hb dX8_fitted_43 ?_
    have h := Option.some.inj h
    subst h
    exact retL C hH dX8_fitted_44
  · replace h := tF hc4_0 h
    by_cases hc4_1 : x4 = 1
    · replace h := tT hc4_1 h
      refine lv_tableIn (tgt := 45) hx hb dX8_fitted_4 (by rw [hc4_1]; decide) (by rw [hc4_1]; decide) (by rw [hc4_1]; rfl) (by decide) ?_
      refine lv_lload_n hx hb dX8_fitted_45 rfl (lv_at hl 1 rfl) ?_
      refine lv_l2i' hx hb dX8_fitted_46 ?_
      refine lv_i2s' hx hb dX8_fitted_47 ?_
      refine lv_i2l' hx hb dX8_fitted_48 ?_
      have h := Option.some.inj h
      subst h
      exact retL C hH dX8_fitted_49
    · replace h := tF hc4_1 h
      by_cases hc4_2 : x4 = 2
      · replace h := tT hc4_2 h
        refine lv_tableIn (tgt := 50) hx hb dX8_fitted_4 (by rw [hc4_2]; decide) (by rw [hc4_2]; decide) (by rw [hc4_2]; rfl) (by decide) ?_
        refine lv_lload_n hx hb dX8_fitted_50 rfl (lv_at hl 1 rfl) ?_
        refine lv_l2i' hx hb dX8_fitted_51 ?_
        refine lv_i2l' hx hb dX8_fitted_52 ?_
        have h := Option.some.inj h
        subst h
        exact retL C hH dX8_fitted_53
      · replace h := tF hc4_2 h
        by_cases hc4_3 : x4 = 3
        · replace h := tT hc4_3 h
          refine lv_tableIn (tgt := 66) hx hb dX8_fitted_4 (by rw [hc4_3]; decide) (by rw [hc4_3]; decide) (by rw [hc4_3]; rfl) (by decide) ?_
          exact wX8_fitted_66 C h hH (lv_sub hl [1] rfl)
        · replace h := tF hc4_3 h
          by_cases hc4_4 : x4 = 4
          · replace h := tT hc4_4 h
            refine lv_tableIn (tgt := 54) hx hb dX8_fitted_4 (by rw [hc4_4]; decide) (by rw [hc4_4]; decide) (by rw [hc4_4]; rfl) (by decide) ?_
            refine lv_lload_n hx hb dX8_fitted_54 rfl (lv_at hl 1 rfl) ?_
            refine lv_lconst (v := 0) hx hb dX8_fitted_55 (by decide) ?_
            refine lc_eq (tgt := 64) hx hb dX8_fitted_56 dX8_fitted_57 (by decide) (fun hc57 => ?_) (fun hc57 => ?_)
            · replace h := tT hc57 h
              refine lv_lconst (v := 0) hx hb dX8_fitted_64 (by decide) ?_
              have h := Option.some.inj h
              subst h
              exact retL C hH dX8_fitted_65
            · replace h := tF hc57 h
              refine lv_lconst (v := 1) hx hb dX8_fitted_60 (by decide) ?_
              refine lv_goto (tgt := 65) hx hb dX8_fitted_61 (by decide) ?_
              have h := Option.some.inj h
              subst h
              exact retL C hH dX8_fitted_65
          · replace h := tF hc4_4 h
            have ghc4_0 := lv_neT (k := 0) (a := 0) hc4_0 rfl
            have ghc4_1 := lv_neT (k := 1) (a := 1) hc4_1 rfl
            have ghc4_2 := lv_neT (k := 2) (a := 2) hc4_2 rfl
            have ghc4_3 := lv_neT (k := 3) (a := 3) hc4_3 rfl
            have ghc4_4 := lv_neT (k := 4) (a := 4) hc4_4 rfl
            refine lv_tableOut (tgt := 66) hx hb dX8_fitted_4 (by omega) (by decide) ?_
            exact wX8_fitted_66 C h hH (lv_sub hl [1] rfl)
set_option maxHeartbeats 2000000 in
set_option maxRecDepth 20000 in
theorem mX8_set (l : Launch) {D : va_G} {ca : Nat → ClassId} {A : Nat → Prop} {ad : Nat → Nat} {v0 : Nat} {v1 : Int32} {v2 : Int64} {mm : Mm} {q : Unit × Mm} (h : dX8_set v0 v1 v2 mm = some q) : Met l yX8_set (wsOf yX8_set cX8_set 4 none) (rmk 2) (PcX WN ad ca WS D A [.ref (ad v0), .int v1, .long v2] mm) (QcV WN ad ca WS D A q) 0 0 A := by
  unfold dX8_set at h
  refine ent (by decide) (Nat.le_of_ble_eq_true rfl) (fun p e s m args below meth c hargs C hH ls hl => ?_)
  have hx := C.1
  have hb := C.2.1
  have hl : lv_has ls 4 [(0, .ref (ad v0)), (1, .int v1), (2, .long v2)] := hl
  obtain ⟨ho0, h⟩ := tC h
  refine lv_aload_n hx hb dX8_set_0 rfl (lv_at hl 0 rfl) ?_
  refine lv_iload_n hx hb dX8_set_1 rfl (lv_at hl 1 rfl) ?_
  refine lv_iconst (v := 1) hx hb dX8_set_2 (by decide) ?_
  obtain ⟨q3, e3, h⟩ := tB h
  refine rcI C hH hl.1 (mX8_hasPlaces l e3) cf_RX8_34 (ro_sh ho0) (RR_of (by decide) (by decide)) rfl (rest := []) rfl (Nat.le_of_ble_eq_true rfl) dX8_set_3 ?_
  intro hz3 H locs hH
  refine lv_if_eq (tgt := 20) hx hb dX8_set_6 (by decide) (fun hc6 => ?_) (fun hc6 => ?_)
  · replace h := tT hc6 h
    have h := Option.some.inj h
    subst h
    exact retV C hH dX8_set_20
  · replace h := tF hc6 h
    refine lv_aload_n hx hb dX8_set_9 rfl (lv_at hl 0 rfl) ?_
    refine rgS C hH (fsSH_RX8_11 ho0) dX8_set_10 ?_
    refine lv_iload_n hx hb dX8_set_13 rfl (lv_at hl 1 rfl) ?_
    refine lv_aload_n hx hb dX8_set_14 rfl (lv_at hl 0 rfl) ?_
    refine lv_lload_n hx hb dX8_set_15 rfl (lv_at hl 2 rfl) ?_
    obtain ⟨q16, e16, h⟩ := tB h
    refine rcL C hH hl.1 (mX8_fitted l e16) cf_RX8_38 (ro_sh ho0) (RR_of (by decide) (by decide)) rfl (rest := [.int v1, .ref (ad (v0 + 6))]) rfl (Nat.le_of_ble_eq_true rfl) dX8_set_16 ?_
    intro H locs hH
    obtain ⟨hi19, h⟩ := tC h
    refine rwL C hH (k := (Int32.toNatClampNeg v1)) (shE ho0).2.2.1 (shE ho0).2.2.2 hi19 rfl dX8_set_19 (fun H locs hH => ?_)
    have h := Option.some.inj h
    subst h
    exact retV C hH dX8_set_20
set_option maxHeartbeats 2000000 in
set_option maxRecDepth 20000 in
theorem mX9_put (l : Launch) {D : va_G} {ca : Nat → ClassId} {A : Nat → Prop} {ad : Nat → Nat} {v1 : Int32} {v2 : Int32} {v3 : Int64} {mm : Mm} {q : Int32 × Mm} (h : dX9_put v1 v2 v3 mm = some q) : Met l yX9_put (wsOf yX9_put cX9_put 6 (some .int)) (rmk 3) (PcX WN ad ca WS D A [.ref (ad 0), .int v1, .int v2, .long v3] mm) (QcI WN ad ca WS D A pzT q) 0 0 A := by
  unfold dX9_put at h
  refine ent (by decide) (Nat.le_of_ble_eq_true rfl) (fun p e s m args below meth c hargs C hH ls hl => ?_)
  have hx := C.1
  have hb := C.2.1
  have hl : lv_has ls 6 [(0, .ref (ad 0)), (1, .int v1), (2, .int v2), (3, .long v3)] := hl
  refine lv_aload_n hx hb dX9_put_0 rfl (lv_at hl 0 rfl) ?_
  refine lv_iload_n hx hb dX9_put_1 rfl (lv_at hl 1 rfl) ?_
  refine lv_iload_n hx hb dX9_put_2 rfl (lv_at hl 2 rfl) ?_
  obtain ⟨q3, e3, h⟩ := tB h
  refine rcI C hH hl.1 (mX9_placeRefusal l e3) cf_RX9_301 ro_0 (RR_of (by decide) (by decide)) rfl (rest := []) rfl (Nat.le_of_ble_eq_true rfl) dX9_put_3 ?_
  intro hz3 H locs hH
  refine lv_istore (lv' := [(5, .int q3.1), (0, .ref (ad 0)), (1, .int v1), (2, .int v2), (3, .long v3)]) hx hb dX9_put_6 hl (by decide) rfl (fun ls hl => ?_)
  refine lv_iload hx hb dX9_put_8 (lv_at hl 0 rfl) ?_
  refine lv_if_eq (tgt := 16) hx hb dX9_put_10 (by decide) (fun hc10 => ?_) (fun hc10 => ?_)
  · replace h := tT hc10 h
    refine lv_aload_n hx hb dX9_put_16 rfl (lv_at hl 1 rfl) ?_
    refine rgS C hH fs_RX9_62_0 dX9_put_17 ?_
    refine lv_iload_n hx hb dX9_put_20 rfl (lv_at hl 2 rfl) ?_
    obtain ⟨hi21, h⟩ := tC h
    refine raS C hH (o := 37) (k := (Int32.toNatClampNeg v1)) (by decide) (show WS 37 = .inr (4, 6, 38) from rfl) hi21 rfl dX9_put_21 ?_
    refine lv_iload_n hx hb dX9_put_22 rfl (lv_at hl 3 rfl) ?_
    refine lv_lload_n hx hb dX9_put_23 rfl (lv_at hl 4 rfl) ?_
    obtain ⟨q24, e24, h⟩ := tB h
    refine rcV C hH hl.1 (mX8_set l e24) cf_RX9_304 (ro_sh (sh_of hi21)) (RR_of (by decide) (by decide)) rfl (rest := []) rfl (Nat.le_of_ble_eq_true rfl) dX9_put_24 ?_
    intro H locs hH
    refine lv_iconst (v := 1) hx hb dX9_put_27 (by decide) ?_
    have h := Option.some.inj h
    subst h
    exact retI C hH trivial dX9_put_28
  · replace h := tF hc10 h
    refine lv_iload hx hb dX9_put_13 (lv_at hl 0 rfl) ?_
    have h := Option.some.inj h
    subst h
    exact retI C hH trivial dX9_put_15
set_option maxHeartbeats 2000000 in
set_option maxRecDepth 20000 in
theorem wX10_refusal_53 (C : Cx D ca A p s m args meth c cX10_refusal RX10 3 (some .int)) {q : Int32 × Mm} {mm : Mm} (h : DX10_refusal_53 mm = some q) (hH : Hx WN ad ca WS D A s.heap mm H locs) (hl : lv_has ls 3 []) : W p l e (rmk 3) s m args below meth c H locs 0 0 (MQ below (QcI WN ad ca WS D A pzT q) args s 0 0 A) (F0 m 53 ls []) := by
  unfold DX10_refusal_53 at h
  have hx := C.1
  have hb := C.2.1
  refine lv_bipush (v := (-13)) hx hb dX10_refusal_53 (by decide) ?_
  have h := Option.some.inj h
  subst h
  exact retI C hH trivial dX10_refusal_55
set_option maxHeartbeats 2000000 in
set_option maxRecDepth 20000 in
theorem mX10_refusal (l : Launch) {D : va_G} {ca : Nat → ClassId} {A : Nat → Prop} {ad : Nat → Nat} {v1 : Int32} {v2 : Int32} {mm : Mm} {q : Int32 × Mm} (h : dX10_refusal v1 v2 mm = some q) : Met l yX10_refusal (wsOf yX10_refusal cX10_refusal 3 (some .int)) (rmk 3) (PcX WN ad ca WS D A [.ref (ad 58), .int v1, .int v2] mm) (QcI WN ad ca WS D A pzT q) 0 0 A := by
  unfold dX10_refusal at h
  refine ent (by decide) (Nat.le_of_ble_eq_true rfl) (fun p e s m args below meth c hargs C hH ls hl => ?_)
  have hx := C.1
  have hb := C.2.1
  have hl : lv_has ls 3 [(0, .ref (ad 58)), (1, .int v1), (2, .int v2)] := hl
  refine lv_iload_n hx hb dX10_refusal_0 rfl (lv_at hl 1 rfl) ?_
  obtain ⟨q1, e1, h⟩ := tB h
  refine rsI C hH hl.1 (mX10_isShelf l e1) cs_RX10_114 (RR_of (by decide) (by decide)) rfl (rest := []) rfl (Nat.le_of_ble_eq_true rfl) dX10_refusal_1 ?_
  intro hz1 H locs hH
  refine lv_if_ne (tgt := 9) hx hb dX10_refusal_4 (by decide) (fun hc4 => ?_) (fun hc4 => ?_)
  · replace h := tF hc4 h
    refine lv_aload_n hx hb dX10_refusal_9 rfl (lv_at hl 0 rfl) ?_
    refine rgS C hH fs_RX10_72_58 dX10_refusal_10 ?_
    refine lv_iload_n hx hb dX10_refusal_13 rfl (lv_at hl 1 rfl) ?_
    obtain ⟨hi14, h⟩ := tC h
    refine raI C hH (k := (Int32.toNatClampNeg v1)) (by decide) (show WS 79 = .inr (0, 6, 0) from rfl) hi14 rfl dX10_refusal_14 ?_
    refine lv_if_ge (tgt := 21) hx hb dX10_refusal_15 (by decide) (fun hc15 => ?_) (fun hc15 => ?_)
    · replace h := tT hc15 h
      refine lv_aload_n hx hb dX10_refusal_21 rfl (lv_at hl 0 rfl) ?_
      refine rgS C hH fs_RX10_72_58 dX10_refusal_22 ?_
      refine lv_iload_n hx hb dX10_refusal_25 rfl (lv_at hl 1 rfl) ?_
      obtain ⟨hi26, h⟩ := tC h
      refine raI C hH (k := (Int32.toNatClampNeg v1)) (by decide) (show WS 79 = .inr (0, 6, 0) from rfl) hi26 rfl dX10_refusal_26 ?_
      refine lv_bipush (v := 50) hx hb dX10_refusal_27 (by decide) ?_
      refine lv_icmp_ge (tgt := 35) hx hb dX10_refusal_29 (by decide) (fun hc29 => ?_) (fun hc29 => ?_)
      · replace h := tT hc29 h
        refine lv_iload_n hx hb dX10_refusal_35 rfl (lv_at hl 2 rfl) ?_
        refine lv_if_lt (tgt := 53) hx hb dX10_refusal_36 (by decide) (fun hc36 => ?_) (fun hc36 => ?_)
        · replace h := tT hc36 h
          exact wX10_refusal_53 C h hH (lv_sub hl [] rfl)
        · replace h := tF hc36 h
          refine lv_iload_n hx hb dX10_refusal_39 rfl (lv_at hl 2 rfl) ?_
          refine lv_aload_n hx hb dX10_refusal_40 rfl (lv_at hl 0 rfl) ?_
          refine rgS C hH fs_RX10_75_58 dX10_refusal_41 ?_
          refine lv_iload_n hx hb dX10_refusal_44 rfl (lv_at hl 1 rfl) ?_
          obtain ⟨hi45, h⟩ := tC h
          refine raI C hH (k := (Int32.toNatClampNeg v1)) (by decide) (show WS 80 = .inr (0, 6, 0) from rfl) hi45 rfl dX10_refusal_45 ?_
          refine lv_icmp_ge (tgt := 53) hx hb dX10_refusal_46 (by decide) (fun hc46 => ?_) (fun hc46 => ?_)
          · replace h := tT hc46 h
            exact wX10_refusal_53 C h hH (lv_sub hl [] rfl)
          · replace h := tF hc46 h
            refine lv_iconst (v := 0) hx hb dX10_refusal_49 (by decide) ?_
            refine lv_goto (tgt := 55) hx hb dX10_refusal_50 (by decide) ?_
            have h := Option.some.inj h
            subst h
            exact retI C hH trivial dX10_refusal_55
      · replace h := tF hc29 h
        refine lv_bipush (v := (-12)) hx hb dX10_refusal_32 (by decide) ?_
        have h := Option.some.inj h
        subst h
        exact retI C hH trivial dX10_refusal_34
    · replace h := tF hc15 h
      refine lv_bipush (v := (-11)) hx hb dX10_refusal_18 (by decide) ?_
      have h := Option.some.inj h
      subst h
      exact retI C hH trivial dX10_refusal_20
  · replace h := tT hc4 h
    refine lv_iconst (v := (-1)) hx hb dX10_refusal_7 (by decide) ?_
    have h := Option.some.inj h
    subst h
    exact retI C hH trivial dX10_refusal_8
set_option maxHeartbeats 2000000 in
set_option maxRecDepth 20000 in
theorem mX10_asSort (l : Launch) {D : va_G} {ca : Nat → ClassId} {A : Nat → Prop} {ad : Nat → Nat} {v0 : Int32} {v1 : Int64} {mm : Mm} {q : Int64 × Mm} (h : dX10_asSort v0 v1 mm = some q) : Met l yX10_asSort (wsOf yX10_asSort cX10_asSort 3 (some .long)) (rmk 1) (PcX WN ad ca WS D A [.int v0, .long v1] mm) (QcL WN ad ca WS D A q) 0 0 A := by
  unfold dX10_asSort at h
  refine ent (by decide) (Nat.le_of_ble_eq_true rfl) (fun p e s m args below meth c hargs C hH ls hl => ?_)
  have hx := C.1
  have hb := C.2.1
  have hl : lv_has ls 3 [(0, .int v0), (1, .long v1)] := hl
  refine lv_iload_n hx hb dX10_asSort_0 rfl (lv_at hl 0 rfl) ?_
  refine lv_if_ne (tgt := 11) hx hb dX10_asSort_1 (by decide) (fun hc1 => ?_) (fun hc1 => ?_)
  · replace h := tF hc1 h
    refine lv_iload_n hx hb dX10_asSort_11 rfl (lv_at hl 0 rfl) ?_
    refine lv_iconst (v := 1) hx hb dX10_asSort_12 (by decide) ?_
    refine lv_icmp_ne (tgt := 23) hx hb dX10_asSort_13 (by decide) (fun hc13 => ?_) (fun hc13 => ?_)
    · replace h := tF hc13 h
      refine lv_iload_n hx hb dX10_asSort_23 rfl (lv_at hl 0 rfl) ?_
      refine lv_iconst (v := 2) hx hb dX10_asSort_24 (by decide) ?_
      refine lv_icmp_ne (tgt := 34) hx hb dX10_asSort_25 (by decide) (fun hc25 => ?_) (fun hc25 => ?_)
      · replace h := tF hc25 h
        refine lv_iload_n hx hb dX10_asSort_34 rfl (lv_at hl 0 rfl) ?_
        refine lv_iconst (v := 4) hx hb dX10_asSort_35 (by decide) ?_
        refine lv_icmp_ne (tgt := 53) hx hb dX10_asSort_36 (by decide) (fun hc36 => ?_) (fun hc36 => ?_)
        · replace h := tF hc36 h
          refine lv_lload_n hx hb dX10_asSort_53 rfl (lv_at hl 1 rfl) ?_
          have h := Option.some.inj h
          subst h
          exact retL C hH dX10_asSort_54
        · replace h := tT hc36 h
          refine lv_lload_n hx hb dX10_asSort_39 rfl (lv_at hl 1 rfl) ?_
          refine lv_lconst (v := 0) hx hb dX10_asSort_40 (by decide) ?_
          refine lc_eq (tgt := 49) hx hb dX10_asSort_41 dX10_asSort_42 (by decide) (fun hc42 => ?_) (fun hc42 => ?_)
          · replace h := tT hc42 h
            refine lv_lconst (v := 0) hx hb dX10_asSort_49 (by decide) ?_
            refine lv_goto (tgt := 54) hx hb dX10_asSort_50 (by decide) ?_
            have h := Option.some.inj h
            subst h
            exact retL C hH dX10_asSort_54
          · replace h := tF hc42 h
            refine lv_lconst (v := 1) hx hb dX10_asSort_45 (by decide) ?_
            refine lv_goto (tgt := 54) hx hb dX10_asSort_46 (by decide) ?_
            have h := Option.some.inj h
            subst h
            exact retL C hH dX10_asSort_54
      · replace h := tT hc25 h
        refine lv_lload_n hx hb dX10_asSort_28 rfl (lv_at hl 1 rfl) ?_
        refine lv_l2i' hx hb dX10_asSort_29 ?_
        refine lv_i2l' hx hb dX10_asSort_30 ?_
        refine lv_goto (tgt := 54) hx hb dX10_asSort_31 (by decide) ?_
        have h := Option.some.inj h
        subst h
        exact retL C hH dX10_asSort_54
    · replace h := tT hc13 h
      refine lv_lload_n hx hb dX10_asSort_16 rfl (lv_at hl 1 rfl) ?_
      refine lv_l2i' hx hb dX10_asSort_17 ?_
      refine lv_i2s' hx hb dX10_asSort_18 ?_
      refine lv_i2l' hx hb dX10_asSort_19 ?_
      refine lv_goto (tgt := 54) hx hb dX10_asSort_20 (by decide) ?_
      have h := Option.some.inj h
      subst h
      exact retL C hH dX10_asSort_54
  · replace h := tT hc1 h
    refine lv_lload_n hx hb dX10_asSort_4 rfl (lv_at hl 1 rfl) ?_
    refine lv_l2i' hx hb dX10_asSort_5 ?_
    refine lv_i2b' hx hb dX10_asSort_6 ?_
    refine lv_i2l' hx hb dX10_asSort_7 ?_
    refine lv_goto (tgt := 54) hx hb dX10_asSort_8 (by decide) ?_
    have h := Option.some.inj h
    subst h
    exact retL C hH dX10_asSort_54
set_option maxHeartbeats 2000000 in
set_option maxRecDepth 20000 in
theorem wX10_put_37 (C : Cx D ca A p s m args meth c cX10_put RX10 6 (some .int)) {q : Int32 × Mm} {v5 : Int32} {mm : Mm} (h : DX10_put_37 v5 mm = some q) (hH : Hx WN ad ca WS D A s.heap mm H locs) (hl : lv_has ls 6 [(5, .int v5)]) : W p l e (rmk 4) s m args below meth c H locs 0 0 (MQ below (QcI WN ad ca WS D A pzT q) args s 0 0 A) (F0 m 37 ls []) := by
  unfold DX10_put_37 at h
  have hx := C.1
  have hb := C.2.1
  refine lv_iload hx hb dX10_put_37 (lv_at hl 0 rfl) ?_
  refine lv_if_ne (tgt := 46) hx hb dX10_put_39 (by decide) (fun hc39 => ?_) (fun hc39 => ?_)
  · replace h := tF hc39 h
    refine lv_iload hx hb dX10_put_46 (lv_at hl 0 rfl) ?_
    have h := Option.some.inj h
    subst h
    exact retI C hH trivial dX10_put_48
  · replace h := tT hc39 h
    refine lv_iconst (v := 1) hx hb dX10_put_42 (by decide) ?_
    refine lv_goto (tgt := 48) hx hb dX10_put_43 (by decide) ?_
    have h := Option.some.inj h
    subst h
    exact retI C hH trivial dX10_put_48
set_option maxHeartbeats 2000000 in
set_option maxRecDepth 20000 in
theorem mX10_put (l : Launch) {D : va_G} {ca : Nat → ClassId} {A : Nat → Prop} {ad : Nat → Nat} {v1 : Int32} {v2 : Int32} {v3 : Int64} {mm : Mm} {q : Int32 × Mm} (h : dX10_put v1 v2 v3 mm = some q) : Met l yX10_put (wsOf yX10_put cX10_put 6 (some .int)) (rmk 4) (PcX WN ad ca WS D A [.ref (ad 58), .int v1, .int v2, .long v3] mm) (QcI WN ad ca WS D A pzT q) 0 0 A := by
  unfold dX10_put at h
  refine ent (by decide) (Nat.le_of_ble_eq_true rfl) (fun p e s m args below meth c hargs C hH ls hl => ?_)
  have hx := C.1
  have hb := C.2.1
  have hl : lv_has ls 6 [(0, .ref (ad 58)), (1, .int v1), (2, .int v2), (3, .long v3)] := hl
  refine lv_aload_n hx hb dX10_put_0 rfl (lv_at hl 0 rfl) ?_
  refine lv_iload_n hx hb dX10_put_1 rfl (lv_at hl 1 rfl) ?_
  refine lv_iload_n hx hb dX10_put_2 rfl (lv_at hl 2 rfl) ?_
  obtain ⟨q3, e3, h⟩ := tB h
  refine rcI C hH hl.1 (mX10_refusal l e3) cf_RX10_342 ro_58 (RR_of (by decide) (by decide)) rfl (rest := []) rfl (Nat.le_of_ble_eq_true rfl) dX10_put_3 ?_
  intro hz3 H locs hH
  refine lv_istore (lv' := [(5, .int q3.1), (0, .ref (ad 58)), (1, .int v1), (2, .int v2), (3, .long v3)]) hx hb dX10_put_6 hl (by decide) rfl (fun ls hl => ?_)
  refine lv_iload hx hb dX10_put_8 (lv_at hl 0 rfl) ?_
  refine lv_if_ne (tgt := 37) hx hb dX10_put_10 (by decide) (fun hc10 => ?_) (fun hc10 => ?_)
  · replace h := tF hc10 h
    exact wX10_put_37 C h hH (lv_sub hl [0] rfl)
  · replace h := tT hc10 h
    refine lv_aload_n hx hb dX10_put_13 rfl (lv_at hl 1 rfl) ?_
    refine rgS C hH fs_RX10_78_58 dX10_put_14 ?_
    refine lv_bipush (v := 60) hx hb dX10_put_17 (by decide) ?_
    refine lv_iload_n hx hb dX10_put_19 rfl (lv_at hl 2 rfl) ?_
    refine lv_imul hx hb dX10_put_20 ?_
    refine lv_iload_n hx hb dX10_put_21 rfl (lv_at hl 3 rfl) ?_
    refine lv_iadd hx hb dX10_put_22 ?_
    refine lv_aload_n hx hb dX10_put_23 rfl (lv_at hl 1 rfl) ?_
    refine rgS C hH fs_RX10_72_58 dX10_put_24 ?_
    refine lv_iload_n hx hb dX10_put_27 rfl (lv_at hl 2 rfl) ?_
    obtain ⟨hi28, h⟩ := tC h
    refine raI C hH (k := (Int32.toNatClampNeg v1)) (by decide) (show WS 79 = .inr (0, 6, 0) from rfl) hi28 rfl dX10_put_28 ?_
    refine lv_bipush (v := 50) hx hb dX10_put_29 (by decide) ?_
    refine lv_isub hx hb dX10_put_31 ?_
    refine lv_lload_n hx hb dX10_put_32 rfl (lv_at hl 4 rfl) ?_
    obtain ⟨q33, e33, h⟩ := tB h
    refine rsL C hH hl.1 (mX10_asSort l e33) cs_RX10_345 (RR_of (by decide) (by decide)) rfl (rest := [.int ((60 * v1) + v2), .ref (ad 81)]) rfl (Nat.le_of_ble_eq_true rfl) dX10_put_33 ?_
    intro H locs hH
    obtain ⟨hi36, h⟩ := tC h
    refine rwL C hH (k := (Int32.toNatClampNeg ((60 * v1) + v2))) (by decide) (show WS 81 = .inr (3, 360, 0) from rfl) hi36 rfl dX10_put_36 (fun H locs hH => ?_)
    exact wX10_put_37 C h hH (lv_sub hl [0] rfl)
set_option maxHeartbeats 2000000 in
set_option maxRecDepth 20000 in
theorem mX9_element (l : Launch) {D : va_G} {ca : Nat → ClassId} {A : Nat → Prop} {ad : Nat → Nat} {v1 : Int32} {v2 : Int32} {mm : Mm} {q : Int64 × Mm} (h : dX9_element v1 v2 mm = some q) : Met l yX9_element (wsOf yX9_element cX9_element 3 (some .long)) (rmk 3) (PcX WN ad ca WS D A [.ref (ad 0), .int v1, .int v2] mm) (QcL WN ad ca WS D A q) 0 0 A := by
  unfold dX9_element at h
  refine ent (by decide) (Nat.le_of_ble_eq_true rfl) (fun p e s m args below meth c hargs C hH ls hl => ?_)
  have hx := C.1
  have hb := C.2.1
  have hl : lv_has ls 3 [(0, .ref (ad 0)), (1, .int v1), (2, .int v2)] := hl
  refine lv_aload_n hx hb dX9_element_0 rfl (lv_at hl 0 rfl) ?_
  refine lv_iload_n hx hb dX9_element_1 rfl (lv_at hl 1 rfl) ?_
  refine lv_iload_n hx hb dX9_element_2 rfl (lv_at hl 2 rfl) ?_
  obtain ⟨q3, e3, h⟩ := tB h
  refine rcI C hH hl.1 (mX9_placeRefusal l e3) cf_RX9_301 ro_0 (RR_of (by decide) (by decide)) rfl (rest := []) rfl (Nat.le_of_ble_eq_true rfl) dX9_element_3 ?_
  intro hz3 H locs hH
  refine lv_if_eq (tgt := 15) hx hb dX9_element_6 (by decide) (fun hc6 => ?_) (fun hc6 => ?_)
  · replace h := tT hc6 h
    refine lv_aload_n hx hb dX9_element_15 rfl (lv_at hl 0 rfl) ?_
    refine rgS C hH fs_RX9_62_0 dX9_element_16 ?_
    refine lv_iload_n hx hb dX9_element_19 rfl (lv_at hl 1 rfl) ?_
    obtain ⟨hi20, h⟩ := tC h
    refine raS C hH (o := 37) (k := (Int32.toNatClampNeg v1)) (by decide) (show WS 37 = .inr (4, 6, 38) from rfl) hi20 rfl dX9_element_20 ?_
    refine rgS C hH (fsSH_RX9_307 (sh_of hi20)) dX9_element_21 ?_
    refine lv_iload_n hx hb dX9_element_24 rfl (lv_at hl 2 rfl) ?_
    obtain ⟨hi25, h⟩ := tC h
    refine raL C hH (k := (Int32.toNatClampNeg v2)) (shE (sh_of hi20)).2.2.1 (shE (sh_of hi20)).2.2.2 hi25 rfl dX9_element_25 ?_
    have h := Option.some.inj h
    subst h
    exact retL C hH dX9_element_26
  · replace h := tF hc6 h
    refine rldc2 C (v := (-9223372036854775808)) k_RX9_138 dX9_element_9 ?_
    refine lv_goto (tgt := 26) hx hb dX9_element_12 (by decide) ?_
    have h := Option.some.inj h
    subst h
    exact retL C hH dX9_element_26
set_option maxHeartbeats 2000000 in
set_option maxRecDepth 20000 in
theorem mX10_element (l : Launch) {D : va_G} {ca : Nat → ClassId} {A : Nat → Prop} {ad : Nat → Nat} {v1 : Int32} {v2 : Int32} {mm : Mm} {q : Int64 × Mm} (h : dX10_element v1 v2 mm = some q) : Met l yX10_element (wsOf yX10_element cX10_element 3 (some .long)) (rmk 4) (PcX WN ad ca WS D A [.ref (ad 58), .int v1, .int v2] mm) (QcL WN ad ca WS D A q) 0 0 A := by
  unfold dX10_element at h
  refine ent (by decide) (Nat.le_of_ble_eq_true rfl) (fun p e s m args below meth c hargs C hH ls hl => ?_)
  have hx := C.1
  have hb := C.2.1
  have hl : lv_has ls 3 [(0, .ref (ad 58)), (1, .int v1), (2, .int v2)] := hl
  refine lv_aload_n hx hb dX10_element_0 rfl (lv_at hl 0 rfl) ?_
  refine lv_iload_n hx hb dX10_element_1 rfl (lv_at hl 1 rfl) ?_
  refine lv_iload_n hx hb dX10_element_2 rfl (lv_at hl 2 rfl) ?_
  obtain ⟨q3, e3, h⟩ := tB h
  refine rcI C hH hl.1 (mX10_refusal l e3) cf_RX10_342 ro_58 (RR_of (by decide) (by decide)) rfl (rest := []) rfl (Nat.le_of_ble_eq_true rfl) dX10_element_3 ?_
  intro hz3 H locs hH
  refine lv_if_eq (tgt := 15) hx hb dX10_element_6 (by decide) (fun hc6 => ?_) (fun hc6 => ?_)
  · replace h := tT hc6 h
    refine lv_aload_n hx hb dX10_element_15 rfl (lv_at hl 0 rfl) ?_
    refine rgS C hH fs_RX10_78_58 dX10_element_16 ?_
    refine lv_bipush (v := 60) hx hb dX10_element_19 (by decide) ?_
    refine lv_iload_n hx hb dX10_element_21 rfl (lv_at hl 1 rfl) ?_
    refine lv_imul hx hb dX10_element_22 ?_
    refine lv_iload_n hx hb dX10_element_23 rfl (lv_at hl 2 rfl) ?_
    refine lv_iadd hx hb dX10_element_24 ?_
    obtain ⟨hi25, h⟩ := tC h
    refine raL C hH (k := (Int32.toNatClampNeg ((60 * v1) + v2))) (by decide) (show WS 81 = .inr (3, 360, 0) from rfl) hi25 rfl dX10_element_25 ?_
    have h := Option.some.inj h
    subst h
    exact retL C hH dX10_element_26
  · replace h := tF hc6 h
    refine rldc2 C (v := (-9223372036854775808)) k_RX10_225 dX10_element_9 ?_
    refine lv_goto (tgt := 26) hx hb dX10_element_12 (by decide) ?_
    have h := Option.some.inj h
    subst h
    exact retL C hH dX10_element_26
set_option maxHeartbeats 2000000 in
set_option maxRecDepth 20000 in
theorem wX9_shift_14 (C : Cx D ca A p s m args meth c cX9_shift RX9 8 (some .int)) {q : Int32 × Mm} {mm : Mm} (h : DX9_shift_14 mm = some q) (hH : Hx WN ad ca WS D A s.heap mm H locs) (hl : lv_has ls 8 []) : W p l e (rmk 2) s m args below meth c H locs 0 0 (MQ below (QcI WN ad ca WS D A pzT q) args s 0 0 A) (F0 m 14 ls []) := by
  unfold DX9_shift_14 at h
  have hx := C.1
  have hb := C.2.1
  refine lv_iconst (v := (-1)) hx hb dX9_shift_14 (by decide) ?_
  have h := Option.some.inj h
  subst h
  exact retI C hH trivial dX9_shift_15
set_option maxHeartbeats 2000000 in
set_option maxRecDepth 20000 in
theorem wX9_shift_48 (C : Cx D ca A p s m args meth c cX9_shift RX9 8 (some .int)) {q : Int32 × Mm} {mm : Mm} (h : DX9_shift_48 mm = some q) (hH : Hx WN ad ca WS D A s.heap mm H locs) (hl : lv_has ls 8 []) : W p l e (rmk 2) s m args below meth c H locs 0 0 (MQ below (QcI WN ad ca WS D A pzT q) args s 0 0 A) (F0 m 48 ls []) := by
  unfold DX9_shift_48 at h
  have hx := C.1
  have hb := C.2.1
  refine lv_bipush (v := (-11)) hx hb dX9_shift_48 (by decide) ?_
  have h := Option.some.inj h
  subst h
  exact retI C hH trivial dX9_shift_50
set_option maxHeartbeats 2000000 in
set_option maxRecDepth 20000 in
theorem wX9_shift_82 (C : Cx D ca A p s m args meth c cX9_shift RX9 8 (some .int)) {q : Int32 × Mm} {mm : Mm} (h : DX9_shift_82 mm = some q) (hH : Hx WN ad ca WS D A s.heap mm H locs) (hl : lv_has ls 8 []) : W p l e (rmk 2) s m args below meth c H locs 0 0 (MQ below (QcI WN ad ca WS D A pzT q) args s 0 0 A) (F0 m 82 ls []) := by
  unfold DX9_shift_82 at h
  have hx := C.1
  have hb := C.2.1
  refine lv_bipush (v := (-12)) hx hb dX9_shift_82 (by decide) ?_
  have h := Option.some.inj h
  subst h
  exact retI C hH trivial dX9_shift_84
set_option maxHeartbeats 2000000 in
set_option maxRecDepth 20000 in
theorem wX9_shift_108 (C : Cx D ca A p s m args meth c cX9_shift RX9 8 (some .int)) {q : Int32 × Mm} {mm : Mm} (h : DX9_shift_108 mm = some q) (hH : Hx WN ad ca WS D A s.heap mm H locs) (hl : lv_has ls 8 []) : W p l e (rmk 2) s m args below meth c H locs 0 0 (MQ below (QcI WN ad ca WS D A pzT q) args s 0 0 A) (F0 m 108 ls []) := by
  unfold DX9_shift_108 at h
  have hx := C.1
  have hb := C.2.1
  refine lv_bipush (v := (-13)) hx hb dX9_shift_108 (by decide) ?_
  have h := Option.some.inj h
  subst h
  exact retI C hH trivial dX9_shift_110
set_option maxHeartbeats 2000000 in
set_option maxRecDepth 20000 in
theorem mX9_shift (l : Launch) {D : va_G} {ca : Nat → ClassId} {A : Nat → Prop} {ad : Nat → Nat} {v1 : Int32} {v2 : Int32} {v3 : Int32} {v4 : Int32} {v5 : Int32} {mm : Mm} {q : Int32 × Mm} (h : dX9_shift v1 v2 v3 v4 v5 mm = some q) : Met l yX9_shift (wsOf yX9_shift cX9_shift 8 (some .int)) (rmk 2) (PcX WN ad ca WS D A [.ref (ad 0), .int v1, .int v2, .int v3, .int v4, .int v5] mm) (QcI WN ad ca WS D A pzT q) 0 0 A := by
  unfold dX9_shift at h
  refine ent (by decide) (Nat.le_of_ble_eq_true rfl) (fun p e s m args below meth c hargs C hH ls hl => ?_)
  have hx := C.1
  have hb := C.2.1
  have hl : lv_has ls 8 [(0, .ref (ad 0)), (1, .int v1), (2, .int v2), (3, .int v3), (4, .int v4), (5, .int v5)] := hl
  refine lv_iload_n hx hb dX9_shift_0 rfl (lv_at hl 1 rfl) ?_
  obtain ⟨q1, e1, h⟩ := tB h
  refine rsI C hH hl.1 (mX9_isShelf l e1) cs_RX9_75 (RR_of (by decide) (by decide)) rfl (rest := []) rfl (Nat.le_of_ble_eq_true rfl) dX9_shift_1 ?_
  intro hz1 H locs hH
  refine lv_if_eq (tgt := 14) hx hb dX9_shift_4 (by decide) (fun hc4 => ?_) (fun hc4 => ?_)
  · replace h := tT hc4 h
    exact wX9_shift_14 C h hH (lv_sub hl [] rfl)
  · replace h := tF hc4 h
    refine lv_iload_n hx hb dX9_shift_7 rfl (lv_at hl 3 rfl) ?_
    obtain ⟨q8, e8, h⟩ := tB h
    refine rsI C hH hl.1 (mX9_isShelf l e8) cs_RX9_75 (RR_of (by decide) (by decide)) rfl (rest := []) rfl (Nat.le_of_ble_eq_true rfl) dX9_shift_8 ?_
    intro hz8 H locs hH
    refine lv_if_ne (tgt := 16) hx hb dX9_shift_11 (by decide) (fun hc11 => ?_) (fun hc11 => ?_)
    · replace h := tF hc11 h
      refine lv_aload_n hx hb dX9_shift_16 rfl (lv_at hl 0 rfl) ?_
      refine rgS C hH fs_RX9_62_0 dX9_shift_17 ?_
      refine lv_iload_n hx hb dX9_shift_20 rfl (lv_at hl 1 rfl) ?_
      obtain ⟨hi21, h⟩ := tC h
      refine raS C hH (o := 37) (k := (Int32.toNatClampNeg v1)) (by decide) (show WS 37 = .inr (4, 6, 38) from rfl) hi21 rfl dX9_shift_21 ?_
      refine lv_astore (lv' := [(6, .ref (ad (38 + (Int32.toNatClampNeg v1)))), (0, .ref (ad 0)), (1, .int v1), (2, .int v2), (3, .int v3), (4, .int v4), (5, .int v5)]) hx hb dX9_shift_22 hl (by decide) rfl (fun ls hl => ?_)
      refine lv_aload_n hx hb dX9_shift_24 rfl (lv_at hl 1 rfl) ?_
      refine rgS C hH fs_RX9_62_0 dX9_shift_25 ?_
      refine lv_iload_n hx hb dX9_shift_28 rfl (lv_at hl 4 rfl) ?_
      obtain ⟨hi29, h⟩ := tC h
      refine raS C hH (o := 37) (k := (Int32.toNatClampNeg v3)) (by decide) (show WS 37 = .inr (4, 6, 38) from rfl) hi29 rfl dX9_shift_29 ?_
      refine lv_astore (lv' := [(7, .ref (ad (38 + (Int32.toNatClampNeg v3)))), (6, .ref (ad (38 + (Int32.toNatClampNeg v1)))), (0, .ref (ad 0)), (1, .int v1), (2, .int v2), (3, .int v3), (4, .int v4), (5, .int v5)]) hx hb dX9_shift_30 hl (by decide) rfl (fun ls hl => ?_)
      refine lv_aload hx hb dX9_shift_32 (lv_at hl 1 rfl) ?_
      refine rgI C hH (fiSH_RX9_311 (sh_of hi21)) dX9_shift_34 ?_
      refine lv_if_eq (tgt := 48) hx hb dX9_shift_37 (by decide) (fun hc37 => ?_) (fun hc37 => ?_)
      · replace h := tT hc37 h
        exact wX9_shift_48 C h hH (lv_sub hl [] rfl)
      · replace h := tF hc37 h
        refine lv_aload hx hb dX9_shift_40 (lv_at hl 0 rfl) ?_
        refine rgI C hH (fiSH_RX9_311 (sh_of hi29)) dX9_shift_42 ?_
        refine lv_if_ne (tgt := 51) hx hb dX9_shift_45 (by decide) (fun hc45 => ?_) (fun hc45 => ?_)
        · replace h := tF hc45 h
          refine lv_aload hx hb dX9_shift_51 (lv_at hl 1 rfl) ?_
          refine rgI C hH (fiSH_RX9_311 (sh_of hi21)) dX9_shift_53 ?_
          refine lv_iconst (v := 2) hx hb dX9_shift_56 (by decide) ?_
          refine lv_icmp_ne (tgt := 82) hx hb dX9_shift_57 (by decide) (fun hc57 => ?_) (fun hc57 => ?_)
          · replace h := tF hc57 h
            exact wX9_shift_82 C h hH (lv_sub hl [] rfl)
          · replace h := tT hc57 h
            refine lv_aload hx hb dX9_shift_60 (lv_at hl 0 rfl) ?_
            refine rgI C hH (fiSH_RX9_311 (sh_of hi29)) dX9_shift_62 ?_
            refine lv_iconst (v := 2) hx hb dX9_shift_65 (by decide) ?_
            refine lv_icmp_ne (tgt := 82) hx hb dX9_shift_66 (by decide) (fun hc66 => ?_) (fun hc66 => ?_)
            · replace h := tF hc66 h
              exact wX9_shift_82 C h hH (lv_sub hl [] rfl)
            · replace h := tT hc66 h
              refine lv_aload hx hb dX9_shift_69 (lv_at hl 1 rfl) ?_
              refine rgI C hH (fiSH_RX9_313 (sh_of hi21)) dX9_shift_71 ?_
              refine lv_aload hx hb dX9_shift_74 (lv_at hl 0 rfl) ?_
              refine rgI C hH (fiSH_RX9_313 (sh_of hi29)) dX9_shift_76 ?_
              refine lv_icmp_eq (tgt := 85) hx hb dX9_shift_79 (by decide) (fun hc79 => ?_) (fun hc79 => ?_)
              · replace h := tT hc79 h
                refine lv_aload hx hb dX9_shift_85 (lv_at hl 1 rfl) ?_
                refine lv_iload_n hx hb dX9_shift_87 rfl (lv_at hl 4 rfl) ?_
                refine lv_iload hx hb dX9_shift_88 (lv_at hl 7 rfl) ?_
                obtain ⟨q90, e90, h⟩ := tB h
                refine rcI C hH hl.1 (mX8_hasPlaces l e90) cf_RX9_316 (ro_sh (sh_of hi21)) (RR_of (by decide) (by decide)) rfl (rest := []) rfl (Nat.le_of_ble_eq_true rfl) dX9_shift_90 ?_
                intro hz90 H locs hH
                refine lv_if_eq (tgt := 108) hx hb dX9_shift_93 (by decide) (fun hc93 => ?_) (fun hc93 => ?_)
                · replace h := tT hc93 h
                  exact wX9_shift_108 C h hH (lv_sub hl [] rfl)
                · replace h := tF hc93 h
                  refine lv_aload hx hb dX9_shift_96 (lv_at hl 0 rfl) ?_
                  refine lv_iload hx hb dX9_shift_98 (lv_at hl 6 rfl) ?_
                  refine lv_iload hx hb dX9_shift_100 (lv_at hl 7 rfl) ?_
                  obtain ⟨q102, e102, h⟩ := tB h
                  refine rcI C hH hl.1 (mX8_hasPlaces l e102) cf_RX9_316 (ro_sh (sh_of hi29)) (RR_of (by decide) (by decide)) rfl (rest := []) rfl (Nat.le_of_ble_eq_true rfl) dX9_shift_102 ?_
                  intro hz102 H locs hH
                  refine lv_if_ne (tgt := 111) hx hb dX9_shift_105 (by decide) (fun hc105 => ?_) (fun hc105 => ?_)
                  · replace h := tF hc105 h
                    refine lv_aload hx hb dX9_shift_111 (lv_at hl 1 rfl) ?_
                    refine rgS C hH (fsSH_RX9_307 (sh_of hi21)) dX9_shift_113 ?_
                    refine lv_iload_n hx hb dX9_shift_116 rfl (lv_at hl 4 rfl) ?_
                    refine lv_aload hx hb dX9_shift_117 (lv_at hl 0 rfl) ?_
                    refine rgS C hH (fsSH_RX9_307 (sh_of hi29)) dX9_shift_119 ?_
                    refine lv_iload hx hb dX9_shift_122 (lv_at hl 6 rfl) ?_
                    refine lv_iload hx hb dX9_shift_124 (lv_at hl 7 rfl) ?_
                    obtain ⟨ok126, h⟩ := tC h
                    refine rcpL C hH hl.1 cc_RX9_319 (shE (sh_of hi21)).2.2.1 (shE (sh_of hi21)).2.2.2 (shE (sh_of hi29)).2.2.1 (shE (sh_of hi29)).2.2.2 ok126 (RR_of (by decide) (by decide)) (by first | decide | (simp only [rmk]; omega)) dX9_shift_126 (fun H locs hH => ?_)
                    refine lv_iload hx hb dX9_shift_129 (lv_at hl 7 rfl) ?_
                    have h := Option.some.inj h
                    subst h
                    exact retI C hH trivial dX9_shift_131
                  · replace h := tT hc105 h
                    exact wX9_shift_108 C h hH (lv_sub hl [] rfl)
              · replace h := tF hc79 h
                exact wX9_shift_82 C h hH (lv_sub hl [] rfl)
        · replace h := tT hc45 h
          exact wX9_shift_48 C h hH (lv_sub hl [] rfl)
    · replace h := tT hc11 h
      exact wX9_shift_14 C h hH (lv_sub hl [] rfl)
set_option maxHeartbeats 2000000 in
set_option maxRecDepth 20000 in
theorem wX10_shift_14 (C : Cx D ca A p s m args meth c cX10_shift RX10 7 (some .int)) {q : Int32 × Mm} {mm : Mm} (h : DX10_shift_14 mm = some q) (hH : Hx WN ad ca WS D A s.heap mm H locs) (hl : lv_has ls 7 []) : W p l e (rmk 3) s m args below meth c H locs 0 0 (MQ below (QcI WN ad ca WS D A pzT q) args s 0 0 A) (F0 m 14 ls []) := by
  unfold DX10_shift_14 at h
  have hx := C.1
  have hb := C.2.1
  refine lv_iconst (v := (-1)) hx hb dX10_shift_14 (by decide) ?_
  have h := Option.some.inj h
  subst h
  exact retI C hH trivial dX10_shift_15
set_option maxHeartbeats 2000000 in
set_option maxRecDepth 20000 in
theorem wX10_shift_34 (C : Cx D ca A p s m args meth c cX10_shift RX10 7 (some .int)) {q : Int32 × Mm} {mm : Mm} (h : DX10_shift_34 mm = some q) (hH : Hx WN ad ca WS D A s.heap mm H locs) (hl : lv_has ls 7 []) : W p l e (rmk 3) s m args below meth c H locs 0 0 (MQ below (QcI WN ad ca WS D A pzT q) args s 0 0 A) (F0 m 34 ls []) := by
  unfold DX10_shift_34 at h
  have hx := C.1
  have hb := C.2.1
  refine lv_bipush (v := (-11)) hx hb dX10_shift_34 (by decide) ?_
  have h := Option.some.inj h
  subst h
  exact retI C hH trivial dX10_shift_36
set_option maxHeartbeats 2000000 in
set_option maxRecDepth 20000 in
theorem wX10_shift_63 (C : Cx D ca A p s m args meth c cX10_shift RX10 7 (some .int)) {q : Int32 × Mm} {mm : Mm} (h : DX10_shift_63 mm = some q) (hH : Hx WN ad ca WS D A s.heap mm H locs) (hl : lv_has ls 7 []) : W p l e (rmk 3) s m args below meth c H locs 0 0 (MQ below (QcI WN ad ca WS D A pzT q) args s 0 0 A) (F0 m 63 ls []) := by
  unfold DX10_shift_63 at h
  have hx := C.1
  have hb := C.2.1
  refine lv_bipush (v := (-12)) hx hb dX10_shift_63 (by decide) ?_
  have h := Option.some.inj h
  subst h
  exact retI C hH trivial dX10_shift_65
set_option maxHeartbeats 2000000 in
set_option maxRecDepth 20000 in
theorem wX10_shift_107 (C : Cx D ca A p s m args meth c cX10_shift RX10 7 (some .int)) {q : Int32 × Mm} {mm : Mm} (h : DX10_shift_107 mm = some q) (hH : Hx WN ad ca WS D A s.heap mm H locs) (hl : lv_has ls 7 []) : W p l e (rmk 3) s m args below meth c H locs 0 0 (MQ below (QcI WN ad ca WS D A pzT q) args s 0 0 A) (F0 m 107 ls []) := by
  unfold DX10_shift_107 at h
  have hx := C.1
  have hb := C.2.1
  refine lv_bipush (v := (-13)) hx hb dX10_shift_107 (by decide) ?_
  have h := Option.some.inj h
  subst h
  exact retI C hH trivial dX10_shift_109
set_option maxHeartbeats 2000000 in
set_option maxRecDepth 20000 in
theorem wbX10_shift_150 (C : Cx D ca A p s m args meth c cX10_shift RX10 7 (some .int)) {q : Int32 × Mm} {k150 : Int32 → Int32 → Int32 → Int32 → Mm → Option (Int32 × Mm)} (hk150 : ∀ (v3 : Int32) (v4 : Int32) (v5 : Int32) (v6 : Int32) (mm : Mm), k150 v3 v4 v5 v6 mm = some q → ∀ (H : Heap) (locs : List Loc) (ls : Array Slot), Hx WN ad ca WS D A s.heap mm H locs → lv_has ls 7 [(0, .ref (ad 58)), (3, .int v3), (4, .int v4), (5, .int v5), (6, .int v6)] → W p l e (rmk 3) s m args below meth c H locs 0 0 (MQ below (QcI WN ad ca WS D A pzT q) args s 0 0 A) (F0 m 150 ls [])) {v3 : Int32} {v4 : Int32} {v5 : Int32} {v6 : Int32} {mm : Mm} (h : BX10_shift_150 k150 v3 v4 v5 v6 mm = some q) (hH : Hx WN ad ca WS D A s.heap mm H locs) (hl : lv_has ls 7 [(0, .ref (ad 58)), (3, .int v3), (4, .int v4), (5, .int v5), (6, .int v6)]) : W p l e (rmk 3) s m args below meth c H locs 0 0 (MQ below (QcI WN ad ca WS D A pzT q) args s 0 0 A) (F0 m 150 ls []) := by
  unfold BX10_shift_150 at h
  have hx := C.1
  have hb := C.2.1
  refine lv_iload hx hb dX10_shift_150 (lv_at hl 4 rfl) ?_
  refine lv_iload hx hb dX10_shift_152 (lv_at hl 3 rfl) ?_
  refine lv_icmp_ge (tgt := 185) hx hb dX10_shift_154 (by decide) (fun hc154 => ?_) (fun hc154 => ?_)
  · replace h := tT hc154 h
    refine lv_iload hx hb dX10_shift_185 (lv_at hl 3 rfl) ?_
    have h := Option.some.inj h
    subst h
    exact retI C hH trivial dX10_shift_187
  · replace h := tF hc154 h
    refine lv_aload_n hx hb dX10_shift_157 rfl (lv_at hl 0 rfl) ?_
    refine rgS C hH fs_RX10_78_58 dX10_shift_158 ?_
    refine lv_bipush (v := 60) hx hb dX10_shift_161 (by decide) ?_
    refine lv_iload_n hx hb dX10_shift_163 rfl (lv_at hl 1 rfl) ?_
    refine lv_imul hx hb dX10_shift_164 ?_
    refine lv_iload hx hb dX10_shift_165 (lv_at hl 2 rfl) ?_
    refine lv_iadd hx hb dX10_shift_167 ?_
    refine lv_iload hx hb dX10_shift_168 (lv_at hl 4 rfl) ?_
    refine lv_iadd hx hb dX10_shift_170 ?_
    refine lv_aload_n hx hb dX10_shift_171 rfl (lv_at hl 0 rfl) ?_
    refine rgS C hH fs_RX10_81_58 dX10_shift_172 ?_
    refine lv_iload hx hb dX10_shift_175 (lv_at hl 4 rfl) ?_
    obtain ⟨hi177, h⟩ := tC h
    refine raL C hH (k := (Int32.toNatClampNeg v6)) (by decide) (show WS 82 = .inr (3, 60, 0) from rfl) hi177 rfl dX10_shift_177 ?_
    obtain ⟨hi178, h⟩ := tC h
    refine rwL C hH (k := (Int32.toNatClampNeg (((60 * v3) + v4) + v6))) (by decide) (show WS 81 = .inr (3, 360, 0) from rfl) hi178 rfl dX10_shift_178 (fun H locs hH => ?_)
    refine lv_iinc (v := (v6 + 1)) (lv' := [(6, .int (v6 + 1)), (0, .ref (ad 58)), (3, .int v3), (4, .int v4), (5, .int v5)]) hx hb dX10_shift_179 hl (k := 4) rfl rfl (by decide) rfl (fun ls hl => ?_)
    refine lv_goto (tgt := 150) hx hb dX10_shift_182 (by decide) ?_
    exact hk150 _ _ _ _ _ h _ _ _ hH (lv_sub hl [1, 2, 3, 4, 0] rfl)
set_option maxHeartbeats 2000000 in
set_option maxRecDepth 20000 in
theorem wX10_shift_150 (C : Cx D ca A p s m args meth c cX10_shift RX10 7 (some .int)) {q : Int32 × Mm} : ∀ (N : Nat) (v3 : Int32) (v4 : Int32) (v5 : Int32) (v6 : Int32) (mm : Mm), DX10_shift_150 N v3 v4 v5 v6 mm = some q → ∀ (H : Heap) (locs : List Loc) (ls : Array Slot), Hx WN ad ca WS D A s.heap mm H locs → lv_has ls 7 [(0, .ref (ad 58)), (3, .int v3), (4, .int v4), (5, .int v5), (6, .int v6)] → W p l e (rmk 3) s m args below meth c H locs 0 0 (MQ below (QcI WN ad ca WS D A pzT q) args s 0 0 A) (F0 m 150 ls []) := by
  intro N
  induction N with
  | zero =>
    intro v3 v4 v5 v6 mm h
    have h2 : (none : Option (Int32 × Mm)) = some q := h
    cases h2
  | succ N ih =>
    intro v3 v4 v5 v6 mm h H locs ls hH hl
    exact wbX10_shift_150 C ih h hH hl
set_option maxHeartbeats 2000000 in
set_option maxRecDepth 20000 in
theorem wbX10_shift_113 (C : Cx D ca A p s m args meth c cX10_shift RX10 7 (some .int)) {q : Int32 × Mm} {k113 : Int32 → Int32 → Int32 → Int32 → Int32 → Int32 → Mm → Option (Int32 × Mm)} (hk113 : ∀ (v1 : Int32) (v2 : Int32) (v3 : Int32) (v4 : Int32) (v5 : Int32) (v6 : Int32) (mm : Mm), k113 v1 v2 v3 v4 v5 v6 mm = some q → ∀ (H : Heap) (locs : List Loc) (ls : Array Slot), Hx WN ad ca WS D A s.heap mm H locs → lv_has ls 7 [(0, .ref (ad 58)), (1, .int v1), (2, .int v2), (3, .int v3), (4, .int v4), (5, .int v5), (6, .int v6)] → W p l e (rmk 3) s m args below meth c H locs 0 0 (MQ below (QcI WN ad ca WS D A pzT q) args s 0 0 A) (F0 m 113 ls [])) {v1 : Int32} {v2 : Int32} {v3 : Int32} {v4 : Int32} {v5 : Int32} {v6 : Int32} {mm : Mm} (h : BX10_shift_113 k113 v1 v2 v3 v4 v5 v6 mm = some q) (hH : Hx WN ad ca WS D A s.heap mm H locs) (hl : lv_has ls 7 [(0, .ref (ad 58)), (1, .int v1), (2, .int v2), (3, .int v3), (4, .int v4), (5, .int v5), (6, .int v6)]) : W p l e (rmk 3) s m args below meth c H locs 0 0 (MQ below (QcI WN ad ca WS D A pzT q) args s 0 0 A) (F0 m 113 ls []) := by
  unfold BX10_shift_113 at h
  have hx := C.1
  have hb := C.2.1
  refine lv_iload hx hb dX10_shift_113 (lv_at hl 6 rfl) ?_
  refine lv_iload hx hb dX10_shift_115 (lv_at hl 5 rfl) ?_
  refine lv_icmp_ge (tgt := 147) hx hb dX10_shift_117 (by decide) (fun hc117 => ?_) (fun hc117 => ?_)
  · replace h := tT hc117 h
    refine lv_iconst (v := 0) hx hb dX10_shift_147 (by decide) ?_
    refine lv_istore (lv' := [(6, .int 0), (0, .ref (ad 58)), (1, .int v1), (2, .int v2), (3, .int v3), (4, .int v4), (5, .int v5)]) hx hb dX10_shift_148 hl (by decide) rfl (fun ls hl => ?_)
    exact wX10_shift_150 C FU _ _ _ _ _ h _ _ _ hH (lv_sub hl [1, 4, 5, 6, 0] rfl)
  · replace h := tF hc117 h
    refine lv_aload_n hx hb dX10_shift_120 rfl (lv_at hl 0 rfl) ?_
    refine rgS C hH fs_RX10_81_58 dX10_shift_121 ?_
    refine lv_iload hx hb dX10_shift_124 (lv_at hl 6 rfl) ?_
    refine lv_aload_n hx hb dX10_shift_126 rfl (lv_at hl 0 rfl) ?_
    refine rgS C hH fs_RX10_78_58 dX10_shift_127 ?_
    refine lv_bipush (v := 60) hx hb dX10_shift_130 (by decide) ?_
    refine lv_iload_n hx hb dX10_shift_132 rfl (lv_at hl 1 rfl) ?_
    refine lv_imul hx hb dX10_shift_133 ?_
    refine lv_iload_n hx hb dX10_shift_134 rfl (lv_at hl 2 rfl) ?_
    refine lv_iadd hx hb dX10_shift_135 ?_
    refine lv_iload hx hb dX10_shift_136 (lv_at hl 6 rfl) ?_
    refine lv_iadd hx hb dX10_shift_138 ?_
    obtain ⟨hi139, h⟩ := tC h
    refine raL C hH (k := (Int32.toNatClampNeg (((60 * v1) + v2) + v6))) (by decide) (show WS 81 = .inr (3, 360, 0) from rfl) hi139 rfl dX10_shift_139 ?_
    obtain ⟨hi140, h⟩ := tC h
    refine rwL C hH (k := (Int32.toNatClampNeg v6)) (by decide) (show WS 82 = .inr (3, 60, 0) from rfl) hi140 rfl dX10_shift_140 (fun H locs hH => ?_)
    refine lv_iinc (v := (v6 + 1)) (lv' := [(6, .int (v6 + 1)), (0, .ref (ad 58)), (1, .int v1), (2, .int v2), (3, .int v3), (4, .int v4), (5, .int v5)]) hx hb dX10_shift_141 hl (k := 6) rfl rfl (by decide) rfl (fun ls hl => ?_)
    refine lv_goto (tgt := 113) hx hb dX10_shift_144 (by decide) ?_
    exact hk113 _ _ _ _ _ _ _ h _ _ _ hH (lv_sub hl [1, 2, 3, 4, 5, 6, 0] rfl)
set_option maxHeartbeats 2000000 in
set_option maxRecDepth 20000 in
theorem wX10_shift_113 (C : Cx D ca A p s m args meth c cX10_shift RX10 7 (some .int)) {q : Int32 × Mm} : ∀ (N : Nat) (v1 : Int32) (v2 : Int32) (v3 : Int32) (v4 : Int32) (v5 : Int32) (v6 : Int32) (mm : Mm), DX10_shift_113 N v1 v2 v3 v4 v5 v6 mm = some q → ∀ (H : Heap) (locs : List Loc) (ls : Array Slot), Hx WN ad ca WS D A s.heap mm H locs → lv_has ls 7 [(0, .ref (ad 58)), (1, .int v1), (2, .int v2), (3, .int v3), (4, .int v4), (5, .int v5), (6, .int v6)] → W p l e (rmk 3) s m args below meth c H locs 0 0 (MQ below (QcI WN ad ca WS D A pzT q) args s 0 0 A) (F0 m 113 ls []) := by
  intro N
  induction N with
  | zero =>
    intro v1 v2 v3 v4 v5 v6 mm h
    have h2 : (none : Option (Int32 × Mm)) = some q := h
    cases h2
  | succ N ih =>
    intro v1 v2 v3 v4 v5 v6 mm h H locs ls hH hl
    exact wbX10_shift_113 C ih h hH hl
set_option maxHeartbeats 2000000 in
set_option maxRecDepth 20000 in
theorem mX10_shift (l : Launch) {D : va_G} {ca : Nat → ClassId} {A : Nat → Prop} {ad : Nat → Nat} {v1 : Int32} {v2 : Int32} {v3 : Int32} {v4 : Int32} {v5 : Int32} {mm : Mm} {q : Int32 × Mm} (h : dX10_shift v1 v2 v3 v4 v5 mm = some q) : Met l yX10_shift (wsOf yX10_shift cX10_shift 7 (some .int)) (rmk 3) (PcX WN ad ca WS D A [.ref (ad 58), .int v1, .int v2, .int v3, .int v4, .int v5] mm) (QcI WN ad ca WS D A pzT q) 0 0 A := by
  unfold dX10_shift at h
  refine ent (by decide) (Nat.le_of_ble_eq_true rfl) (fun p e s m args below meth c hargs C hH ls hl => ?_)
  have hx := C.1
  have hb := C.2.1
  have hl : lv_has ls 7 [(0, .ref (ad 58)), (1, .int v1), (2, .int v2), (3, .int v3), (4, .int v4), (5, .int v5)] := hl
  refine lv_iload_n hx hb dX10_shift_0 rfl (lv_at hl 1 rfl) ?_
  obtain ⟨q1, e1, h⟩ := tB h
  refine rsI C hH hl.1 (mX10_isShelf l e1) cs_RX10_114 (RR_of (by decide) (by decide)) rfl (rest := []) rfl (Nat.le_of_ble_eq_true rfl) dX10_shift_1 ?_
  intro hz1 H locs hH
  refine lv_if_eq (tgt := 14) hx hb dX10_shift_4 (by decide) (fun hc4 => ?_) (fun hc4 => ?_)
  · replace h := tT hc4 h
    exact wX10_shift_14 C h hH (lv_sub hl [] rfl)
  · replace h := tF hc4 h
    refine lv_iload_n hx hb dX10_shift_7 rfl (lv_at hl 3 rfl) ?_
    obtain ⟨q8, e8, h⟩ := tB h
    refine rsI C hH hl.1 (mX10_isShelf l e8) cs_RX10_114 (RR_of (by decide) (by decide)) rfl (rest := []) rfl (Nat.le_of_ble_eq_true rfl) dX10_shift_8 ?_
    intro hz8 H locs hH
    refine lv_if_ne (tgt := 16) hx hb dX10_shift_11 (by decide) (fun hc11 => ?_) (fun hc11 => ?_)
    · replace h := tF hc11 h
      refine lv_aload_n hx hb dX10_shift_16 rfl (lv_at hl 0 rfl) ?_
      refine rgS C hH fs_RX10_72_58 dX10_shift_17 ?_
      refine lv_iload_n hx hb dX10_shift_20 rfl (lv_at hl 1 rfl) ?_
      obtain ⟨hi21, h⟩ := tC h
      refine raI C hH (k := (Int32.toNatClampNeg v1)) (by decide) (show WS 79 = .inr (0, 6, 0) from rfl) hi21 rfl dX10_shift_21 ?_
      refine lv_if_lt (tgt := 34) hx hb dX10_shift_22 (by decide) (fun hc22 => ?_) (fun hc22 => ?_)
      · replace h := tT hc22 h
        exact wX10_shift_34 C h hH (lv_sub hl [] rfl)
      · replace h := tF hc22 h
        refine lv_aload_n hx hb dX10_shift_25 rfl (lv_at hl 0 rfl) ?_
        refine rgS C hH fs_RX10_72_58 dX10_shift_26 ?_
        refine lv_iload_n hx hb dX10_shift_29 rfl (lv_at hl 3 rfl) ?_
        obtain ⟨hi30, h⟩ := tC h
        refine raI C hH (k := (Int32.toNatClampNeg v3)) (by decide) (show WS 79 = .inr (0, 6, 0) from rfl) hi30 rfl dX10_shift_30 ?_
        refine lv_if_ge (tgt := 37) hx hb dX10_shift_31 (by decide) (fun hc31 => ?_) (fun hc31 => ?_)
        · replace h := tT hc31 h
          refine lv_aload_n hx hb dX10_shift_37 rfl (lv_at hl 0 rfl) ?_
          refine rgS C hH fs_RX10_72_58 dX10_shift_38 ?_
          refine lv_iload_n hx hb dX10_shift_41 rfl (lv_at hl 1 rfl) ?_
          obtain ⟨hi42, h⟩ := tC h
          refine raI C hH (k := (Int32.toNatClampNeg v1)) (by decide) (show WS 79 = .inr (0, 6, 0) from rfl) hi42 rfl dX10_shift_42 ?_
          refine lv_bipush (v := 50) hx hb dX10_shift_43 (by decide) ?_
          refine lv_icmp_lt (tgt := 63) hx hb dX10_shift_45 (by decide) (fun hc45 => ?_) (fun hc45 => ?_)
          · replace h := tT hc45 h
            exact wX10_shift_63 C h hH (lv_sub hl [] rfl)
          · replace h := tF hc45 h
            refine lv_aload_n hx hb dX10_shift_48 rfl (lv_at hl 0 rfl) ?_
            refine rgS C hH fs_RX10_72_58 dX10_shift_49 ?_
            refine lv_iload_n hx hb dX10_shift_52 rfl (lv_at hl 1 rfl) ?_
            obtain ⟨hi53, h⟩ := tC h
            refine raI C hH (k := (Int32.toNatClampNeg v1)) (by decide) (show WS 79 = .inr (0, 6, 0) from rfl) hi53 rfl dX10_shift_53 ?_
            refine lv_aload_n hx hb dX10_shift_54 rfl (lv_at hl 0 rfl) ?_
            refine rgS C hH fs_RX10_72_58 dX10_shift_55 ?_
            refine lv_iload_n hx hb dX10_shift_58 rfl (lv_at hl 3 rfl) ?_
            obtain ⟨hi59, h⟩ := tC h
            refine raI C hH (k := (Int32.toNatClampNeg v3)) (by decide) (show WS 79 = .inr (0, 6, 0) from rfl) hi59 rfl dX10_shift_59 ?_
            refine lv_icmp_eq (tgt := 66) hx hb dX10_shift_60 (by decide) (fun hc60 => ?_) (fun hc60 => ?_)
            · replace h := tT hc60 h
              refine lv_iload hx hb dX10_shift_66 (lv_at hl 5 rfl) ?_
              refine lv_if_lt (tgt := 107) hx hb dX10_shift_68 (by decide) (fun hc68 => ?_) (fun hc68 => ?_)
              · replace h := tT hc68 h
                exact wX10_shift_107 C h hH (lv_sub hl [] rfl)
              · replace h := tF hc68 h
                refine lv_iload_n hx hb dX10_shift_71 rfl (lv_at hl 2 rfl) ?_
                refine lv_if_lt (tgt := 107) hx hb dX10_shift_72 (by decide) (fun hc72 => ?_) (fun hc72 => ?_)
                · replace h := tT hc72 h
                  exact wX10_shift_107 C h hH (lv_sub hl [] rfl)
                · replace h := tF hc72 h
                  refine lv_iload hx hb dX10_shift_75 (lv_at hl 4 rfl) ?_
                  refine lv_if_lt (tgt := 107) hx hb dX10_shift_77 (by decide) (fun hc77 => ?_) (fun hc77 => ?_)
                  · replace h := tT hc77 h
                    exact wX10_shift_107 C h hH (lv_sub hl [] rfl)
                  · replace h := tF hc77 h
                    refine lv_iload_n hx hb dX10_shift_80 rfl (lv_at hl 2 rfl) ?_
                    refine lv_aload_n hx hb dX10_shift_81 rfl (lv_at hl 0 rfl) ?_
                    refine rgS C hH fs_RX10_75_58 dX10_shift_82 ?_
                    refine lv_iload_n hx hb dX10_shift_85 rfl (lv_at hl 1 rfl) ?_
                    obtain ⟨hi86, h⟩ := tC h
                    refine raI C hH (k := (Int32.toNatClampNeg v1)) (by decide) (show WS 80 = .inr (0, 6, 0) from rfl) hi86 rfl dX10_shift_86 ?_
                    refine lv_iload hx hb dX10_shift_87 (lv_at hl 5 rfl) ?_
                    refine lv_isub hx hb dX10_shift_89 ?_
                    refine lv_icmp_gt (tgt := 107) hx hb dX10_shift_90 (by decide) (fun hc90 => ?_) (fun hc90 => ?_)
                    · replace h := tT hc90 h
                      exact wX10_shift_107 C h hH (lv_sub hl [] rfl)
                    · replace h := tF hc90 h
                      refine lv_iload hx hb dX10_shift_93 (lv_at hl 4 rfl) ?_
                      refine lv_aload_n hx hb dX10_shift_95 rfl (lv_at hl 0 rfl) ?_
                      refine rgS C hH fs_RX10_75_58 dX10_shift_96 ?_
                      refine lv_iload_n hx hb dX10_shift_99 rfl (lv_at hl 3 rfl) ?_
                      obtain ⟨hi100, h⟩ := tC h
                      refine raI C hH (k := (Int32.toNatClampNeg v3)) (by decide) (show WS 80 = .inr (0, 6, 0) from rfl) hi100 rfl dX10_shift_100 ?_
                      refine lv_iload hx hb dX10_shift_101 (lv_at hl 5 rfl) ?_
                      refine lv_isub hx hb dX10_shift_103 ?_
                      refine lv_icmp_le (tgt := 110) hx hb dX10_shift_104 (by decide) (fun hc104 => ?_) (fun hc104 => ?_)
                      · replace h := tT hc104 h
                        refine lv_iconst (v := 0) hx hb dX10_shift_110 (by decide) ?_
                        refine lv_istore (lv' := [(6, .int 0), (0, .ref (ad 58)), (1, .int v1), (2, .int v2), (3, .int v3), (4, .int v4), (5, .int v5)]) hx hb dX10_shift_111 hl (by decide) rfl (fun ls hl => ?_)
                        exact wX10_shift_113 C FU _ _ _ _ _ _ _ h _ _ _ hH (lv_sub hl [1, 2, 3, 4, 5, 6, 0] rfl)
                      · replace h := tF hc104 h
                        exact wX10_shift_107 C h hH (lv_sub hl [] rfl)
            · replace h := tF hc60 h
              exact wX10_shift_63 C h hH (lv_sub hl [] rfl)
        · replace h := tF hc31 h
          exact wX10_shift_34 C h hH (lv_sub hl [] rfl)
    · replace h := tT hc11 h
      exact wX10_shift_14 C h hH (lv_sub hl [] rfl)
set_option maxHeartbeats 2000000 in
set_option maxRecDepth 20000 in
theorem mX4_kindOf (l : Launch) {D : va_G} {ca : Nat → ClassId} {A : Nat → Prop} {ad : Nat → Nat} {v1 : Int32} {mm : Mm} {q : Int32 × Mm} (h : dX4_kindOf v1 mm = some q) : Met l yX4_kindOf (wsOf yX4_kindOf cX4_kindOf 2 (some .int)) (rmk 2) (PcX WN ad ca WS D A [.ref (ad 34), .int v1] mm) (QcI WN ad ca WS D A pzT q) 0 0 A := by
  unfold dX4_kindOf at h
  refine ent (by decide) (Nat.le_of_ble_eq_true rfl) (fun p e s m args below meth c hargs C hH ls hl => ?_)
  have hx := C.1
  have hb := C.2.1
  have hl : lv_has ls 2 [(0, .ref (ad 34)), (1, .int v1)] := hl
  refine lv_aload_n hx hb dX4_kindOf_0 rfl (lv_at hl 0 rfl) ?_
  refine lv_iload_n hx hb dX4_kindOf_1 rfl (lv_at hl 1 rfl) ?_
  obtain ⟨q2, e2, h⟩ := tB h
  refine rcI C hH hl.1 (mX4_has l e2) cf_RX4_22 ro_34 (RR_of (by decide) (by decide)) rfl (rest := []) rfl (Nat.le_of_ble_eq_true rfl) dX4_kindOf_2 ?_
  intro hz2 H locs hH
  refine lv_if_eq (tgt := 17) hx hb dX4_kindOf_5 (by decide) (fun hc5 => ?_) (fun hc5 => ?_)
  · replace h := tT hc5 h
    refine lv_iconst (v := (-1)) hx hb dX4_kindOf_17 (by decide) ?_
    have h := Option.some.inj h
    subst h
    exact retI C hH trivial dX4_kindOf_18
  · replace h := tF hc5 h
    refine lv_aload_n hx hb dX4_kindOf_8 rfl (lv_at hl 0 rfl) ?_
    refine rgS C hH fs_RX4_11_34 dX4_kindOf_9 ?_
    refine lv_iload_n hx hb dX4_kindOf_12 rfl (lv_at hl 1 rfl) ?_
    obtain ⟨hi13, h⟩ := tC h
    refine raI C hH (k := (Int32.toNatClampNeg v1)) (by decide) (show WS 35 = .inr (0, 50, 0) from rfl) hi13 rfl dX4_kindOf_13 ?_
    refine lv_goto (tgt := 18) hx hb dX4_kindOf_14 (by decide) ?_
    have h := Option.some.inj h
    subst h
    exact retI C hH trivial dX4_kindOf_18
set_option maxHeartbeats 2000000 in
set_option maxRecDepth 20000 in
theorem wX4_isUnder_37 (C : Cx D ca A p s m args meth c cX4_isUnder RX4 5 (some .boolean)) {q : Int32 × Mm} {v2 : Int32} {v3 : Int32} {mm : Mm} (h : DX4_isUnder_37 v2 v3 mm = some q) (hH : Hx WN ad ca WS D A s.heap mm H locs) (hl : lv_has ls 5 [(2, .int v2), (3, .int v3)]) : W p l e (rmk 3) s m args below meth c H locs 0 0 (MQ below (QcI WN ad ca WS D A pzZ q) args s 0 0 A) (F0 m 37 ls []) := by
  unfold DX4_isUnder_37 at h
  have hx := C.1
  have hb := C.2.1
  refine lv_iload_n hx hb dX4_isUnder_37 rfl (lv_at hl 1 rfl) ?_
  refine lv_iload_n hx hb dX4_isUnder_38 rfl (lv_at hl 0 rfl) ?_
  refine lv_icmp_ne (tgt := 46) hx hb dX4_isUnder_39 (by decide) (fun hc39 => ?_) (fun hc39 => ?_)
  · replace h := tF hc39 h
    refine lv_iconst (v := 0) hx hb dX4_isUnder_46 (by decide) ?_
    have h := Option.some.inj h
    subst h
    exact retZ C hH (Or.inl rfl) dX4_isUnder_47
  · replace h := tT hc39 h
    refine lv_iconst (v := 1) hx hb dX4_isUnder_42 (by decide) ?_
    refine lv_goto (tgt := 47) hx hb dX4_isUnder_43 (by decide) ?_
    have h := Option.some.inj h
    subst h
    exact retZ C hH (Or.inr rfl) dX4_isUnder_47
set_option maxHeartbeats 2000000 in
set_option maxRecDepth 20000 in
theorem wbX4_isUnder_9 (C : Cx D ca A p s m args meth c cX4_isUnder RX4 5 (some .boolean)) {q : Int32 × Mm} {k9 : Int32 → Int32 → Int32 → Mm → Option (Int32 × Mm)} (hk9 : ∀ (v2 : Int32) (v3 : Int32) (v4 : Int32) (mm : Mm), k9 v2 v3 v4 mm = some q → ∀ (H : Heap) (locs : List Loc) (ls : Array Slot), Hx WN ad ca WS D A s.heap mm H locs → lv_has ls 5 [(2, .int v2), (3, .int v3), (4, .int v4)] → W p l e (rmk 3) s m args below meth c H locs 0 0 (MQ below (QcI WN ad ca WS D A pzZ q) args s 0 0 A) (F0 m 9 ls [])) {v2 : Int32} {v3 : Int32} {v4 : Int32} {mm : Mm} (h : BX4_isUnder_9 k9 v2 v3 v4 mm = some q) (hH : Hx WN ad ca WS D A s.heap mm H locs) (hl : lv_has ls 5 [(2, .int v2), (3, .int v3), (4, .int v4)]) : W p l e (rmk 3) s m args below meth c H locs 0 0 (MQ below (QcI WN ad ca WS D A pzZ q) args s 0 0 A) (F0 m 9 ls []) := by
  unfold BX4_isUnder_9 at h
  have hx := C.1
  have hb := C.2.1
  refine lv_iload hx hb dX4_isUnder_9 (lv_at hl 2 rfl) ?_
  refine lv_bipush (v := 8) hx hb dX4_isUnder_11 (by decide) ?_
  refine lv_icmp_ge (tgt := 37) hx hb dX4_isUnder_13 (by decide) (fun hc13 => ?_) (fun hc13 => ?_)
  · replace h := tT hc13 h
    exact wX4_isUnder_37 C h hH (lv_sub hl [0, 1] rfl)
  · replace h := tF hc13 h
    refine lv_iload_n hx hb dX4_isUnder_16 rfl (lv_at hl 1 rfl) ?_
    refine lv_if_lt (tgt := 37) hx hb dX4_isUnder_17 (by decide) (fun hc17 => ?_) (fun hc17 => ?_)
    · replace h := tT hc17 h
      exact wX4_isUnder_37 C h hH (lv_sub hl [0, 1] rfl)
    · replace h := tF hc17 h
      refine lv_iload_n hx hb dX4_isUnder_20 rfl (lv_at hl 1 rfl) ?_
      refine lv_iload_n hx hb dX4_isUnder_21 rfl (lv_at hl 0 rfl) ?_
      refine lv_icmp_eq (tgt := 37) hx hb dX4_isUnder_22 (by decide) (fun hc22 => ?_) (fun hc22 => ?_)
      · replace h := tT hc22 h
        exact wX4_isUnder_37 C h hH (lv_sub hl [0, 1] rfl)
      · replace h := tF hc22 h
        refine rst C hH C.2.2.2.2.2.2.2.2.2.2.1 st_RX4_30 dX4_isUnder_25 (fun t25 hT25 => ?_)
        refine lv_iload_n hx hb dX4_isUnder_28 rfl (lv_at hl 1 rfl) ?_
        obtain ⟨hi29, h⟩ := tC h
        refine rsti C hH hT25 hi29 dX4_isUnder_29 ?_
        refine lv_istore_n (lv' := [(3, .int (tbABOVE (Int32.toNatClampNeg v3))), (2, .int v2), (4, .int v4)]) hx hb dX4_isUnder_30 rfl hl (by decide) rfl (fun ls hl => ?_)
        refine lv_iinc (v := (v4 + 1)) (lv' := [(4, .int (v4 + 1)), (3, .int (tbABOVE (Int32.toNatClampNeg v3))), (2, .int v2)]) hx hb dX4_isUnder_31 hl (k := 2) rfl rfl (by decide) rfl (fun ls hl => ?_)
        refine lv_goto (tgt := 9) hx hb dX4_isUnder_34 (by decide) ?_
        exact hk9 _ _ _ _ h _ _ _ hH (lv_sub hl [2, 1, 0] rfl)
set_option maxHeartbeats 2000000 in
set_option maxRecDepth 20000 in
theorem wX4_isUnder_9 (C : Cx D ca A p s m args meth c cX4_isUnder RX4 5 (some .boolean)) {q : Int32 × Mm} : ∀ (N : Nat) (v2 : Int32) (v3 : Int32) (v4 : Int32) (mm : Mm), DX4_isUnder_9 N v2 v3 v4 mm = some q → ∀ (H : Heap) (locs : List Loc) (ls : Array Slot), Hx WN ad ca WS D A s.heap mm H locs → lv_has ls 5 [(2, .int v2), (3, .int v3), (4, .int v4)] → W p l e (rmk 3) s m args below meth c H locs 0 0 (MQ below (QcI WN ad ca WS D A pzZ q) args s 0 0 A) (F0 m 9 ls []) := by
  intro N
  induction N with
  | zero =>
    intro v2 v3 v4 mm h
    have h2 : (none : Option (Int32 × Mm)) = some q := h
    cases h2
  | succ N ih =>
    intro v2 v3 v4 mm h H locs ls hH hl
    exact wbX4_isUnder_9 C ih h hH hl
set_option maxHeartbeats 2000000 in
set_option maxRecDepth 20000 in
theorem mX4_isUnder (l : Launch) {D : va_G} {ca : Nat → ClassId} {A : Nat → Prop} {ad : Nat → Nat} {v1 : Int32} {v2 : Int32} {mm : Mm} {q : Int32 × Mm} (h : dX4_isUnder v1 v2 mm = some q) : Met l yX4_isUnder (wsOf yX4_isUnder cX4_isUnder 5 (some .boolean)) (rmk 3) (PcX WN ad ca WS D A [.ref (ad 34), .int v1, .int v2] mm) (QcI WN ad ca WS D A pzZ q) 0 0 A := by
  unfold dX4_isUnder at h
  refine ent (by decide) (Nat.le_of_ble_eq_true rfl) (fun p e s m args below meth c hargs C hH ls hl => ?_)
  have hx := C.1
  have hb := C.2.1
  have hl : lv_has ls 5 [(0, .ref (ad 34)), (1, .int v1), (2, .int v2)] := hl
  refine lv_aload_n hx hb dX4_isUnder_0 rfl (lv_at hl 0 rfl) ?_
  refine lv_iload_n hx hb dX4_isUnder_1 rfl (lv_at hl 1 rfl) ?_
  obtain ⟨q2, e2, h⟩ := tB h
  refine rcI C hH hl.1 (mX4_kindOf l e2) cf_RX4_26 ro_34 (RR_of (by decide) (by decide)) rfl (rest := []) rfl (Nat.le_of_ble_eq_true rfl) dX4_isUnder_2 ?_
  intro hz2 H locs hH
  refine lv_istore_n (lv' := [(3, .int q2.1), (0, .ref (ad 34)), (1, .int v1), (2, .int v2)]) hx hb dX4_isUnder_5 rfl hl (by decide) rfl (fun ls hl => ?_)
  refine lv_iconst (v := 0) hx hb dX4_isUnder_6 (by decide) ?_
  refine lv_istore (lv' := [(4, .int 0), (3, .int q2.1), (0, .ref (ad 34)), (1, .int v1), (2, .int v2)]) hx hb dX4_isUnder_7 hl (by decide) rfl (fun ls hl => ?_)
  exact wX4_isUnder_9 C FU _ _ _ _ h _ _ _ hH (lv_sub hl [4, 1, 0] rfl)
set_option maxHeartbeats 2000000 in
set_option maxRecDepth 20000 in
theorem wX9_taken_17 (C : Cx D ca A p s m args meth c cX9_taken RX9 4 (some .int)) {q : Int32 × Mm} {mm : Mm} (h : DX9_taken_17 mm = some q) (hH : Hx WN ad ca WS D A s.heap mm H locs) (hl : lv_has ls 4 []) : W p l e (rmk 4) s m args below meth c H locs 0 0 (MQ below (QcI WN ad ca WS D A pzT q) args s 0 0 A) (F0 m 17 ls []) := by
  unfold DX9_taken_17 at h
  have hx := C.1
  have hb := C.2.1
  refine lv_iconst (v := (-1)) hx hb dX9_taken_17 (by decide) ?_
  have h := Option.some.inj h
  subst h
  exact retI C hH trivial dX9_taken_18
set_option maxHeartbeats 2000000 in
set_option maxRecDepth 20000 in
theorem wX9_taken_59 (C : Cx D ca A p s m args meth c cX9_taken RX9 4 (some .int)) {q : Int32 × Mm} {mm : Mm} (h : DX9_taken_59 mm = some q) (hH : Hx WN ad ca WS D A s.heap mm H locs) (hl : lv_has ls 4 []) : W p l e (rmk 4) s m args below meth c H locs 0 0 (MQ below (QcI WN ad ca WS D A pzT q) args s 0 0 A) (F0 m 59 ls []) := by
  unfold DX9_taken_59 at h
  have hx := C.1
  have hb := C.2.1
  refine lv_bipush (v := (-12)) hx hb dX9_taken_59 (by decide) ?_
  have h := Option.some.inj h
  subst h
  exact retI C hH trivial dX9_taken_61
set_option maxHeartbeats 2000000 in
set_option maxRecDepth 20000 in
theorem mX9_taken (l : Launch) {D : va_G} {ca : Nat → ClassId} {A : Nat → Prop} {ad : Nat → Nat} {v1 : Int32} {v2 : Int32} {mm : Mm} {q : Int32 × Mm} (h : dX9_taken v1 v2 mm = some q) : Met l yX9_taken (wsOf yX9_taken cX9_taken 4 (some .int)) (rmk 4) (PcX WN ad ca WS D A [.ref (ad 0), .int v1, .int v2] mm) (QcI WN ad ca WS D A pzT q) 0 0 A := by
  unfold dX9_taken at h
  refine ent (by decide) (Nat.le_of_ble_eq_true rfl) (fun p e s m args below meth c hargs C hH ls hl => ?_)
  have hx := C.1
  have hb := C.2.1
  have hl : lv_has ls 4 [(0, .ref (ad 0)), (1, .int v1), (2, .int v2)] := hl
  refine lv_iload_n hx hb dX9_taken_0 rfl (lv_at hl 1 rfl) ?_
  obtain ⟨q1, e1, h⟩ := tB h
  refine rsI C hH hl.1 (mX9_isShelf l e1) cs_RX9_75 (RR_of (by decide) (by decide)) rfl (rest := []) rfl (Nat.le_of_ble_eq_true rfl) dX9_taken_1 ?_
  intro hz1 H locs hH
  refine lv_if_eq (tgt := 17) hx hb dX9_taken_4 (by decide) (fun hc4 => ?_) (fun hc4 => ?_)
  · replace h := tT hc4 h
    exact wX9_taken_17 C h hH (lv_sub hl [] rfl)
  · replace h := tF hc4 h
    refine lv_iload_n hx hb dX9_taken_7 rfl (lv_at hl 2 rfl) ?_
    refine lv_if_lt (tgt := 17) hx hb dX9_taken_8 (by decide) (fun hc8 => ?_) (fun hc8 => ?_)
    · replace h := tT hc8 h
      exact wX9_taken_17 C h hH (lv_sub hl [] rfl)
    · replace h := tF hc8 h
      refine lv_iload_n hx hb dX9_taken_11 rfl (lv_at hl 2 rfl) ?_
      refine lv_bipush (v := 8) hx hb dX9_taken_12 (by decide) ?_
      refine lv_icmp_lt (tgt := 19) hx hb dX9_taken_14 (by decide) (fun hc14 => ?_) (fun hc14 => ?_)
      · replace h := tT hc14 h
        refine lv_aload_n hx hb dX9_taken_19 rfl (lv_at hl 0 rfl) ?_
        refine rgS C hH fs_RX9_62_0 dX9_taken_20 ?_
        refine lv_iload_n hx hb dX9_taken_23 rfl (lv_at hl 1 rfl) ?_
        obtain ⟨hi24, h⟩ := tC h
        refine raS C hH (o := 37) (k := (Int32.toNatClampNeg v1)) (by decide) (show WS 37 = .inr (4, 6, 38) from rfl) hi24 rfl dX9_taken_24 ?_
        refine lv_astore_n (lv' := [(3, .ref (ad (38 + (Int32.toNatClampNeg v1)))), (0, .ref (ad 0)), (1, .int v1), (2, .int v2)]) hx hb dX9_taken_25 rfl hl (by decide) rfl (fun ls hl => ?_)
        refine lv_aload_n hx hb dX9_taken_26 rfl (lv_at hl 0 rfl) ?_
        refine rgI C hH (fiSH_RX9_311 (sh_of hi24)) dX9_taken_27 ?_
        refine lv_if_ne (tgt := 36) hx hb dX9_taken_30 (by decide) (fun hc30 => ?_) (fun hc30 => ?_)
        · replace h := tF hc30 h
          refine lv_aload_n hx hb dX9_taken_36 rfl (lv_at hl 0 rfl) ?_
          refine rgI C hH (fiSH_RX9_311 (sh_of hi24)) dX9_taken_37 ?_
          refine lv_iconst (v := 1) hx hb dX9_taken_40 (by decide) ?_
          refine lv_icmp_ne (tgt := 59) hx hb dX9_taken_41 (by decide) (fun hc41 => ?_) (fun hc41 => ?_)
          · replace h := tF hc41 h
            exact wX9_taken_59 C h hH (lv_sub hl [] rfl)
          · replace h := tT hc41 h
            refine lv_aload_n hx hb dX9_taken_44 rfl (lv_at hl 1 rfl) ?_
            refine rgS C hH fs_RX9_56_0 dX9_taken_45 ?_
            refine lv_aload_n hx hb dX9_taken_48 rfl (lv_at hl 0 rfl) ?_
            refine rgI C hH (fiSH_RX9_325 (sh_of hi24)) dX9_taken_49 ?_
            refine lv_iload_n hx hb dX9_taken_52 rfl (lv_at hl 3 rfl) ?_
            obtain ⟨q53, e53, h⟩ := tB h
            refine rcI C hH hl.1 (mX4_isUnder l e53) cf_RX9_328 ro_34 (RR_of (by decide) (by decide)) rfl (rest := []) rfl (Nat.le_of_ble_eq_true rfl) dX9_taken_53 ?_
            intro hz53 H locs hH
            refine lv_if_ne (tgt := 62) hx hb dX9_taken_56 (by decide) (fun hc56 => ?_) (fun hc56 => ?_)
            · replace h := tF hc56 h
              refine lv_aload_n hx hb dX9_taken_62 rfl (lv_at hl 1 rfl) ?_
              refine rgS C hH fs_RX9_56_0 dX9_taken_63 ?_
              refine lv_aload_n hx hb dX9_taken_66 rfl (lv_at hl 0 rfl) ?_
              refine rgI C hH (fiSH_RX9_325 (sh_of hi24)) dX9_taken_67 ?_
              obtain ⟨q70, e70, h⟩ := tB h
              refine rcI C hH hl.1 (mX4_kindOf l e70) cf_RX9_331 ro_34 (RR_of (by decide) (by decide)) rfl (rest := []) rfl (Nat.le_of_ble_eq_true rfl) dX9_taken_70 ?_
              intro hz70 H locs hH
              have h := Option.some.inj h
              subst h
              exact retI C hH trivial dX9_taken_73
            · replace h := tT hc56 h
              exact wX9_taken_59 C h hH (lv_sub hl [] rfl)
        · replace h := tT hc30 h
          refine lv_bipush (v := (-11)) hx hb dX9_taken_33 (by decide) ?_
          have h := Option.some.inj h
          subst h
          exact retI C hH trivial dX9_taken_35
      · replace h := tF hc14 h
        exact wX9_taken_17 C h hH (lv_sub hl [] rfl)
set_option maxHeartbeats 2000000 in
set_option maxRecDepth 20000 in
theorem mX10_kindOf (l : Launch) {D : va_G} {ca : Nat → ClassId} {A : Nat → Prop} {ad : Nat → Nat} {v1 : Int32} {mm : Mm} {q : Int32 × Mm} (h : dX10_kindOf v1 mm = some q) : Met l yX10_kindOf (wsOf yX10_kindOf cX10_kindOf 2 (some .int)) (rmk 1) (PcX WN ad ca WS D A [.ref (ad 58), .int v1] mm) (QcI WN ad ca WS D A pzT q) 0 0 A := by
  unfold dX10_kindOf at h
  refine ent (by decide) (Nat.le_of_ble_eq_true rfl) (fun p e s m args below meth c hargs C hH ls hl => ?_)
  have hx := C.1
  have hb := C.2.1
  have hl : lv_has ls 2 [(0, .ref (ad 58)), (1, .int v1)] := hl
  refine lv_aload_n hx hb dX10_kindOf_0 rfl (lv_at hl 0 rfl) ?_
  refine rgS C hH fs_RX10_66_58 dX10_kindOf_1 ?_
  refine lv_iload_n hx hb dX10_kindOf_4 rfl (lv_at hl 1 rfl) ?_
  obtain ⟨hi5, h⟩ := tC h
  refine raI C hH (k := (Int32.toNatClampNeg v1)) (by decide) (show WS 77 = .inr (0, 50, 0) from rfl) hi5 rfl dX10_kindOf_5 ?_
  have h := Option.some.inj h
  subst h
  exact retI C hH trivial dX10_kindOf_6
set_option maxHeartbeats 2000000 in
set_option maxRecDepth 20000 in
theorem mX10_above (l : Launch) {D : va_G} {ca : Nat → ClassId} {A : Nat → Prop} {ad : Nat → Nat} {v0 : Int32} {mm : Mm} {q : Int32 × Mm} (h : dX10_above v0 mm = some q) : Met l yX10_above (wsOf yX10_above cX10_above 1 (some .int)) (rmk 1) (PcX WN ad ca WS D A [.int v0] mm) (QcI WN ad ca WS D A pzT q) 0 0 A := by
  unfold dX10_above at h
  refine ent (by decide) (Nat.le_of_ble_eq_true rfl) (fun p e s m args below meth c hargs C hH ls hl => ?_)
  have hx := C.1
  have hb := C.2.1
  have hl : lv_has ls 1 [(0, .int v0)] := hl
  refine lv_iload_n hx hb dX10_above_0 rfl (lv_at hl 0 rfl) ?_
  refine lv_iconst (v := 3) hx hb dX10_above_1 (by decide) ?_
  refine lv_icmp_ne (tgt := 9) hx hb dX10_above_2 (by decide) (fun hc2 => ?_) (fun hc2 => ?_)
  · replace h := tF hc2 h
    refine lv_iload_n hx hb dX10_above_9 rfl (lv_at hl 0 rfl) ?_
    refine lv_iconst (v := 4) hx hb dX10_above_10 (by decide) ?_
    refine lv_icmp_ne (tgt := 18) hx hb dX10_above_11 (by decide) (fun hc11 => ?_) (fun hc11 => ?_)
    · replace h := tF hc11 h
      refine lv_iload_n hx hb dX10_above_18 rfl (lv_at hl 0 rfl) ?_
      refine lv_iconst (v := 5) hx hb dX10_above_19 (by decide) ?_
      refine lv_icmp_ne (tgt := 27) hx hb dX10_above_20 (by decide) (fun hc20 => ?_) (fun hc20 => ?_)
      · replace h := tF hc20 h
        refine lv_iload_n hx hb dX10_above_27 rfl (lv_at hl 0 rfl) ?_
        refine lv_bipush (v := 7) hx hb dX10_above_28 (by decide) ?_
        refine lv_icmp_ne (tgt := 37) hx hb dX10_above_30 (by decide) (fun hc30 => ?_) (fun hc30 => ?_)
        · replace h := tF hc30 h
          refine lv_iconst (v := 0) hx hb dX10_above_37 (by decide) ?_
          have h := Option.some.inj h
          subst h
          exact retI C hH trivial dX10_above_38
        · replace h := tT hc30 h
          refine lv_iconst (v := 4) hx hb dX10_above_33 (by decide) ?_
          refine lv_goto (tgt := 38) hx hb dX10_above_34 (by decide) ?_
          have h := Option.some.inj h
          subst h
          exact retI C hH trivial dX10_above_38
      · replace h := tT hc20 h
        refine lv_iconst (v := 3) hx hb dX10_above_23 (by decide) ?_
        refine lv_goto (tgt := 38) hx hb dX10_above_24 (by decide) ?_
        have h := Option.some.inj h
        subst h
        exact retI C hH trivial dX10_above_38
    · replace h := tT hc11 h
      refine lv_iconst (v := 1) hx hb dX10_above_14 (by decide) ?_
      refine lv_goto (tgt := 38) hx hb dX10_above_15 (by decide) ?_
      have h := Option.some.inj h
      subst h
      exact retI C hH trivial dX10_above_38
  · replace h := tT hc2 h
    refine lv_iconst (v := 2) hx hb dX10_above_5 (by decide) ?_
    refine lv_goto (tgt := 38) hx hb dX10_above_6 (by decide) ?_
    have h := Option.some.inj h
    subst h
    exact retI C hH trivial dX10_above_38
set_option maxHeartbeats 2000000 in
set_option maxRecDepth 20000 in
theorem wX10_taken_19 (C : Cx D ca A p s m args meth c cX10_taken RX10 4 (some .int)) {q : Int32 × Mm} {mm : Mm} (h : DX10_taken_19 mm = some q) (hH : Hx WN ad ca WS D A s.heap mm H locs) (hl : lv_has ls 4 []) : W p l e (rmk 3) s m args below meth c H locs 0 0 (MQ below (QcI WN ad ca WS D A pzT q) args s 0 0 A) (F0 m 19 ls []) := by
  unfold DX10_taken_19 at h
  have hx := C.1
  have hb := C.2.1
  refine lv_iconst (v := (-1)) hx hb dX10_taken_19 (by decide) ?_
  have h := Option.some.inj h
  subst h
  exact retI C hH trivial dX10_taken_20
set_option maxHeartbeats 2000000 in
set_option maxRecDepth 20000 in
theorem wX10_taken_75 (C : Cx D ca A p s m args meth c cX10_taken RX10 4 (some .int)) {q : Int32 × Mm} {v1 : Int32} {v2 : Int32} {v3 : Int32} {mm : Mm} (h : DX10_taken_75 v1 v2 v3 mm = some q) (hH : Hx WN ad ca WS D A s.heap mm H locs) (hl : lv_has ls 4 [(0, .ref (ad 58)), (1, .int v1), (2, .int v2), (3, .int v3)]) : W p l e (rmk 3) s m args below meth c H locs 0 0 (MQ below (QcI WN ad ca WS D A pzT q) args s 0 0 A) (F0 m 75 ls []) := by
  unfold DX10_taken_75 at h
  have hx := C.1
  have hb := C.2.1
  refine lv_iload_n hx hb dX10_taken_75 rfl (lv_at hl 3 rfl) ?_
  refine lv_iload_n hx hb dX10_taken_76 rfl (lv_at hl 2 rfl) ?_
  refine lv_icmp_ne (tgt := 93) hx hb dX10_taken_77 (by decide) (fun hc77 => ?_) (fun hc77 => ?_)
  · replace h := tF hc77 h
    refine lv_bipush (v := (-12)) hx hb dX10_taken_93 (by decide) ?_
    have h := Option.some.inj h
    subst h
    exact retI C hH trivial dX10_taken_95
  · replace h := tT hc77 h
    refine lv_aload_n hx hb dX10_taken_80 rfl (lv_at hl 0 rfl) ?_
    refine lv_aload_n hx hb dX10_taken_81 rfl (lv_at hl 0 rfl) ?_
    refine rgS C hH fs_RX10_72_58 dX10_taken_82 ?_
    refine lv_iload_n hx hb dX10_taken_85 rfl (lv_at hl 1 rfl) ?_
    obtain ⟨hi86, h⟩ := tC h
    refine raI C hH (k := (Int32.toNatClampNeg v1)) (by decide) (show WS 79 = .inr (0, 6, 0) from rfl) hi86 rfl dX10_taken_86 ?_
    obtain ⟨q87, e87, h⟩ := tB h
    refine rcI C hH hl.1 (mX10_kindOf l e87) cf_RX10_349 ro_58 (RR_of (by decide) (by decide)) rfl (rest := []) rfl (Nat.le_of_ble_eq_true rfl) dX10_taken_87 ?_
    intro hz87 H locs hH
    refine lv_goto (tgt := 95) hx hb dX10_taken_90 (by decide) ?_
    have h := Option.some.inj h
    subst h
    exact retI C hH trivial dX10_taken_95
set_option maxHeartbeats 2000000 in
set_option maxRecDepth 20000 in
theorem wbX10_taken_58 (C : Cx D ca A p s m args meth c cX10_taken RX10 4 (some .int)) {q : Int32 × Mm} {k58 : Int32 → Int32 → Int32 → Mm → Option (Int32 × Mm)} (hk58 : ∀ (v1 : Int32) (v2 : Int32) (v3 : Int32) (mm : Mm), k58 v1 v2 v3 mm = some q → ∀ (H : Heap) (locs : List Loc) (ls : Array Slot), Hx WN ad ca WS D A s.heap mm H locs → lv_has ls 4 [(0, .ref (ad 58)), (1, .int v1), (2, .int v2), (3, .int v3)] → W p l e (rmk 3) s m args below meth c H locs 0 0 (MQ below (QcI WN ad ca WS D A pzT q) args s 0 0 A) (F0 m 58 ls [])) {v1 : Int32} {v2 : Int32} {v3 : Int32} {mm : Mm} (h : BX10_taken_58 k58 v1 v2 v3 mm = some q) (hH : Hx WN ad ca WS D A s.heap mm H locs) (hl : lv_has ls 4 [(0, .ref (ad 58)), (1, .int v1), (2, .int v2), (3, .int v3)]) : W p l e (rmk 3) s m args below meth c H locs 0 0 (MQ below (QcI WN ad ca WS D A pzT q) args s 0 0 A) (F0 m 58 ls []) := by
  unfold BX10_taken_58 at h
  have hx := C.1
  have hb := C.2.1
  refine lv_iload_n hx hb dX10_taken_58 rfl (lv_at hl 3 rfl) ?_
  refine lv_iload_n hx hb dX10_taken_59 rfl (lv_at hl 2 rfl) ?_
  refine lv_icmp_eq (tgt := 75) hx hb dX10_taken_60 (by decide) (fun hc60 => ?_) (fun hc60 => ?_)
  · replace h := tT hc60 h
    exact wX10_taken_75 C h hH (lv_sub hl [0, 1, 2, 3] rfl)
  · replace h := tF hc60 h
    refine lv_iload_n hx hb dX10_taken_63 rfl (lv_at hl 3 rfl) ?_
    refine lv_if_le (tgt := 75) hx hb dX10_taken_64 (by decide) (fun hc64 => ?_) (fun hc64 => ?_)
    · replace h := tT hc64 h
      exact wX10_taken_75 C h hH (lv_sub hl [0, 1, 2, 3] rfl)
    · replace h := tF hc64 h
      refine lv_iload_n hx hb dX10_taken_67 rfl (lv_at hl 3 rfl) ?_
      obtain ⟨q68, e68, h⟩ := tB h
      refine rsI C hH hl.1 (mX10_above l e68) cs_RX10_352 (RR_of (by decide) (by decide)) rfl (rest := []) rfl (Nat.le_of_ble_eq_true rfl) dX10_taken_68 ?_
      intro hz68 H locs hH
      refine lv_istore_n (lv' := [(3, .int q68.1), (0, .ref (ad 58)), (1, .int v1), (2, .int v2)]) hx hb dX10_taken_71 rfl hl (by decide) rfl (fun ls hl => ?_)
      refine lv_goto (tgt := 58) hx hb dX10_taken_72 (by decide) ?_
      exact hk58 _ _ _ _ h _ _ _ hH (lv_sub hl [1, 2, 3, 0] rfl)
set_option maxHeartbeats 2000000 in
set_option maxRecDepth 20000 in
theorem wX10_taken_58 (C : Cx D ca A p s m args meth c cX10_taken RX10 4 (some .int)) {q : Int32 × Mm} : ∀ (N : Nat) (v1 : Int32) (v2 : Int32) (v3 : Int32) (mm : Mm), DX10_taken_58 N v1 v2 v3 mm = some q → ∀ (H : Heap) (locs : List Loc) (ls : Array Slot), Hx WN ad ca WS D A s.heap mm H locs → lv_has ls 4 [(0, .ref (ad 58)), (1, .int v1), (2, .int v2), (3, .int v3)] → W p l e (rmk 3) s m args below meth c H locs 0 0 (MQ below (QcI WN ad ca WS D A pzT q) args s 0 0 A) (F0 m 58 ls []) := by
  intro N
  induction N with
  | zero =>
    intro v1 v2 v3 mm h
    have h2 : (none : Option (Int32 × Mm)) = some q := h
    cases h2
  | succ N ih =>
    intro v1 v2 v3 mm h H locs ls hH hl
    exact wbX10_taken_58 C ih h hH hl
set_option maxHeartbeats 2000000 in
set_option maxRecDepth 20000 in
theorem mX10_taken (l : Launch) {D : va_G} {ca : Nat → ClassId} {A : Nat → Prop} {ad : Nat → Nat} {v1 : Int32} {v2 : Int32} {mm : Mm} {q : Int32 × Mm} (h : dX10_taken v1 v2 mm = some q) : Met l yX10_taken (wsOf yX10_taken cX10_taken 4 (some .int)) (rmk 3) (PcX WN ad ca WS D A [.ref (ad 58), .int v1, .int v2] mm) (QcI WN ad ca WS D A pzT q) 0 0 A := by
  unfold dX10_taken at h
  refine ent (by decide) (Nat.le_of_ble_eq_true rfl) (fun p e s m args below meth c hargs C hH ls hl => ?_)
  have hx := C.1
  have hb := C.2.1
  have hl : lv_has ls 4 [(0, .ref (ad 58)), (1, .int v1), (2, .int v2)] := hl
  refine lv_iload_n hx hb dX10_taken_0 rfl (lv_at hl 1 rfl) ?_
  obtain ⟨q1, e1, h⟩ := tB h
  refine rsI C hH hl.1 (mX10_isShelf l e1) cs_RX10_114 (RR_of (by decide) (by decide)) rfl (rest := []) rfl (Nat.le_of_ble_eq_true rfl) dX10_taken_1 ?_
  intro hz1 H locs hH
  refine lv_if_eq (tgt := 19) hx hb dX10_taken_4 (by decide) (fun hc4 => ?_) (fun hc4 => ?_)
  · replace h := tT hc4 h
    exact wX10_taken_19 C h hH (lv_sub hl [] rfl)
  · replace h := tF hc4 h
    refine lv_iload_n hx hb dX10_taken_7 rfl (lv_at hl 2 rfl) ?_
    refine lv_i2l' hx hb dX10_taken_8 ?_
    refine lv_lconst (v := 0) hx hb dX10_taken_9 (by decide) ?_
    refine rldc2 C (v := 7) k_RX10_312 dX10_taken_10 ?_
    obtain ⟨q13, e13, h⟩ := tB h
    refine rsI C hH hl.1 (mX10_within l e13) cs_RX10_96 (RR_of (by decide) (by decide)) rfl (rest := []) rfl (Nat.le_of_ble_eq_true rfl) dX10_taken_13 ?_
    intro hz13 H locs hH
    refine lv_if_ne (tgt := 21) hx hb dX10_taken_16 (by decide) (fun hc16 => ?_) (fun hc16 => ?_)
    · replace h := tF hc16 h
      refine lv_aload_n hx hb dX10_taken_21 rfl (lv_at hl 0 rfl) ?_
      refine rgS C hH fs_RX10_72_58 dX10_taken_22 ?_
      refine lv_iload_n hx hb dX10_taken_25 rfl (lv_at hl 1 rfl) ?_
      obtain ⟨hi26, h⟩ := tC h
      refine raI C hH (k := (Int32.toNatClampNeg v1)) (by decide) (show WS 79 = .inr (0, 6, 0) from rfl) hi26 rfl dX10_taken_26 ?_
      refine lv_if_ge (tgt := 33) hx hb dX10_taken_27 (by decide) (fun hc27 => ?_) (fun hc27 => ?_)
      · replace h := tT hc27 h
        refine lv_aload_n hx hb dX10_taken_33 rfl (lv_at hl 0 rfl) ?_
        refine rgS C hH fs_RX10_72_58 dX10_taken_34 ?_
        refine lv_iload_n hx hb dX10_taken_37 rfl (lv_at hl 1 rfl) ?_
        obtain ⟨hi38, h⟩ := tC h
        refine raI C hH (k := (Int32.toNatClampNeg v1)) (by decide) (show WS 79 = .inr (0, 6, 0) from rfl) hi38 rfl dX10_taken_38 ?_
        refine lv_bipush (v := 50) hx hb dX10_taken_39 (by decide) ?_
        refine lv_icmp_lt (tgt := 47) hx hb dX10_taken_41 (by decide) (fun hc41 => ?_) (fun hc41 => ?_)
        · replace h := tT hc41 h
          refine lv_aload_n hx hb dX10_taken_47 rfl (lv_at hl 0 rfl) ?_
          refine lv_aload_n hx hb dX10_taken_48 rfl (lv_at hl 0 rfl) ?_
          refine rgS C hH fs_RX10_72_58 dX10_taken_49 ?_
          refine lv_iload_n hx hb dX10_taken_52 rfl (lv_at hl 1 rfl) ?_
          obtain ⟨hi53, h⟩ := tC h
          refine raI C hH (k := (Int32.toNatClampNeg v1)) (by decide) (show WS 79 = .inr (0, 6, 0) from rfl) hi53 rfl dX10_taken_53 ?_
          obtain ⟨q54, e54, h⟩ := tB h
          refine rcI C hH hl.1 (mX10_kindOf l e54) cf_RX10_349 ro_58 (RR_of (by decide) (by decide)) rfl (rest := []) rfl (Nat.le_of_ble_eq_true rfl) dX10_taken_54 ?_
          intro hz54 H locs hH
          refine lv_istore_n (lv' := [(3, .int q54.1), (0, .ref (ad 58)), (1, .int v1), (2, .int v2)]) hx hb dX10_taken_57 rfl hl (by decide) rfl (fun ls hl => ?_)
          exact wX10_taken_58 C FU _ _ _ _ h _ _ _ hH (lv_sub hl [1, 2, 3, 0] rfl)
        · replace h := tF hc41 h
          refine lv_bipush (v := (-12)) hx hb dX10_taken_44 (by decide) ?_
          have h := Option.some.inj h
          subst h
          exact retI C hH trivial dX10_taken_46
      · replace h := tF hc27 h
        refine lv_bipush (v := (-11)) hx hb dX10_taken_30 (by decide) ?_
        have h := Option.some.inj h
        subst h
        exact retI C hH trivial dX10_taken_32
    · replace h := tT hc16 h
      exact wX10_taken_19 C h hH (lv_sub hl [] rfl)
set_option maxHeartbeats 2000000 in
set_option maxRecDepth 20000 in
theorem mX9_count (l : Launch) {D : va_G} {ca : Nat → ClassId} {A : Nat → Prop} {ad : Nat → Nat} {v1 : Int32} {mm : Mm} {q : Int32 × Mm} (h : dX9_count v1 mm = some q) : Met l yX9_count (wsOf yX9_count cX9_count 2 (some .int)) (rmk 1) (PcX WN ad ca WS D A [.ref (ad 0), .int v1] mm) (QcI WN ad ca WS D A pzT q) 0 0 A := by
  unfold dX9_count at h
  refine ent (by decide) (Nat.le_of_ble_eq_true rfl) (fun p e s m args below meth c hargs C hH ls hl => ?_)
  have hx := C.1
  have hb := C.2.1
  have hl : lv_has ls 2 [(0, .ref (ad 0)), (1, .int v1)] := hl
  refine lv_iload_n hx hb dX9_count_0 rfl (lv_at hl 1 rfl) ?_
  by_cases hc1_0 : v1 = 0
  · replace h := tT hc1_0 h
    refine lv_tableIn (tgt := 40) hx hb dX9_count_1 (by rw [hc1_0]; decide) (by rw [hc1_0]; decide) (by rw [hc1_0]; rfl) (by decide) ?_
    refine lv_aload_n hx hb dX9_count_40 rfl (lv_at hl 0 rfl) ?_
    refine rgS C hH fs_RX9_10_0 dX9_count_41 ?_
    refine rgI C hH fi_RX9_177_1 dX9_count_44 ?_
    have h := Option.some.inj h
    subst h
    exact retI C hH trivial dX9_count_47
  · replace h := tF hc1_0 h
    by_cases hc1_1 : v1 = 1
    · replace h := tT hc1_1 h
      refine lv_tableIn (tgt := 48) hx hb dX9_count_1 (by rw [hc1_1]; decide) (by rw [hc1_1]; decide) (by rw [hc1_1]; rfl) (by decide) ?_
      refine lv_aload_n hx hb dX9_count_48 rfl (lv_at hl 0 rfl) ?_
      refine rgS C hH fs_RX9_10_0 dX9_count_49 ?_
      refine rgI C hH fi_RX9_334_1 dX9_count_52 ?_
      have h := Option.some.inj h
      subst h
      exact retI C hH trivial dX9_count_55
    · replace h := tF hc1_1 h
      by_cases hc1_2 : v1 = 2
      · replace h := tT hc1_2 h
        refine lv_tableIn (tgt := 56) hx hb dX9_count_1 (by rw [hc1_2]; decide) (by rw [hc1_2]; decide) (by rw [hc1_2]; rfl) (by decide) ?_
        refine lv_aload_n hx hb dX9_count_56 rfl (lv_at hl 0 rfl) ?_
        refine rgS C hH fs_RX9_19_0 dX9_count_57 ?_
        refine rgI C hH fi_RX9_337_15 dX9_count_60 ?_
        have h := Option.some.inj h
        subst h
        exact retI C hH trivial dX9_count_63
      · replace h := tF hc1_2 h
        by_cases hc1_3 : v1 = 3
        · replace h := tT hc1_3 h
          refine lv_tableIn (tgt := 64) hx hb dX9_count_1 (by rw [hc1_3]; decide) (by rw [hc1_3]; decide) (by rw [hc1_3]; rfl) (by decide) ?_
          refine lv_aload_n hx hb dX9_count_64 rfl (lv_at hl 0 rfl) ?_
          refine rgS C hH fs_RX9_49_0 dX9_count_65 ?_
          refine rgI C hH fi_RX9_274_29 dX9_count_68 ?_
          have h := Option.some.inj h
          subst h
          exact retI C hH trivial dX9_count_71
        · replace h := tF hc1_3 h
          by_cases hc1_4 : v1 = 4
          · replace h := tT hc1_4 h
            refine lv_tableIn (tgt := 72) hx hb dX9_count_1 (by rw [hc1_4]; decide) (by rw [hc1_4]; decide) (by rw [hc1_4]; rfl) (by decide) ?_
            refine lv_aload_n hx hb dX9_count_72 rfl (lv_at hl 0 rfl) ?_
            refine rgS C hH fs_RX9_56_0 dX9_count_73 ?_
            refine rgI C hH fi_RX9_340_34 dX9_count_76 ?_
            have h := Option.some.inj h
            subst h
            exact retI C hH trivial dX9_count_79
          · replace h := tF hc1_4 h
            by_cases hc1_5 : v1 = 5
            · replace h := tT hc1_5 h
              refine lv_tableIn (tgt := 80) hx hb dX9_count_1 (by rw [hc1_5]; decide) (by rw [hc1_5]; decide) (by rw [hc1_5]; rfl) (by decide) ?_
              refine lv_aload_n hx hb dX9_count_80 rfl (lv_at hl 0 rfl) ?_
              refine rgS C hH fs_RX9_56_0 dX9_count_81 ?_
              refine rgI C hH fi_RX9_343_34 dX9_count_84 ?_
              have h := Option.some.inj h
              subst h
              exact retI C hH trivial dX9_count_87
            · replace h := tF hc1_5 h
              have ghc1_0 := lv_neT (k := 0) (a := 0) hc1_0 rfl
              have ghc1_1 := lv_neT (k := 1) (a := 1) hc1_1 rfl
              have ghc1_2 := lv_neT (k := 2) (a := 2) hc1_2 rfl
              have ghc1_3 := lv_neT (k := 3) (a := 3) hc1_3 rfl
              have ghc1_4 := lv_neT (k := 4) (a := 4) hc1_4 rfl
              have ghc1_5 := lv_neT (k := 5) (a := 5) hc1_5 rfl
              refine lv_tableOut (tgt := 88) hx hb dX9_count_1 (by omega) (by decide) ?_
              refine lv_iconst (v := (-1)) hx hb dX9_count_88 (by decide) ?_
              have h := Option.some.inj h
              subst h
              exact retI C hH trivial dX9_count_89
set_option maxHeartbeats 2000000 in
set_option maxRecDepth 20000 in
theorem mX10_count (l : Launch) {D : va_G} {ca : Nat → ClassId} {A : Nat → Prop} {ad : Nat → Nat} {v1 : Int32} {mm : Mm} {q : Int32 × Mm} (h : dX10_count v1 mm = some q) : Met l yX10_count (wsOf yX10_count cX10_count 2 (some .int)) (rmk 1) (PcX WN ad ca WS D A [.ref (ad 58), .int v1] mm) (QcI WN ad ca WS D A pzT q) 0 0 A := by
  unfold dX10_count at h
  refine ent (by decide) (Nat.le_of_ble_eq_true rfl) (fun p e s m args below meth c hargs C hH ls hl => ?_)
  have hx := C.1
  have hb := C.2.1
  have hl : lv_has ls 2 [(0, .ref (ad 58)), (1, .int v1)] := hl
  refine lv_iload_n hx hb dX10_count_0 rfl (lv_at hl 1 rfl) ?_
  by_cases hc1_0 : v1 = 0
  · replace h := tT hc1_0 h
    refine lv_tableIn (tgt := 40) hx hb dX10_count_1 (by rw [hc1_0]; decide) (by rw [hc1_0]; decide) (by rw [hc1_0]; rfl) (by decide) ?_
    refine lv_aload_n hx hb dX10_count_40 rfl (lv_at hl 0 rfl) ?_
    refine rgI C hH fi_RX10_100_58 dX10_count_41 ?_
    have h := Option.some.inj h
    subst h
    exact retI C hH trivial dX10_count_44
  · replace h := tF hc1_0 h
    by_cases hc1_1 : v1 = 1
    · replace h := tT hc1_1 h
      refine lv_tableIn (tgt := 45) hx hb dX10_count_1 (by rw [hc1_1]; decide) (by rw [hc1_1]; decide) (by rw [hc1_1]; rfl) (by decide) ?_
      refine lv_aload_n hx hb dX10_count_45 rfl (lv_at hl 0 rfl) ?_
      refine rgI C hH fi_RX10_103_58 dX10_count_46 ?_
      have h := Option.some.inj h
      subst h
      exact retI C hH trivial dX10_count_49
    · replace h := tF hc1_1 h
      by_cases hc1_2 : v1 = 2
      · replace h := tT hc1_2 h
        refine lv_tableIn (tgt := 50) hx hb dX10_count_1 (by rw [hc1_2]; decide) (by rw [hc1_2]; decide) (by rw [hc1_2]; rfl) (by decide) ?_
        refine lv_aload_n hx hb dX10_count_50 rfl (lv_at hl 0 rfl) ?_
        refine rgI C hH fi_RX10_154_58 dX10_count_51 ?_
        have h := Option.some.inj h
        subst h
        exact retI C hH trivial dX10_count_54
      · replace h := tF hc1_2 h
        by_cases hc1_3 : v1 = 3
        · replace h := tT hc1_3 h
          refine lv_tableIn (tgt := 55) hx hb dX10_count_1 (by rw [hc1_3]; decide) (by rw [hc1_3]; decide) (by rw [hc1_3]; rfl) (by decide) ?_
          refine lv_aload_n hx hb dX10_count_55 rfl (lv_at hl 0 rfl) ?_
          refine rgI C hH fi_RX10_88_58 dX10_count_56 ?_
          have h := Option.some.inj h
          subst h
          exact retI C hH trivial dX10_count_59
        · replace h := tF hc1_3 h
          by_cases hc1_4 : v1 = 4
          · replace h := tT hc1_4 h
            refine lv_tableIn (tgt := 60) hx hb dX10_count_1 (by rw [hc1_4]; decide) (by rw [hc1_4]; decide) (by rw [hc1_4]; rfl) (by decide) ?_
            refine lv_aload_n hx hb dX10_count_60 rfl (lv_at hl 0 rfl) ?_
            refine rgI C hH fi_RX10_309_58 dX10_count_61 ?_
            have h := Option.some.inj h
            subst h
            exact retI C hH trivial dX10_count_64
          · replace h := tF hc1_4 h
            by_cases hc1_5 : v1 = 5
            · replace h := tT hc1_5 h
              refine lv_tableIn (tgt := 65) hx hb dX10_count_1 (by rw [hc1_5]; decide) (by rw [hc1_5]; decide) (by rw [hc1_5]; rfl) (by decide) ?_
              refine lv_aload_n hx hb dX10_count_65 rfl (lv_at hl 0 rfl) ?_
              refine rgI C hH fi_RX10_314_58 dX10_count_66 ?_
              have h := Option.some.inj h
              subst h
              exact retI C hH trivial dX10_count_69
            · replace h := tF hc1_5 h
              have ghc1_0 := lv_neT (k := 0) (a := 0) hc1_0 rfl
              have ghc1_1 := lv_neT (k := 1) (a := 1) hc1_1 rfl
              have ghc1_2 := lv_neT (k := 2) (a := 2) hc1_2 rfl
              have ghc1_3 := lv_neT (k := 3) (a := 3) hc1_3 rfl
              have ghc1_4 := lv_neT (k := 4) (a := 4) hc1_4 rfl
              have ghc1_5 := lv_neT (k := 5) (a := 5) hc1_5 rfl
              refine lv_tableOut (tgt := 70) hx hb dX10_count_1 (by omega) (by decide) ?_
              refine lv_iconst (v := (-1)) hx hb dX10_count_70 (by decide) ?_
              have h := Option.some.inj h
              subst h
              exact retI C hH trivial dX10_count_71
end WALK
