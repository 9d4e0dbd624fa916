/-! ===== the walks: each method by its denotation (laid by wip/whole/gen.py) ===== -/
section WALK
variable {p : Program} {l : Launch} {e : Env} {s : State} {m : MethodId} {args : Array Value} {below : List Frame} {meth : Method} {c : Code} {H : Heap} {locs : List Loc} {Q : State → Prop} {cells slots : Nat} {ls : Array Slot} {D : va_G} {ca : Nat → ClassId} {A : Nat → Prop} {ad : Nat → Nat}
set_option maxHeartbeats 2000000 in
set_option maxRecDepth 20000 in
theorem mgX2_outcome (l : Launch) {D : va_G} {ca : Nat → ClassId} {A : Nat → Prop} {ad : Nat → Nat} : ∀ n : Nat, (∀ (v1 : Int32) (v2 : Int32) (v3 : Int32) (v4 : Int32) (mm : Mm) (q : Int32 × Mm), dX2_outcome n v1 v2 v3 v4 mm = some q → Met l yX2_outcome (wsOf yX2_outcome cX2_outcome 9 (some .int)) (rmk (6 + n)) (PcX WN ad ca WS D A [.ref (ad 19), .int v1, .int v2, .int v3, .int v4] mm) (QcI WN ad ca WS D A pzT q) 0 0 A) := by
  intro n
  induction n with
  | zero => exact (fun v1 v2 v3 v4 mm q h => none_ne (show (none : Option (Int32 × Mm)) = some q from h))
  | succ n ih => exact (fun v1 v2 v3 v4 mm q h => mbX2_outcome l (by omega) ih h)
set_option maxHeartbeats 2000000 in
set_option maxRecDepth 20000 in
theorem mX2_outcome (l : Launch) {D : va_G} {ca : Nat → ClassId} {A : Nat → Prop} {ad : Nat → Nat} (n : Nat) (v1 : Int32) (v2 : Int32) (v3 : Int32) (v4 : Int32) (mm : Mm) (q : Int32 × Mm) (h : dX2_outcome n v1 v2 v3 v4 mm = some q) : Met l yX2_outcome (wsOf yX2_outcome cX2_outcome 9 (some .int)) (rmk (6 + n)) (PcX WN ad ca WS D A [.ref (ad 19), .int v1, .int v2, .int v3, .int v4] mm) (QcI WN ad ca WS D A pzT q) 0 0 A := (mgX2_outcome l n) v1 v2 v3 v4 mm q h
set_option maxHeartbeats 2000000 in
set_option maxRecDepth 20000 in
theorem mX2_turnsPaid (l : Launch) {D : va_G} {ca : Nat → ClassId} {A : Nat → Prop} {ad : Nat → Nat} {v1 : Int32} {v2 : Int32} {v3 : Int32} {mm : Mm} {q : Int32 × Mm} (h : dX2_turnsPaid v1 v2 v3 mm = some q) : Met l yX2_turnsPaid (wsOf yX2_turnsPaid cX2_turnsPaid 4 (some .int)) (rmk 107) (PcX WN ad ca WS D A [.ref (ad 19), .int v1, .int v2, .int v3] mm) (QcI WN ad ca WS D A pzT q) 0 0 A := by
  unfold dX2_turnsPaid at h
  refine ent (by decide) (Nat.le_of_ble_eq_true rfl) (fun p e s m args below meth c hargs C hH ls hl => ?_)
  have hx := C.1
  have hb := C.2.1
  have hl : lv_has ls 4 [(0, .ref (ad 19)), (1, .int v1), (2, .int v2), (3, .int v3)] := hl
  refine lv_aload_n hx hb dX2_turnsPaid_0 rfl (lv_at hl 0 rfl) ?_
  refine lv_iload_n hx hb dX2_turnsPaid_1 rfl (lv_at hl 1 rfl) ?_
  refine lv_aload_n hx hb dX2_turnsPaid_2 rfl (lv_at hl 0 rfl) ?_
  refine rgS C hH fs_RX2_22_19 dX2_turnsPaid_3 ?_
  refine lv_iconst (v := 5) hx hb dX2_turnsPaid_6 (by decide) ?_
  refine lv_iload_n hx hb dX2_turnsPaid_7 rfl (lv_at hl 2 rfl) ?_
  obtain ⟨q8, e8, h⟩ := tB h
  refine rcI C hH hl.1 (mX7_told l e8) cf_RX2_38 ro_1 (RR_of (by decide) (by decide)) rfl (rest := [.int v1, .ref (ad 19)]) rfl (Nat.le_of_ble_eq_true rfl) dX2_turnsPaid_8 ?_
  intro hz8 H locs hH
  refine lv_iconst (v := 0) hx hb dX2_turnsPaid_11 (by decide) ?_
  refine lv_iload_n hx hb dX2_turnsPaid_12 rfl (lv_at hl 3 rfl) ?_
  obtain ⟨q13, e13, h⟩ := tB h
  refine rcI C hH hl.1 (mX2_outcome l 100 _ _ _ _ _ _ e13) cf_RX2_120 ro_19 (RR_of (by decide) (by decide)) rfl (rest := []) rfl (Nat.le_of_ble_eq_true rfl) dX2_turnsPaid_13 ?_
  intro hz13 H locs hH
  obtain ⟨q16, e16, h⟩ := tB h
  refine rsI C hH hl.1 (mX2_paid l e16) cs_RX2_124 (RR_of (by decide) (by decide)) rfl (rest := []) rfl (Nat.le_of_ble_eq_true rfl) dX2_turnsPaid_16 ?_
  intro hz16 H locs hH
  have h := Option.some.inj h
  subst h
  exact retI C hH trivial dX2_turnsPaid_19
set_option maxHeartbeats 2000000 in
set_option maxRecDepth 20000 in
theorem mX2_turnsRaised (l : Launch) {D : va_G} {ca : Nat → ClassId} {A : Nat → Prop} {ad : Nat → Nat} {v1 : Int32} {v2 : Int32} {v3 : Int32} {mm : Mm} {q : Int32 × Mm} (h : dX2_turnsRaised v1 v2 v3 mm = some q) : Met l yX2_turnsRaised (wsOf yX2_turnsRaised cX2_turnsRaised 7 (some .int)) (rmk 107) (PcX WN ad ca WS D A [.ref (ad 19), .int v1, .int v2, .int v3] mm) (QcI WN ad ca WS D A pzT q) 0 0 A := by
  unfold dX2_turnsRaised at h
  refine ent (by decide) (Nat.le_of_ble_eq_true rfl) (fun p e s m args below meth c hargs C hH ls hl => ?_)
  have hx := C.1
  have hb := C.2.1
  have hl : lv_has ls 7 [(0, .ref (ad 19)), (1, .int v1), (2, .int v2), (3, .int v3)] := hl
  refine lv_aload_n hx hb dX2_turnsRaised_0 rfl (lv_at hl 0 rfl) ?_
  refine rgS C hH fs_RX2_22_19 dX2_turnsRaised_1 ?_
  refine lv_iconst (v := 5) hx hb dX2_turnsRaised_4 (by decide) ?_
  refine lv_iload_n hx hb dX2_turnsRaised_5 rfl (lv_at hl 2 rfl) ?_
  obtain ⟨q6, e6, h⟩ := tB h
  refine rcI C hH hl.1 (mX7_told l e6) cf_RX2_38 ro_1 (RR_of (by decide) (by decide)) rfl (rest := []) rfl (Nat.le_of_ble_eq_true rfl) dX2_turnsRaised_6 ?_
  intro hz6 H locs hH
  refine lv_istore (lv' := [(4, .int q6.1), (0, .ref (ad 19)), (1, .int v1), (2, .int v2), (3, .int v3)]) hx hb dX2_turnsRaised_9 hl (by decide) rfl (fun ls hl => ?_)
  refine lv_aload_n hx hb dX2_turnsRaised_11 rfl (lv_at hl 1 rfl) ?_
  refine lv_iload_n hx hb dX2_turnsRaised_12 rfl (lv_at hl 2 rfl) ?_
  refine lv_iload hx hb dX2_turnsRaised_13 (lv_at hl 0 rfl) ?_
  refine lv_iconst (v := 1) hx hb dX2_turnsRaised_15 (by decide) ?_
  refine lv_iload_n hx hb dX2_turnsRaised_16 rfl (lv_at hl 4 rfl) ?_
  obtain ⟨q17, e17, h⟩ := tB h
  refine rcI C hH hl.1 (mX2_outcome l 100 _ _ _ _ _ _ e17) cf_RX2_120 ro_19 (RR_of (by decide) (by decide)) rfl (rest := []) rfl (Nat.le_of_ble_eq_true rfl) dX2_turnsRaised_17 ?_
  intro hz17 H locs hH
  refine lv_istore (lv' := [(5, .int q17.1), (4, .int q6.1), (0, .ref (ad 19)), (1, .int v1), (2, .int v2), (3, .int v3)]) hx hb dX2_turnsRaised_20 hl (by decide) rfl (fun ls hl => ?_)
  refine lv_aload_n hx hb dX2_turnsRaised_22 rfl (lv_at hl 2 rfl) ?_
  refine lv_iload_n hx hb dX2_turnsRaised_23 rfl (lv_at hl 3 rfl) ?_
  refine lv_iload hx hb dX2_turnsRaised_24 (lv_at hl 1 rfl) ?_
  refine lv_iconst (v := 1) hx hb dX2_turnsRaised_26 (by decide) ?_
  obtain ⟨q27, e27, h⟩ := tB h
  refine rsI C hH hl.1 (mX2_moved l e27) cs_RX2_127 (RR_of (by decide) (by decide)) rfl (rest := [.int v1, .ref (ad 19)]) rfl (Nat.le_of_ble_eq_true rfl) dX2_turnsRaised_27 ?_
  intro hz27 H locs hH
  refine lv_iconst (v := 1) hx hb dX2_turnsRaised_30 (by decide) ?_
  refine lv_iload_n hx hb dX2_turnsRaised_31 rfl (lv_at hl 5 rfl) ?_
  obtain ⟨q32, e32, h⟩ := tB h
  refine rcI C hH hl.1 (mX2_outcome l 100 _ _ _ _ _ _ e32) cf_RX2_120 ro_19 (RR_of (by decide) (by decide)) rfl (rest := []) rfl (Nat.le_of_ble_eq_true rfl) dX2_turnsRaised_32 ?_
  intro hz32 H locs hH
  refine lv_istore (lv' := [(6, .int q32.1), (5, .int q17.1), (4, .int q6.1), (0, .ref (ad 19)), (1, .int v1), (2, .int v2), (3, .int v3)]) hx hb dX2_turnsRaised_35 hl (by decide) rfl (fun ls hl => ?_)
  refine lv_iload hx hb dX2_turnsRaised_37 (lv_at hl 0 rfl) ?_
  obtain ⟨q39, e39, h⟩ := tB h
  refine rsI C hH hl.1 (mX2_paid l e39) cs_RX2_124 (RR_of (by decide) (by decide)) rfl (rest := []) rfl (Nat.le_of_ble_eq_true rfl) dX2_turnsRaised_39 ?_
  intro hz39 H locs hH
  refine lv_iload hx hb dX2_turnsRaised_42 (lv_at hl 1 rfl) ?_
  obtain ⟨q44, e44, h⟩ := tB h
  refine rsI C hH hl.1 (mX2_paid l e44) cs_RX2_124 (RR_of (by decide) (by decide)) rfl (rest := [.int q39.1]) rfl (Nat.le_of_ble_eq_true rfl) dX2_turnsRaised_44 ?_
  intro hz44 H locs hH
  refine lv_icmp_le (tgt := 54) hx hb dX2_turnsRaised_47 (by decide) (fun hc47 => ?_) (fun hc47 => ?_)
  · replace h := tT hc47 h
    refine lv_iconst (v := 0) hx hb dX2_turnsRaised_54 (by decide) ?_
    have h := Option.some.inj h
    subst h
    exact retI C hH trivial dX2_turnsRaised_55
  · replace h := tF hc47 h
    refine lv_iconst (v := 1) hx hb dX2_turnsRaised_50 (by decide) ?_
    refine lv_goto (tgt := 55) hx hb dX2_turnsRaised_51 (by decide) ?_
    have h := Option.some.inj h
    subst h
    exact retI C hH trivial dX2_turnsRaised_55
set_option maxHeartbeats 2000000 in
set_option maxRecDepth 20000 in
theorem wX9_byTurns_25 (C : Cx D ca A p s m args meth c cX9_byTurns RX9 4 (some .int)) {q : Int32 × Mm} {mm : Mm} (h : DX9_byTurns_25 mm = some q) (hH : Hx WN ad ca WS D A s.heap mm H locs) (hl : lv_has ls 4 []) : W p l e (rmk 108) s m args below meth c H locs 0 0 (MQ below (QcI WN ad ca WS D A pzT q) args s 0 0 A) (F0 m 25 ls []) := by
  unfold DX9_byTurns_25 at h
  have hx := C.1
  have hb := C.2.1
  refine lv_iconst (v := (-1)) hx hb dX9_byTurns_25 (by decide) ?_
  have h := Option.some.inj h
  subst h
  exact retI C hH trivial dX9_byTurns_26
set_option maxHeartbeats 2000000 in
set_option maxRecDepth 20000 in
theorem mX9_byTurns (l : Launch) {D : va_G} {ca : Nat → ClassId} {A : Nat → Prop} {ad : Nat → Nat} {v1 : Int32} {v2 : Int32} {v3 : Int32} {mm : Mm} {q : Int32 × Mm} (h : dX9_byTurns v1 v2 v3 mm = some q) : Met l yX9_byTurns (wsOf yX9_byTurns cX9_byTurns 4 (some .int)) (rmk 108) (PcX WN ad ca WS D A [.ref (ad 0), .int v1, .int v2, .int v3] mm) (QcI WN ad ca WS D A pzT q) 0 0 A := by
  unfold dX9_byTurns at h
  refine ent (by decide) (Nat.le_of_ble_eq_true rfl) (fun p e s m args below meth c hargs C hH ls hl => ?_)
  have hx := C.1
  have hb := C.2.1
  have hl : lv_has ls 4 [(0, .ref (ad 0)), (1, .int v1), (2, .int v2), (3, .int v3)] := hl
  refine lv_aload_n hx hb dX9_byTurns_0 rfl (lv_at hl 0 rfl) ?_
  refine lv_iload_n hx hb dX9_byTurns_1 rfl (lv_at hl 1 rfl) ?_
  obtain ⟨q2, e2, h⟩ := tB h
  refine rcI C hH hl.1 (mX9_isBuyerAndSack l e2) cf_RX9_232 ro_0 (RR_of (by decide) (by decide)) rfl (rest := []) rfl (Nat.le_of_ble_eq_true rfl) dX9_byTurns_2 ?_
  intro hz2 H locs hH
  refine lv_if_eq (tgt := 25) hx hb dX9_byTurns_5 (by decide) (fun hc5 => ?_) (fun hc5 => ?_)
  · replace h := tT hc5 h
    exact wX9_byTurns_25 C h hH (lv_sub hl [] rfl)
  · replace h := tF hc5 h
    refine lv_iload_n hx hb dX9_byTurns_8 rfl (lv_at hl 2 rfl) ?_
    refine lv_iconst (v := 1) hx hb dX9_byTurns_9 (by decide) ?_
    refine lv_icmp_lt (tgt := 25) hx hb dX9_byTurns_10 (by decide) (fun hc10 => ?_) (fun hc10 => ?_)
    · replace h := tT hc10 h
      exact wX9_byTurns_25 C h hH (lv_sub hl [] rfl)
    · replace h := tF hc10 h
      refine lv_iload_n hx hb dX9_byTurns_13 rfl (lv_at hl 2 rfl) ?_
      refine lv_iconst (v := 4) hx hb dX9_byTurns_14 (by decide) ?_
      refine lv_icmp_gt (tgt := 25) hx hb dX9_byTurns_15 (by decide) (fun hc15 => ?_) (fun hc15 => ?_)
      · replace h := tT hc15 h
        exact wX9_byTurns_25 C h hH (lv_sub hl [] rfl)
      · replace h := tF hc15 h
        refine lv_iload_n hx hb dX9_byTurns_18 rfl (lv_at hl 3 rfl) ?_
        obtain ⟨q19, e19, h⟩ := tB h
        refine rsI C hH hl.1 (mX9_isPart l e19) cs_RX9_130 (RR_of (by decide) (by decide)) rfl (rest := []) rfl (Nat.le_of_ble_eq_true rfl) dX9_byTurns_19 ?_
        intro hz19 H locs hH
        refine lv_if_ne (tgt := 27) hx hb dX9_byTurns_22 (by decide) (fun hc22 => ?_) (fun hc22 => ?_)
        · replace h := tF hc22 h
          refine lv_aload_n hx hb dX9_byTurns_27 rfl (lv_at hl 0 rfl) ?_
          refine rgS C hH fs_RX9_10_0 dX9_byTurns_28 ?_
          refine lv_iload_n hx hb dX9_byTurns_31 rfl (lv_at hl 1 rfl) ?_
          refine lv_bipush (v := 10) hx hb dX9_byTurns_32 (by decide) ?_
          refine lv_irem' hx hb dX9_byTurns_34 (by decide) ?_
          obtain ⟨q35, e35, h⟩ := tB h
          refine rcI C hH hl.1 (mX7_isFree l e35) cf_RX9_235 ro_1 (RR_of (by decide) (by decide)) rfl (rest := []) rfl (Nat.le_of_ble_eq_true rfl) dX9_byTurns_35 ?_
          intro hz35 H locs hH
          refine lv_if_ne (tgt := 44) hx hb dX9_byTurns_38 (by decide) (fun hc38 => ?_) (fun hc38 => ?_)
          · replace h := tF hc38 h
            refine lv_iload_n hx hb dX9_byTurns_44 rfl (lv_at hl 3 rfl) ?_
            refine lv_if_ne (tgt := 67) hx hb dX9_byTurns_45 (by decide) (fun hc45 => ?_) (fun hc45 => ?_)
            · replace h := tF hc45 h
              refine lv_aload_n hx hb dX9_byTurns_67 rfl (lv_at hl 0 rfl) ?_
              refine rgS C hH fs_RX9_35_0 dX9_byTurns_68 ?_
              refine lv_iload_n hx hb dX9_byTurns_71 rfl (lv_at hl 1 rfl) ?_
              refine lv_bipush (v := 10) hx hb dX9_byTurns_72 (by decide) ?_
              refine lv_idiv hx hb dX9_byTurns_74 (by decide) ?_
              refine lv_iload_n hx hb dX9_byTurns_75 rfl (lv_at hl 1 rfl) ?_
              refine lv_bipush (v := 10) hx hb dX9_byTurns_76 (by decide) ?_
              refine lv_irem' hx hb dX9_byTurns_78 (by decide) ?_
              refine lv_iload_n hx hb dX9_byTurns_79 rfl (lv_at hl 2 rfl) ?_
              obtain ⟨q80, e80, h⟩ := tB h
              refine rcI C hH hl.1 (mX2_turnsRaised l e80) cf_RX9_241 ro_19 (RR_of (by decide) (by decide)) rfl (rest := []) rfl (Nat.le_of_ble_eq_true rfl) dX9_byTurns_80 ?_
              intro hz80 H locs hH
              have h := Option.some.inj h
              subst h
              exact retI C hH trivial dX9_byTurns_83
            · replace h := tT hc45 h
              refine lv_aload_n hx hb dX9_byTurns_48 rfl (lv_at hl 0 rfl) ?_
              refine rgS C hH fs_RX9_35_0 dX9_byTurns_49 ?_
              refine lv_iload_n hx hb dX9_byTurns_52 rfl (lv_at hl 1 rfl) ?_
              refine lv_bipush (v := 10) hx hb dX9_byTurns_53 (by decide) ?_
              refine lv_idiv hx hb dX9_byTurns_55 (by decide) ?_
              refine lv_iload_n hx hb dX9_byTurns_56 rfl (lv_at hl 1 rfl) ?_
              refine lv_bipush (v := 10) hx hb dX9_byTurns_57 (by decide) ?_
              refine lv_irem' hx hb dX9_byTurns_59 (by decide) ?_
              refine lv_iload_n hx hb dX9_byTurns_60 rfl (lv_at hl 2 rfl) ?_
              obtain ⟨q61, e61, h⟩ := tB h
              refine rcI C hH hl.1 (mX2_turnsPaid l e61) cf_RX9_238 ro_19 (RR_of (by decide) (by decide)) rfl (rest := []) rfl (Nat.le_of_ble_eq_true rfl) dX9_byTurns_61 ?_
              intro hz61 H locs hH
              refine lv_goto (tgt := 83) hx hb dX9_byTurns_64 (by decide) ?_
              have h := Option.some.inj h
              subst h
              exact retI C hH trivial dX9_byTurns_83
          · replace h := tT hc38 h
            refine lv_bipush (v := (-5)) hx hb dX9_byTurns_41 (by decide) ?_
            have h := Option.some.inj h
            subst h
            exact retI C hH trivial dX9_byTurns_43
        · replace h := tT hc22 h
          exact wX9_byTurns_25 C h hH (lv_sub hl [] rfl)
set_option maxHeartbeats 2000000 in
set_option maxRecDepth 20000 in
theorem mX10_movedBy (l : Launch) {D : va_G} {ca : Nat → ClassId} {A : Nat → Prop} {ad : Nat → Nat} {v0 : Int32} {v1 : Int32} {mm : Mm} {q : Int32 × Mm} (h : dX10_movedBy v0 v1 mm = some q) : Met l yX10_movedBy (wsOf yX10_movedBy cX10_movedBy 2 (some .int)) (rmk 1) (PcX WN ad ca WS D A [.int v0, .int v1] mm) (QcI WN ad ca WS D A pzT q) 0 0 A := by
  unfold dX10_movedBy at h
  refine ent (by decide) (Nat.le_of_ble_eq_true rfl) (fun p e s m args below meth c hargs C hH ls hl => ?_)
  have hx := C.1
  have hb := C.2.1
  have hl : lv_has ls 2 [(0, .int v0), (1, .int v1)] := hl
  refine lv_iload_n hx hb dX10_movedBy_0 rfl (lv_at hl 0 rfl) ?_
  refine lv_iconst (v := 2) hx hb dX10_movedBy_1 (by decide) ?_
  refine lv_irem' hx hb dX10_movedBy_2 (by decide) ?_
  refine lv_if_ne (tgt := 27) hx hb dX10_movedBy_3 (by decide) (fun hc3 => ?_) (fun hc3 => ?_)
  · replace h := tF hc3 h
    refine lv_iload_n hx hb dX10_movedBy_27 rfl (lv_at hl 1 rfl) ?_
    refine lv_bipush (v := 10) hx hb dX10_movedBy_28 (by decide) ?_
    refine lv_icmp_ge (tgt := 37) hx hb dX10_movedBy_30 (by decide) (fun hc30 => ?_) (fun hc30 => ?_)
    · replace h := tT hc30 h
      refine lv_iload_n hx hb dX10_movedBy_37 rfl (lv_at hl 1 rfl) ?_
      refine lv_bipush (v := 10) hx hb dX10_movedBy_38 (by decide) ?_
      refine lv_isub hx hb dX10_movedBy_40 ?_
      have h := Option.some.inj h
      subst h
      exact retI C hH trivial dX10_movedBy_41
    · replace h := tF hc30 h
      refine lv_iconst (v := 0) hx hb dX10_movedBy_33 (by decide) ?_
      refine lv_goto (tgt := 41) hx hb dX10_movedBy_34 (by decide) ?_
      have h := Option.some.inj h
      subst h
      exact retI C hH trivial dX10_movedBy_41
  · replace h := tT hc3 h
    refine lv_iload_n hx hb dX10_movedBy_6 rfl (lv_at hl 1 rfl) ?_
    refine lv_bipush (v := 10) hx hb dX10_movedBy_7 (by decide) ?_
    refine lv_iadd hx hb dX10_movedBy_9 ?_
    refine lv_bipush (v := 99) hx hb dX10_movedBy_10 (by decide) ?_
    refine lv_icmp_le (tgt := 20) hx hb dX10_movedBy_12 (by decide) (fun hc12 => ?_) (fun hc12 => ?_)
    · replace h := tT hc12 h
      refine lv_iload_n hx hb dX10_movedBy_20 rfl (lv_at hl 1 rfl) ?_
      refine lv_bipush (v := 10) hx hb dX10_movedBy_21 (by decide) ?_
      refine lv_iadd hx hb dX10_movedBy_23 ?_
      refine lv_goto (tgt := 41) hx hb dX10_movedBy_24 (by decide) ?_
      have h := Option.some.inj h
      subst h
      exact retI C hH trivial dX10_movedBy_41
    · replace h := tF hc12 h
      refine lv_bipush (v := 99) hx hb dX10_movedBy_15 (by decide) ?_
      refine lv_goto (tgt := 41) hx hb dX10_movedBy_17 (by decide) ?_
      have h := Option.some.inj h
      subst h
      exact retI C hH trivial dX10_movedBy_41
set_option maxHeartbeats 2000000 in
set_option maxRecDepth 20000 in
theorem wX10_paidAt_46 (C : Cx D ca A p s m args meth c cX10_paidAt RX10 6 (some .int)) {q : Int32 × Mm} {mm : Mm} (h : DX10_paidAt_46 mm = some q) (hH : Hx WN ad ca WS D A s.heap mm H locs) (hl : lv_has ls 6 []) : W p l e (rmk 107) s m args below meth c H locs 0 0 (MQ below (QcI WN ad ca WS D A pzT q) args s 0 0 A) (F0 m 46 ls []) := by
  unfold DX10_paidAt_46 at h
  have hx := C.1
  have hb := C.2.1
  refine lv_iconst (v := (-1)) hx hb dX10_paidAt_46 (by decide) ?_
  have h := Option.some.inj h
  subst h
  exact retI C hH trivial dX10_paidAt_47
set_option maxHeartbeats 2000000 in
set_option maxRecDepth 20000 in
theorem mX10_paidAt (l : Launch) {D : va_G} {ca : Nat → ClassId} {A : Nat → Prop} {ad : Nat → Nat} {v1 : Int32} {v2 : Int32} {v3 : Int32} {mm : Mm} {q : Int32 × Mm} (h : dX10_paidAt v1 v2 v3 mm = some q) : Met l yX10_paidAt (wsOf yX10_paidAt cX10_paidAt 6 (some .int)) (rmk 107) (PcX WN ad ca WS D A [.ref (ad 58), .int v1, .int v2, .int v3] mm) (QcI WN ad ca WS D A pzT q) 0 0 A := by
  unfold dX10_paidAt at h
  refine ent (by decide) (Nat.le_of_ble_eq_true rfl) (fun p e s m args below meth c hargs C hH ls hl => ?_)
  have hx := C.1
  have hb := C.2.1
  have hl : lv_has ls 6 [(0, .ref (ad 58)), (1, .int v1), (2, .int v2), (3, .int v3)] := hl
  refine lv_aload_n hx hb dX10_paidAt_0 rfl (lv_at hl 0 rfl) ?_
  refine lv_iconst (v := (-1)) hx hb dX10_paidAt_1 (by decide) ?_
  refine lv_iload_n hx hb dX10_paidAt_2 rfl (lv_at hl 1 rfl) ?_
  refine lv_iload_n hx hb dX10_paidAt_3 rfl (lv_at hl 2 rfl) ?_
  obtain ⟨q4, e4, h⟩ := tB h
  refine rcV C hH hl.1 (mX10_weighs l e4) cf_RX10_227 ro_58 (RR_of (by decide) (by decide)) rfl (rest := []) rfl (Nat.le_of_ble_eq_true rfl) dX10_paidAt_4 ?_
  intro H locs hH
  refine lv_aload_n hx hb dX10_paidAt_7 rfl (lv_at hl 0 rfl) ?_
  refine lv_iload_n hx hb dX10_paidAt_8 rfl (lv_at hl 1 rfl) ?_
  refine lv_iload_n hx hb dX10_paidAt_9 rfl (lv_at hl 2 rfl) ?_
  refine lv_iload_n hx hb dX10_paidAt_10 rfl (lv_at hl 3 rfl) ?_
  obtain ⟨q11, e11, h⟩ := tB h
  refine rcL C hH hl.1 (mX10_worthAll l e11) cf_RX10_242 ro_58 (RR_of (by decide) (by decide)) rfl (rest := []) rfl (Nat.le_of_ble_eq_true rfl) dX10_paidAt_11 ?_
  intro H locs hH
  refine lv_aload_n hx hb dX10_paidAt_14 rfl (lv_at hl 0 rfl) ?_
  obtain ⟨q15, e15, h⟩ := tB h
  refine rcL C hH hl.1 (mX10_weightAll l e15) cf_RX10_231 ro_58 (RR_of (by decide) (by decide)) rfl (rest := [.long q11.1]) rfl (Nat.le_of_ble_eq_true rfl) dX10_paidAt_15 ?_
  intro H locs hH
  obtain ⟨hz18, h⟩ := tN h
  refine lv_ldiv hx hb dX10_paidAt_18 hz18 ?_
  refine lv_lstore (lv' := [(4, .long (q11.1 / q15.1)), (0, .ref (ad 58)), (1, .int v1), (2, .int v2), (3, .int v3)]) hx hb dX10_paidAt_19 hl (by decide) rfl (fun ls hl => ?_)
  refine lv_lload hx hb dX10_paidAt_21 (lv_at hl 0 rfl) ?_
  refine lv_iload_n hx hb dX10_paidAt_23 rfl (lv_at hl 4 rfl) ?_
  refine lv_i2l' hx hb dX10_paidAt_24 ?_
  refine lc_lt (tgt := 46) hx hb dX10_paidAt_25 dX10_paidAt_26 (by decide) (fun hc26 => ?_) (fun hc26 => ?_)
  · replace h := tT hc26 h
    exact wX10_paidAt_46 C h hH (lv_sub hl [] rfl)
  · replace h := tF hc26 h
    refine lv_aload_n hx hb dX10_paidAt_29 rfl (lv_at hl 1 rfl) ?_
    refine rgS C hH fs_RX10_9_58 dX10_paidAt_30 ?_
    refine lv_bipush (v := 44) hx hb dX10_paidAt_33 (by decide) ?_
    refine lv_iload_n hx hb dX10_paidAt_35 rfl (lv_at hl 2 rfl) ?_
    refine lv_iadd hx hb dX10_paidAt_36 ?_
    obtain ⟨hi37, h⟩ := tC h
    refine raI C hH (k := (Int32.toNatClampNeg (44 + v1))) (by decide) (show WS 59 = .inr (0, 62, 0) from rfl) hi37 rfl dX10_paidAt_37 ?_
    refine lv_iload_n hx hb dX10_paidAt_38 rfl (lv_at hl 4 rfl) ?_
    refine lv_icmp_lt (tgt := 46) hx hb dX10_paidAt_39 (by decide) (fun hc39 => ?_) (fun hc39 => ?_)
    · replace h := tT hc39 h
      exact wX10_paidAt_46 C h hH (lv_sub hl [] rfl)
    · replace h := tF hc39 h
      refine lv_iload_n hx hb dX10_paidAt_42 rfl (lv_at hl 4 rfl) ?_
      refine lv_goto (tgt := 47) hx hb dX10_paidAt_43 (by decide) ?_
      have h := Option.some.inj h
      subst h
      exact retI C hH trivial dX10_paidAt_47
set_option maxHeartbeats 2000000 in
set_option maxRecDepth 20000 in
theorem mX10_hasOf (l : Launch) {D : va_G} {ca : Nat → ClassId} {A : Nat → Prop} {ad : Nat → Nat} {v1 : Int32} {v2 : Int32} {v3 : Int32} {v4 : Int32} {mm : Mm} {q : Int64 × Mm} (h : dX10_hasOf v1 v2 v3 v4 mm = some q) : Met l yX10_hasOf (wsOf yX10_hasOf cX10_hasOf 6 (some .long)) (rmk 108) (PcX WN ad ca WS D A [.ref (ad 58), .int v1, .int v2, .int v3, .int v4] mm) (QcL WN ad ca WS D A q) 0 0 A := by
  unfold dX10_hasOf at h
  refine ent (by decide) (Nat.le_of_ble_eq_true rfl) (fun p e s m args below meth c hargs C hH ls hl => ?_)
  have hx := C.1
  have hb := C.2.1
  have hl : lv_has ls 6 [(0, .ref (ad 58)), (1, .int v1), (2, .int v2), (3, .int v3), (4, .int v4)] := hl
  refine lv_aload_n hx hb dX10_hasOf_0 rfl (lv_at hl 0 rfl) ?_
  refine lv_iload_n hx hb dX10_hasOf_1 rfl (lv_at hl 1 rfl) ?_
  refine lv_iload_n hx hb dX10_hasOf_2 rfl (lv_at hl 2 rfl) ?_
  refine lv_iload hx hb dX10_hasOf_3 (lv_at hl 4 rfl) ?_
  obtain ⟨q5, e5, h⟩ := tB h
  refine rcI C hH hl.1 (mX10_paidAt l e5) cf_RX10_290 ro_58 (RR_of (by decide) (by decide)) rfl (rest := []) rfl (Nat.le_of_ble_eq_true rfl) dX10_hasOf_5 ?_
  intro hz5 H locs hH
  refine lv_istore (lv' := [(5, .int q5.1), (0, .ref (ad 58)), (1, .int v1), (2, .int v2), (3, .int v3), (4, .int v4)]) hx hb dX10_hasOf_8 hl (by decide) rfl (fun ls hl => ?_)
  refine lv_iload_n hx hb dX10_hasOf_10 rfl (lv_at hl 4 rfl) ?_
  refine lv_iconst (v := 2) hx hb dX10_hasOf_11 (by decide) ?_
  refine lv_irem' hx hb dX10_hasOf_12 (by decide) ?_
  refine lv_if_ne (tgt := 29) hx hb dX10_hasOf_13 (by decide) (fun hc13 => ?_) (fun hc13 => ?_)
  · replace h := tF hc13 h
    refine lv_iload hx hb dX10_hasOf_29 (lv_at hl 0 rfl) ?_
    refine lv_if_ge (tgt := 38) hx hb dX10_hasOf_31 (by decide) (fun hc31 => ?_) (fun hc31 => ?_)
    · replace h := tT hc31 h
      refine lv_aload_n hx hb dX10_hasOf_38 rfl (lv_at hl 1 rfl) ?_
      refine lv_iload_n hx hb dX10_hasOf_39 rfl (lv_at hl 2 rfl) ?_
      refine lv_iload_n hx hb dX10_hasOf_40 rfl (lv_at hl 3 rfl) ?_
      refine lv_iload hx hb dX10_hasOf_41 (lv_at hl 5 rfl) ?_
      obtain ⟨q43, e43, h⟩ := tB h
      refine rcL C hH hl.1 (mX10_worthAll l e43) cf_RX10_242 ro_58 (RR_of (by decide) (by decide)) rfl (rest := []) rfl (Nat.le_of_ble_eq_true rfl) dX10_hasOf_43 ?_
      intro H locs hH
      refine lv_aload_n hx hb dX10_hasOf_46 rfl (lv_at hl 1 rfl) ?_
      obtain ⟨q47, e47, h⟩ := tB h
      refine rcL C hH hl.1 (mX10_weightAll l e47) cf_RX10_231 ro_58 (RR_of (by decide) (by decide)) rfl (rest := [.long q43.1]) rfl (Nat.le_of_ble_eq_true rfl) dX10_hasOf_47 ?_
      intro H locs hH
      obtain ⟨hz50, h⟩ := tN h
      refine lv_ldiv hx hb dX10_hasOf_50 hz50 ?_
      refine lv_iload hx hb dX10_hasOf_51 (lv_at hl 0 rfl) ?_
      refine lv_i2l' hx hb dX10_hasOf_53 ?_
      refine lv_lsub hx hb dX10_hasOf_54 ?_
      have h := Option.some.inj h
      subst h
      exact retL C hH dX10_hasOf_55
    · replace h := tF hc31 h
      refine lv_lconst (v := 0) hx hb dX10_hasOf_34 (by decide) ?_
      refine lv_goto (tgt := 55) hx hb dX10_hasOf_35 (by decide) ?_
      have h := Option.some.inj h
      subst h
      exact retL C hH dX10_hasOf_55
  · replace h := tT hc13 h
    refine lv_iload hx hb dX10_hasOf_16 (lv_at hl 0 rfl) ?_
    refine lv_if_ge (tgt := 25) hx hb dX10_hasOf_18 (by decide) (fun hc18 => ?_) (fun hc18 => ?_)
    · replace h := tT hc18 h
      refine lv_iload hx hb dX10_hasOf_25 (lv_at hl 0 rfl) ?_
      refine lv_i2l' hx hb dX10_hasOf_27 ?_
      have h := Option.some.inj h
      subst h
      exact retL C hH dX10_hasOf_28
    · replace h := tF hc18 h
      refine lv_lconst (v := 0) hx hb dX10_hasOf_21 (by decide) ?_
      refine lv_goto (tgt := 28) hx hb dX10_hasOf_22 (by decide) ?_
      have h := Option.some.inj h
      subst h
      exact retL C hH dX10_hasOf_28
set_option maxHeartbeats 2000000 in
set_option maxRecDepth 20000 in
theorem mbX10_askedFrom (l : Launch) {D : va_G} {ca : Nat → ClassId} {A : Nat → Prop} {ad : Nat → Nat} {lev : Nat} (hlev : 109 ≤ lev + 1) {r_X10_askedFrom : Int32 → Int32 → Int32 → Int32 → Int32 → Mm → Option (Int32 × Mm)} (hr_X10_askedFrom : ∀ (v1 : Int32) (v2 : Int32) (v3 : Int32) (v4 : Int32) (v5 : Int32) (mm : Mm) (q : Int32 × Mm), r_X10_askedFrom v1 v2 v3 v4 v5 mm = some q → Met l yX10_askedFrom (wsOf yX10_askedFrom cX10_askedFrom 8 (some .int)) (rmk lev) (PcX WN ad ca WS D A [.ref (ad 58), .int v1, .int v2, .int v3, .int v4, .int v5] mm) (QcI WN ad ca WS D A pzT q) 0 0 A) {v1 : Int32} {v2 : Int32} {v3 : Int32} {v4 : Int32} {v5 : Int32} {mm : Mm} {q : Int32 × Mm} (h : bX10_askedFrom r_X10_askedFrom v1 v2 v3 v4 v5 mm = some q) : Met l yX10_askedFrom (wsOf yX10_askedFrom cX10_askedFrom 8 (some .int)) (rmk (lev + 1)) (PcX WN ad ca WS D A [.ref (ad 58), .int v1, .int v2, .int v3, .int v4, .int v5] mm) (QcI WN ad ca WS D A pzT q) 0 0 A := by
  unfold bX10_askedFrom at h
  refine ent (by decide) (Nat.le_of_ble_eq_true rfl) (fun p e s m args below meth c hargs C hH ls hl => ?_)
  have hx := C.1
  have hb := C.2.1
  have hl : lv_has ls 8 [(0, .ref (ad 58)), (1, .int v1), (2, .int v2), (3, .int v3), (4, .int v4), (5, .int v5)] := hl
  refine lv_iload_n hx hb dX10_askedFrom_0 rfl (lv_at hl 3 rfl) ?_
  refine lv_iload hx hb dX10_askedFrom_1 (lv_at hl 4 rfl) ?_
  refine lv_icmp_ne (tgt := 9) hx hb dX10_askedFrom_3 (by decide) (fun hc3 => ?_) (fun hc3 => ?_)
  · replace h := tF hc3 h
    refine lv_aload_n hx hb dX10_askedFrom_9 rfl (lv_at hl 0 rfl) ?_
    refine lv_iload_n hx hb dX10_askedFrom_10 rfl (lv_at hl 1 rfl) ?_
    refine lv_iload_n hx hb dX10_askedFrom_11 rfl (lv_at hl 2 rfl) ?_
    refine lv_iload_n hx hb dX10_askedFrom_12 rfl (lv_at hl 3 rfl) ?_
    refine lv_iconst (v := 1) hx hb dX10_askedFrom_13 (by decide) ?_
    refine lv_iadd hx hb dX10_askedFrom_14 ?_
    refine lv_iload hx hb dX10_askedFrom_15 (lv_at hl 4 rfl) ?_
    refine lv_iload hx hb dX10_askedFrom_17 (lv_at hl 5 rfl) ?_
    obtain ⟨q19, e19, h⟩ := tB h
    refine rcI C hH hl.1 (hr_X10_askedFrom _ _ _ _ _ _ _ e19) cf_RX10_279 ro_58 (RR_of (by omega) (by decide)) rfl (rest := []) rfl (Nat.le_of_ble_eq_true rfl) dX10_askedFrom_19 ?_
    intro hz19 H locs hH
    refine lv_istore (lv' := [(6, .int q19.1), (0, .ref (ad 58)), (1, .int v1), (2, .int v2), (3, .int v3), (4, .int v4), (5, .int v5)]) hx hb dX10_askedFrom_22 hl (by decide) rfl (fun ls hl => ?_)
    refine lv_aload_n hx hb dX10_askedFrom_24 rfl (lv_at hl 1 rfl) ?_
    refine lv_iload_n hx hb dX10_askedFrom_25 rfl (lv_at hl 2 rfl) ?_
    refine lv_iload_n hx hb dX10_askedFrom_26 rfl (lv_at hl 3 rfl) ?_
    refine lv_iload_n hx hb dX10_askedFrom_27 rfl (lv_at hl 4 rfl) ?_
    refine lv_iconst (v := 1) hx hb dX10_askedFrom_28 (by decide) ?_
    refine lv_iadd hx hb dX10_askedFrom_29 ?_
    refine lv_iload hx hb dX10_askedFrom_30 (lv_at hl 5 rfl) ?_
    refine lv_iload_n hx hb dX10_askedFrom_32 rfl (lv_at hl 4 rfl) ?_
    refine lv_iload hx hb dX10_askedFrom_33 (lv_at hl 6 rfl) ?_
    obtain ⟨q35, e35, h⟩ := tB h
    refine rsI C hH hl.1 (mX10_movedBy l e35) cs_RX10_283 (RR_of (by omega) (by decide)) rfl (rest := [.int v4, .int (v3 + 1), .int v2, .int v1, .ref (ad 58)]) rfl (Nat.le_of_ble_eq_true rfl) dX10_askedFrom_35 ?_
    intro hz35 H locs hH
    obtain ⟨q38, e38, h⟩ := tB h
    refine rcI C hH hl.1 (hr_X10_askedFrom _ _ _ _ _ _ _ e38) cf_RX10_279 ro_58 (RR_of (by omega) (by decide)) rfl (rest := []) rfl (Nat.le_of_ble_eq_true rfl) dX10_askedFrom_38 ?_
    intro hz38 H locs hH
    refine lv_istore (lv' := [(7, .int q38.1), (6, .int q19.1), (0, .ref (ad 58)), (1, .int v1), (2, .int v2), (3, .int v3), (4, .int v4), (5, .int v5)]) hx hb dX10_askedFrom_41 hl (by decide) rfl (fun ls hl => ?_)
    refine lv_aload_n hx hb dX10_askedFrom_43 rfl (lv_at hl 2 rfl) ?_
    refine lv_iload_n hx hb dX10_askedFrom_44 rfl (lv_at hl 3 rfl) ?_
    refine lv_iload_n hx hb dX10_askedFrom_45 rfl (lv_at hl 4 rfl) ?_
    refine lv_iload_n hx hb dX10_askedFrom_46 rfl (lv_at hl 5 rfl) ?_
    refine lv_iload hx hb dX10_askedFrom_47 (lv_at hl 0 rfl) ?_
    obtain ⟨q49, e49, h⟩ := tB h
    refine rcL C hH hl.1 (mX10_hasOf l e49) cf_RX10_286 ro_58 (RR_of (by omega) (by decide)) rfl (rest := []) rfl (Nat.le_of_ble_eq_true rfl) dX10_askedFrom_49 ?_
    intro H locs hH
    refine lv_aload_n hx hb dX10_askedFrom_52 rfl (lv_at hl 2 rfl) ?_
    refine lv_iload_n hx hb dX10_askedFrom_53 rfl (lv_at hl 3 rfl) ?_
    refine lv_iload_n hx hb dX10_askedFrom_54 rfl (lv_at hl 4 rfl) ?_
    refine lv_iload_n hx hb dX10_askedFrom_55 rfl (lv_at hl 5 rfl) ?_
    refine lv_iload hx hb dX10_askedFrom_56 (lv_at hl 1 rfl) ?_
    obtain ⟨q58, e58, h⟩ := tB h
    refine rcL C hH hl.1 (mX10_hasOf l e58) cf_RX10_286 ro_58 (RR_of (by omega) (by decide)) rfl (rest := [.long q49.1]) rfl (Nat.le_of_ble_eq_true rfl) dX10_askedFrom_58 ?_
    intro H locs hH
    refine lc_le (tgt := 70) hx hb dX10_askedFrom_61 dX10_askedFrom_62 (by decide) (fun hc62 => ?_) (fun hc62 => ?_)
    · replace h := tT hc62 h
      refine lv_iload hx hb dX10_askedFrom_70 (lv_at hl 1 rfl) ?_
      have h := Option.some.inj h
      subst h
      exact retI C hH trivial dX10_askedFrom_72
    · replace h := tF hc62 h
      refine lv_iload hx hb dX10_askedFrom_65 (lv_at hl 0 rfl) ?_
      refine lv_goto (tgt := 72) hx hb dX10_askedFrom_67 (by decide) ?_
      have h := Option.some.inj h
      subst h
      exact retI C hH trivial dX10_askedFrom_72
  · replace h := tT hc3 h
    refine lv_iload hx hb dX10_askedFrom_6 (lv_at hl 5 rfl) ?_
    have h := Option.some.inj h
    subst h
    exact retI C hH trivial dX10_askedFrom_8
set_option maxHeartbeats 2000000 in
set_option maxRecDepth 20000 in
theorem mgX10_askedFrom (l : Launch) {D : va_G} {ca : Nat → ClassId} {A : Nat → Prop} {ad : Nat → Nat} : ∀ n : Nat, (∀ (v1 : Int32) (v2 : Int32) (v3 : Int32) (v4 : Int32) (v5 : Int32) (mm : Mm) (q : Int32 × Mm), dX10_askedFrom n v1 v2 v3 v4 v5 mm = some q → Met l yX10_askedFrom (wsOf yX10_askedFrom cX10_askedFrom 8 (some .int)) (rmk (109 + n)) (PcX WN ad ca WS D A [.ref (ad 58), .int v1, .int v2, .int v3, .int v4, .int v5] mm) (QcI WN ad ca WS D A pzT q) 0 0 A) := by
  intro n
  induction n with
  | zero => exact (fun v1 v2 v3 v4 v5 mm q h => none_ne (show (none : Option (Int32 × Mm)) = some q from h))
  | succ n ih => exact (fun v1 v2 v3 v4 v5 mm q h => mbX10_askedFrom l (by omega) ih h)
set_option maxHeartbeats 2000000 in
set_option maxRecDepth 20000 in
theorem mX10_askedFrom (l : Launch) {D : va_G} {ca : Nat → ClassId} {A : Nat → Prop} {ad : Nat → Nat} (n : Nat) (v1 : Int32) (v2 : Int32) (v3 : Int32) (v4 : Int32) (v5 : Int32) (mm : Mm) (q : Int32 × Mm) (h : dX10_askedFrom n v1 v2 v3 v4 v5 mm = some q) : Met l yX10_askedFrom (wsOf yX10_askedFrom cX10_askedFrom 8 (some .int)) (rmk (109 + n)) (PcX WN ad ca WS D A [.ref (ad 58), .int v1, .int v2, .int v3, .int v4, .int v5] mm) (QcI WN ad ca WS D A pzT q) 0 0 A := (mgX10_askedFrom l n) v1 v2 v3 v4 v5 mm q h
set_option maxHeartbeats 2000000 in
set_option maxRecDepth 20000 in
theorem wX10_byTurns_30 (C : Cx D ca A p s m args meth c cX10_byTurns RX10 9 (some .int)) {q : Int32 × Mm} {mm : Mm} (h : DX10_byTurns_30 mm = some q) (hH : Hx WN ad ca WS D A s.heap mm H locs) (hl : lv_has ls 9 []) : W p l e (rmk 210) s m args below meth c H locs 0 0 (MQ below (QcI WN ad ca WS D A pzT q) args s 0 0 A) (F0 m 30 ls []) := by
  unfold DX10_byTurns_30 at h
  have hx := C.1
  have hb := C.2.1
  refine lv_iconst (v := (-1)) hx hb dX10_byTurns_30 (by decide) ?_
  have h := Option.some.inj h
  subst h
  exact retI C hH trivial dX10_byTurns_31
set_option maxHeartbeats 2000000 in
set_option maxRecDepth 20000 in
theorem mX10_byTurns (l : Launch) {D : va_G} {ca : Nat → ClassId} {A : Nat → Prop} {ad : Nat → Nat} {v1 : Int32} {v2 : Int32} {v3 : Int32} {mm : Mm} {q : Int32 × Mm} (h : dX10_byTurns v1 v2 v3 mm = some q) : Met l yX10_byTurns (wsOf yX10_byTurns cX10_byTurns 9 (some .int)) (rmk 210) (PcX WN ad ca WS D A [.ref (ad 58), .int v1, .int v2, .int v3] mm) (QcI WN ad ca WS D A pzT q) 0 0 A := by
  unfold dX10_byTurns at h
  refine ent (by decide) (Nat.le_of_ble_eq_true rfl) (fun p e s m args below meth c hargs C hH ls hl => ?_)
  have hx := C.1
  have hb := C.2.1
  have hl : lv_has ls 9 [(0, .ref (ad 58)), (1, .int v1), (2, .int v2), (3, .int v3)] := hl
  refine lv_aload_n hx hb dX10_byTurns_0 rfl (lv_at hl 0 rfl) ?_
  refine lv_iload_n hx hb dX10_byTurns_1 rfl (lv_at hl 1 rfl) ?_
  obtain ⟨q2, e2, h⟩ := tB h
  refine rcI C hH hl.1 (mX10_isBs l e2) cf_RX10_220 ro_58 (RR_of (by decide) (by decide)) rfl (rest := []) rfl (Nat.le_of_ble_eq_true rfl) dX10_byTurns_2 ?_
  intro hz2 H locs hH
  refine lv_if_eq (tgt := 30) hx hb dX10_byTurns_5 (by decide) (fun hc5 => ?_) (fun hc5 => ?_)
  · replace h := tT hc5 h
    exact wX10_byTurns_30 C h hH (lv_sub hl [] rfl)
  · replace h := tF hc5 h
    refine lv_iload_n hx hb dX10_byTurns_8 rfl (lv_at hl 2 rfl) ?_
    refine lv_i2l' hx hb dX10_byTurns_9 ?_
    refine lv_lconst (v := 1) hx hb dX10_byTurns_10 (by decide) ?_
    refine rldc2 C (v := 4) k_RX10_128 dX10_byTurns_11 ?_
    obtain ⟨q14, e14, h⟩ := tB h
    refine rsI C hH hl.1 (mX10_within l e14) cs_RX10_96 (RR_of (by decide) (by decide)) rfl (rest := []) rfl (Nat.le_of_ble_eq_true rfl) dX10_byTurns_14 ?_
    intro hz14 H locs hH
    refine lv_if_eq (tgt := 30) hx hb dX10_byTurns_17 (by decide) (fun hc17 => ?_) (fun hc17 => ?_)
    · replace h := tT hc17 h
      exact wX10_byTurns_30 C h hH (lv_sub hl [] rfl)
    · replace h := tF hc17 h
      refine lv_iload_n hx hb dX10_byTurns_20 rfl (lv_at hl 3 rfl) ?_
      refine lv_i2l' hx hb dX10_byTurns_21 ?_
      refine lv_lconst (v := 0) hx hb dX10_byTurns_22 (by decide) ?_
      refine lv_lconst (v := 1) hx hb dX10_byTurns_23 (by decide) ?_
      obtain ⟨q24, e24, h⟩ := tB h
      refine rsI C hH hl.1 (mX10_within l e24) cs_RX10_96 (RR_of (by decide) (by decide)) rfl (rest := []) rfl (Nat.le_of_ble_eq_true rfl) dX10_byTurns_24 ?_
      intro hz24 H locs hH
      refine lv_if_ne (tgt := 32) hx hb dX10_byTurns_27 (by decide) (fun hc27 => ?_) (fun hc27 => ?_)
      · replace h := tF hc27 h
        refine lv_iload_n hx hb dX10_byTurns_32 rfl (lv_at hl 1 rfl) ?_
        refine lv_bipush (v := 10) hx hb dX10_byTurns_33 (by decide) ?_
        refine lv_idiv hx hb dX10_byTurns_35 (by decide) ?_
        refine lv_istore (lv' := [(4, .int (v1 / 10)), (0, .ref (ad 58)), (1, .int v1), (2, .int v2), (3, .int v3)]) hx hb dX10_byTurns_36 hl (by decide) rfl (fun ls hl => ?_)
        refine lv_iload_n hx hb dX10_byTurns_38 rfl (lv_at hl 2 rfl) ?_
        refine lv_bipush (v := 10) hx hb dX10_byTurns_39 (by decide) ?_
        refine lv_irem' hx hb dX10_byTurns_41 (by decide) ?_
        refine lv_istore (lv' := [(5, .int (iRem v1 10)), (4, .int (v1 / 10)), (0, .ref (ad 58)), (1, .int v1), (2, .int v2), (3, .int v3)]) hx hb dX10_byTurns_42 hl (by decide) rfl (fun ls hl => ?_)
        refine lv_aload_n hx hb dX10_byTurns_44 rfl (lv_at hl 2 rfl) ?_
        refine lv_iload hx hb dX10_byTurns_45 (lv_at hl 0 rfl) ?_
        obtain ⟨q47, e47, h⟩ := tB h
        refine rcI C hH hl.1 (mX10_isFree l e47) cf_RX10_261 ro_58 (RR_of (by decide) (by decide)) rfl (rest := []) rfl (Nat.le_of_ble_eq_true rfl) dX10_byTurns_47 ?_
        intro hz47 H locs hH
        refine lv_if_ne (tgt := 56) hx hb dX10_byTurns_50 (by decide) (fun hc50 => ?_) (fun hc50 => ?_)
        · replace h := tF hc50 h
          refine lv_aload_n hx hb dX10_byTurns_56 rfl (lv_at hl 2 rfl) ?_
          refine rgS C hH fs_RX10_9_58 dX10_byTurns_57 ?_
          refine lv_bipush (v := 34) hx hb dX10_byTurns_60 (by decide) ?_
          refine lv_iload hx hb dX10_byTurns_62 (lv_at hl 0 rfl) ?_
          refine lv_iadd hx hb dX10_byTurns_64 ?_
          obtain ⟨hi65, h⟩ := tC h
          refine raI C hH (k := (Int32.toNatClampNeg (34 + (iRem v1 10)))) (by decide) (show WS 59 = .inr (0, 62, 0) from rfl) hi65 rfl dX10_byTurns_65 ?_
          refine lv_istore (lv' := [(6, .int (gI q47.2 59 (Int32.toNatClampNeg (34 + (iRem v1 10))))), (5, .int (iRem v1 10)), (4, .int (v1 / 10)), (0, .ref (ad 58)), (1, .int v1), (2, .int v2), (3, .int v3)]) hx hb dX10_byTurns_66 hl (by decide) rfl (fun ls hl => ?_)
          refine lv_iload_n hx hb dX10_byTurns_68 rfl (lv_at hl 6 rfl) ?_
          refine lv_if_ne (tgt := 106) hx hb dX10_byTurns_69 (by decide) (fun hc69 => ?_) (fun hc69 => ?_)
          · replace h := tF hc69 h
            refine lv_aload_n hx hb dX10_byTurns_106 rfl (lv_at hl 3 rfl) ?_
            refine lv_iload hx hb dX10_byTurns_107 (lv_at hl 2 rfl) ?_
            refine lv_iload hx hb dX10_byTurns_109 (lv_at hl 1 rfl) ?_
            refine lv_iconst (v := 1) hx hb dX10_byTurns_111 (by decide) ?_
            refine lv_iload_n hx hb dX10_byTurns_112 rfl (lv_at hl 5 rfl) ?_
            refine lv_iload hx hb dX10_byTurns_113 (lv_at hl 0 rfl) ?_
            obtain ⟨q115, e115, h⟩ := tB h
            refine rcI C hH hl.1 (mX10_askedFrom l 100 _ _ _ _ _ _ _ e115) cf_RX10_279 ro_58 (RR_of (by decide) (by decide)) rfl (rest := []) rfl (Nat.le_of_ble_eq_true rfl) dX10_byTurns_115 ?_
            intro hz115 H locs hH
            refine lv_istore (lv' := [(7, .int q115.1), (6, .int (gI q47.2 59 (Int32.toNatClampNeg (34 + (iRem v1 10))))), (5, .int (iRem v1 10)), (4, .int (v1 / 10)), (0, .ref (ad 58)), (1, .int v1), (2, .int v2), (3, .int v3)]) hx hb dX10_byTurns_118 hl (by decide) rfl (fun ls hl => ?_)
            refine lv_aload_n hx hb dX10_byTurns_120 rfl (lv_at hl 4 rfl) ?_
            refine lv_iload hx hb dX10_byTurns_121 (lv_at hl 3 rfl) ?_
            refine lv_iload hx hb dX10_byTurns_123 (lv_at hl 2 rfl) ?_
            refine lv_iconst (v := 1) hx hb dX10_byTurns_125 (by decide) ?_
            refine lv_iload_n hx hb dX10_byTurns_126 rfl (lv_at hl 6 rfl) ?_
            refine lv_iconst (v := 0) hx hb dX10_byTurns_127 (by decide) ?_
            refine lv_iload hx hb dX10_byTurns_128 (lv_at hl 1 rfl) ?_
            obtain ⟨q130, e130, h⟩ := tB h
            refine rsI C hH hl.1 (mX10_movedBy l e130) cs_RX10_283 (RR_of (by decide) (by decide)) rfl (rest := [.int v2, .int 1, .int (iRem v1 10), .int (v1 / 10), .ref (ad 58)]) rfl (Nat.le_of_ble_eq_true rfl) dX10_byTurns_130 ?_
            intro hz130 H locs hH
            obtain ⟨q133, e133, h⟩ := tB h
            refine rcI C hH hl.1 (mX10_askedFrom l 100 _ _ _ _ _ _ _ e133) cf_RX10_279 ro_58 (RR_of (by decide) (by decide)) rfl (rest := []) rfl (Nat.le_of_ble_eq_true rfl) dX10_byTurns_133 ?_
            intro hz133 H locs hH
            refine lv_istore (lv' := [(8, .int q133.1), (7, .int q115.1), (6, .int (gI q47.2 59 (Int32.toNatClampNeg (34 + (iRem v1 10))))), (5, .int (iRem v1 10)), (4, .int (v1 / 10)), (0, .ref (ad 58)), (1, .int v1), (2, .int v2), (3, .int v3)]) hx hb dX10_byTurns_136 hl (by decide) rfl (fun ls hl => ?_)
            refine lv_aload_n hx hb dX10_byTurns_138 rfl (lv_at hl 5 rfl) ?_
            refine lv_iload hx hb dX10_byTurns_139 (lv_at hl 4 rfl) ?_
            refine lv_iload hx hb dX10_byTurns_141 (lv_at hl 3 rfl) ?_
            refine lv_iconst (v := 0) hx hb dX10_byTurns_143 (by decide) ?_
            refine lv_iload hx hb dX10_byTurns_144 (lv_at hl 0 rfl) ?_
            obtain ⟨q146, e146, h⟩ := tB h
            refine rcL C hH hl.1 (mX10_hasOf l e146) cf_RX10_286 ro_58 (RR_of (by decide) (by decide)) rfl (rest := []) rfl (Nat.le_of_ble_eq_true rfl) dX10_byTurns_146 ?_
            intro H locs hH
            refine lv_aload_n hx hb dX10_byTurns_149 rfl (lv_at hl 5 rfl) ?_
            refine lv_iload hx hb dX10_byTurns_150 (lv_at hl 4 rfl) ?_
            refine lv_iload hx hb dX10_byTurns_152 (lv_at hl 3 rfl) ?_
            refine lv_iconst (v := 0) hx hb dX10_byTurns_154 (by decide) ?_
            refine lv_iload hx hb dX10_byTurns_155 (lv_at hl 1 rfl) ?_
            obtain ⟨q157, e157, h⟩ := tB h
            refine rcL C hH hl.1 (mX10_hasOf l e157) cf_RX10_286 ro_58 (RR_of (by decide) (by decide)) rfl (rest := [.long q146.1]) rfl (Nat.le_of_ble_eq_true rfl) dX10_byTurns_157 ?_
            intro H locs hH
            refine lc_le (tgt := 168) hx hb dX10_byTurns_160 dX10_byTurns_161 (by decide) (fun hc161 => ?_) (fun hc161 => ?_)
            · replace h := tT hc161 h
              refine lv_iconst (v := 0) hx hb dX10_byTurns_168 (by decide) ?_
              have h := Option.some.inj h
              subst h
              exact retI C hH trivial dX10_byTurns_169
            · replace h := tF hc161 h
              refine lv_iconst (v := 1) hx hb dX10_byTurns_164 (by decide) ?_
              refine lv_goto (tgt := 169) hx hb dX10_byTurns_165 (by decide) ?_
              have h := Option.some.inj h
              subst h
              exact retI C hH trivial dX10_byTurns_169
          · replace h := tT hc69 h
            refine lv_aload_n hx hb dX10_byTurns_72 rfl (lv_at hl 3 rfl) ?_
            refine lv_iload hx hb dX10_byTurns_73 (lv_at hl 2 rfl) ?_
            refine lv_iload hx hb dX10_byTurns_75 (lv_at hl 1 rfl) ?_
            refine lv_aload_n hx hb dX10_byTurns_77 rfl (lv_at hl 3 rfl) ?_
            refine lv_iload hx hb dX10_byTurns_78 (lv_at hl 2 rfl) ?_
            refine lv_iload hx hb dX10_byTurns_80 (lv_at hl 1 rfl) ?_
            refine lv_iconst (v := 0) hx hb dX10_byTurns_82 (by decide) ?_
            refine lv_iload_n hx hb dX10_byTurns_83 rfl (lv_at hl 5 rfl) ?_
            refine lv_iload hx hb dX10_byTurns_84 (lv_at hl 0 rfl) ?_
            obtain ⟨q86, e86, h⟩ := tB h
            refine rcI C hH hl.1 (mX10_askedFrom l 100 _ _ _ _ _ _ _ e86) cf_RX10_279 ro_58 (RR_of (by decide) (by decide)) rfl (rest := [.int (iRem v1 10), .int (v1 / 10), .ref (ad 58)]) rfl (Nat.le_of_ble_eq_true rfl) dX10_byTurns_86 ?_
            intro hz86 H locs hH
            obtain ⟨q89, e89, h⟩ := tB h
            refine rcI C hH hl.1 (mX10_paidAt l e89) cf_RX10_290 ro_58 (RR_of (by decide) (by decide)) rfl (rest := []) rfl (Nat.le_of_ble_eq_true rfl) dX10_byTurns_89 ?_
            intro hz89 H locs hH
            refine lv_istore (lv' := [(7, .int q89.1), (6, .int (gI q47.2 59 (Int32.toNatClampNeg (34 + (iRem v1 10))))), (5, .int (iRem v1 10)), (4, .int (v1 / 10)), (0, .ref (ad 58)), (1, .int v1), (2, .int v2), (3, .int v3)]) hx hb dX10_byTurns_92 hl (by decide) rfl (fun ls hl => ?_)
            refine lv_iload hx hb dX10_byTurns_94 (lv_at hl 0 rfl) ?_
            refine lv_if_ge (tgt := 103) hx hb dX10_byTurns_96 (by decide) (fun hc96 => ?_) (fun hc96 => ?_)
            · replace h := tT hc96 h
              refine lv_iload hx hb dX10_byTurns_103 (lv_at hl 0 rfl) ?_
              have h := Option.some.inj h
              subst h
              exact retI C hH trivial dX10_byTurns_105
            · replace h := tF hc96 h
              refine lv_iconst (v := 0) hx hb dX10_byTurns_99 (by decide) ?_
              refine lv_goto (tgt := 105) hx hb dX10_byTurns_100 (by decide) ?_
              have h := Option.some.inj h
              subst h
              exact retI C hH trivial dX10_byTurns_105
        · replace h := tT hc50 h
          refine lv_bipush (v := (-5)) hx hb dX10_byTurns_53 (by decide) ?_
          have h := Option.some.inj h
          subst h
          exact retI C hH trivial dX10_byTurns_55
      · replace h := tT hc27 h
        exact wX10_byTurns_30 C h hH (lv_sub hl [] rfl)
set_option maxHeartbeats 2000000 in
set_option maxRecDepth 20000 in
theorem wX2_days_151 (C : Cx D ca A p s m args meth c cX2_days RX2 12 (some .int)) {q : Int32 × Mm} {k12 : Int32 → Int32 → Int32 → Int32 → Int32 → Int32 → Int32 → Mm → Option (Int32 × Mm)} (hk12 : ∀ (v2 : Int32) (v3 : Int32) (v4 : Int32) (v5 : Int32) (v6 : Int32) (v7 : Int32) (v8 : Int32) (mm : Mm), k12 v2 v3 v4 v5 v6 v7 v8 mm = some q → ∀ (H : Heap) (locs : List Loc) (ls : Array Slot), Hx WN ad ca WS D A s.heap mm H locs → lv_has ls 12 [(0, .ref (ad 19)), (2, .int v2), (3, .int v3), (4, .int v4), (5, .int v5), (6, .int v6), (7, .int v7), (8, .int v8)] → W p l e (rmk 5) s m args below meth c H locs 0 0 (MQ below (QcI WN ad ca WS D A pzT q) args s 0 0 A) (F0 m 12 ls [])) {k33 : Int32 → Int32 → Int32 → Int32 → Int32 → Int32 → Int32 → Int32 → Int32 → Mm → Option (Int32 × Mm)} (hk33 : ∀ (v2 : Int32) (v3 : Int32) (v4 : Int32) (v5 : Int32) (v6 : Int32) (v7 : Int32) (v8 : Int32) (v9 : Int32) (v10 : Int32) (mm : Mm), k33 v2 v3 v4 v5 v6 v7 v8 v9 v10 mm = some q → ∀ (H : Heap) (locs : List Loc) (ls : Array Slot), Hx WN ad ca WS D A s.heap mm H locs → lv_has ls 12 [(0, .ref (ad 19)), (2, .int v2), (3, .int v3), (4, .int v4), (5, .int v5), (6, .int v6), (7, .int v7), (8, .int v8), (9, .int v9), (10, .int v10)] → W p l e (rmk 5) s m args below meth c H locs 0 0 (MQ below (QcI WN ad ca WS D A pzT q) args s 0 0 A) (F0 m 33 ls [])) {v2 : Int32} {v3 : Int32} {v4 : Int32} {v5 : Int32} {v6 : Int32} {v7 : Int32} {v8 : Int32} {v9 : Int32} {v10 : Int32} {mm : Mm} (h : DX2_days_151 k12 k33 v2 v3 v4 v5 v6 v7 v8 v9 v10 mm = some q) (hH : Hx WN ad ca WS D A s.heap mm H locs) (hl : lv_has ls 12 [(0, .ref (ad 19)), (2, .int v2), (3, .int v3), (4, .int v4), (5, .int v5), (6, .int v6), (7, .int v7), (8, .int v8), (9, .int v9), (10, .int v10)]) : W p l e (rmk 5) s m args below meth c H locs 0 0 (MQ below (QcI WN ad ca WS D A pzT q) args s 0 0 A) (F0 m 151 ls []) := by
  unfold DX2_days_151 at h
  have hx := C.1
  have hb := C.2.1
  refine lv_iinc (v := (v10 + 1)) (lv' := [(10, .int (v10 + 1)), (0, .ref (ad 19)), (2, .int v2), (3, .int v3), (4, .int v4), (5, .int v5), (6, .int v6), (7, .int v7), (8, .int v8), (9, .int v9)]) hx hb dX2_days_151 hl (k := 9) rfl rfl (by decide) rfl (fun ls hl => ?_)
  refine lv_goto (tgt := 33) hx hb dX2_days_154 (by decide) ?_
  exact hk33 _ _ _ _ _ _ _ _ _ _ h _ _ _ hH (lv_sub hl [1, 2, 3, 4, 5, 6, 7, 8, 9, 0] rfl)
set_option maxHeartbeats 2000000 in
set_option maxRecDepth 20000 in
theorem wbX2_days_33 (C : Cx D ca A p s m args meth c cX2_days RX2 12 (some .int)) {q : Int32 × Mm} {k12 : Int32 → Int32 → Int32 → Int32 → Int32 → Int32 → Int32 → Mm → Option (Int32 × Mm)} (hk12 : ∀ (v2 : Int32) (v3 : Int32) (v4 : Int32) (v5 : Int32) (v6 : Int32) (v7 : Int32) (v8 : Int32) (mm : Mm), k12 v2 v3 v4 v5 v6 v7 v8 mm = some q → ∀ (H : Heap) (locs : List Loc) (ls : Array Slot), Hx WN ad ca WS D A s.heap mm H locs → lv_has ls 12 [(0, .ref (ad 19)), (2, .int v2), (3, .int v3), (4, .int v4), (5, .int v5), (6, .int v6), (7, .int v7), (8, .int v8)] → W p l e (rmk 5) s m args below meth c H locs 0 0 (MQ below (QcI WN ad ca WS D A pzT q) args s 0 0 A) (F0 m 12 ls [])) {k33 : Int32 → Int32 → Int32 → Int32 → Int32 → Int32 → Int32 → Int32 → Int32 → Mm → Option (Int32 × Mm)} (hk33 : ∀ (v2 : Int32) (v3 : Int32) (v4 : Int32) (v5 : Int32) (v6 : Int32) (v7 : Int32) (v8 : Int32) (v9 : Int32) (v10 : Int32) (mm : Mm), k33 v2 v3 v4 v5 v6 v7 v8 v9 v10 mm = some q → ∀ (H : Heap) (locs : List Loc) (ls : Array Slot), Hx WN ad ca WS D A s.heap mm H locs → lv_has ls 12 [(0, .ref (ad 19)), (2, .int v2), (3, .int v3), (4, .int v4), (5, .int v5), (6, .int v6), (7, .int v7), (8, .int v8), (9, .int v9), (10, .int v10)] → W p l e (rmk 5) s m args below meth c H locs 0 0 (MQ below (QcI WN ad ca WS D A pzT q) args s 0 0 A) (F0 m 33 ls [])) {v2 : Int32} {v3 : Int32} {v4 : Int32} {v5 : Int32} {v6 : Int32} {v7 : Int32} {v8 : Int32} {v9 : Int32} {v10 : Int32} {mm : Mm} (h : BX2_days_33 k12 k33 v2 v3 v4 v5 v6 v7 v8 v9 v10 mm = some q) (hH : Hx WN ad ca WS D A s.heap mm H locs) (hl : lv_has ls 12 [(0, .ref (ad 19)), (2, .int v2), (3, .int v3), (4, .int v4), (5, .int v5), (6, .int v6), (7, .int v7), (8, .int v8), (9, .int v9), (10, .int v10)]) : W p l e (rmk 5) s m args below meth c H locs 0 0 (MQ below (QcI WN ad ca WS D A pzT q) args s 0 0 A) (F0 m 33 ls []) := by
  unfold BX2_days_33 at h
  have hx := C.1
  have hb := C.2.1
  refine lv_iload hx hb dX2_days_33 (lv_at hl 9 rfl) ?_
  refine lv_aload_n hx hb dX2_days_35 rfl (lv_at hl 0 rfl) ?_
  refine rgS C hH fs_RX2_22_19 dX2_days_36 ?_
  refine rgI C hH fi_RX2_68_1 dX2_days_39 ?_
  refine lv_icmp_ge (tgt := 157) hx hb dX2_days_42 (by decide) (fun hc42 => ?_) (fun hc42 => ?_)
  · replace h := tT hc42 h
    refine lv_iinc (v := (v8 + 1)) (lv' := [(8, .int (v8 + 1)), (0, .ref (ad 19)), (2, .int v2), (3, .int v3), (4, .int v4), (5, .int v5), (6, .int v6), (7, .int v7), (9, .int v9), (10, .int v10)]) hx hb dX2_days_157 hl (k := 7) rfl rfl (by decide) rfl (fun ls hl => ?_)
    refine lv_goto (tgt := 12) hx hb dX2_days_160 (by decide) ?_
    exact hk12 _ _ _ _ _ _ _ _ h _ _ _ hH (lv_sub hl [1, 2, 3, 4, 5, 6, 7, 0] rfl)
  · replace h := tF hc42 h
    refine lv_aload_n hx hb dX2_days_45 rfl (lv_at hl 0 rfl) ?_
    refine rgS C hH fs_RX2_22_19 dX2_days_46 ?_
    refine lv_iload hx hb dX2_days_49 (lv_at hl 9 rfl) ?_
    obtain ⟨q51, e51, h⟩ := tB h
    refine rcI C hH hl.1 (mX7_isFree l e51) cf_RX2_32 ro_1 (RR_of (by decide) (by decide)) rfl (rest := []) rfl (Nat.le_of_ble_eq_true rfl) dX2_days_51 ?_
    intro hz51 H locs hH
    refine lv_if_ne (tgt := 60) hx hb dX2_days_54 (by decide) (fun hc54 => ?_) (fun hc54 => ?_)
    · replace h := tF hc54 h
      refine lv_iload hx hb dX2_days_60 (lv_at hl 4 rfl) ?_
      refine rldc C (v := 1103515245) k_RX2_145 dX2_days_62 ?_
      refine lv_imul hx hb dX2_days_64 ?_
      refine lv_sipush (v := 12345) hx hb dX2_days_65 (by decide) ?_
      refine lv_iadd hx hb dX2_days_68 ?_
      refine lv_istore (lv' := [(5, .int ((v5 * 1103515245) + 12345)), (0, .ref (ad 19)), (2, .int v2), (3, .int v3), (4, .int v4), (6, .int v6), (7, .int v7), (8, .int v8), (9, .int v9), (10, .int v10)]) hx hb dX2_days_69 hl (by decide) rfl (fun ls hl => ?_)
      refine lv_aload_n hx hb dX2_days_71 rfl (lv_at hl 1 rfl) ?_
      refine rgS C hH fs_RX2_22_19 dX2_days_72 ?_
      refine lv_iconst (v := 5) hx hb dX2_days_75 (by decide) ?_
      refine lv_iload hx hb dX2_days_76 (lv_at hl 9 rfl) ?_
      obtain ⟨q78, e78, h⟩ := tB h
      refine rcI C hH hl.1 (mX7_told l e78) cf_RX2_38 ro_1 (RR_of (by decide) (by decide)) rfl (rest := []) rfl (Nat.le_of_ble_eq_true rfl) dX2_days_78 ?_
      intro hz78 H locs hH
      refine lv_istore (lv' := [(11, .int q78.1), (5, .int ((v5 * 1103515245) + 12345)), (0, .ref (ad 19)), (2, .int v2), (3, .int v3), (4, .int v4), (6, .int v6), (7, .int v7), (8, .int v8), (9, .int v9), (10, .int v10)]) hx hb dX2_days_81 hl (by decide) rfl (fun ls hl => ?_)
      refine lv_iload hx hb dX2_days_83 (lv_at hl 9 rfl) ?_
      refine lv_iload hx hb dX2_days_85 (lv_at hl 0 rfl) ?_
      refine lv_icmp_lt (tgt := 151) hx hb dX2_days_87 (by decide) (fun hc87 => ?_) (fun hc87 => ?_)
      · replace h := tT hc87 h
        exact wX2_days_151 C hk12 hk33 h hH (lv_sub hl [2, 3, 4, 5, 1, 6, 7, 8, 9, 10] rfl)
      · replace h := tF hc87 h
        refine lv_aload_n hx hb dX2_days_90 rfl (lv_at hl 2 rfl) ?_
        refine rgS C hH fs_RX2_22_19 dX2_days_91 ?_
        refine lv_iload_n hx hb dX2_days_94 rfl (lv_at hl 4 rfl) ?_
        refine lv_iload hx hb dX2_days_95 (lv_at hl 1 rfl) ?_
        refine lv_bipush (v := 8) hx hb dX2_days_97 (by decide) ?_
        refine lv_iushr' hx hb dX2_days_99 ?_
        refine lv_bipush (v := 6) hx hb dX2_days_100 (by decide) ?_
        refine lv_irem' hx hb dX2_days_102 (by decide) ?_
        refine lv_iload hx hb dX2_days_103 (lv_at hl 0 rfl) ?_
        obtain ⟨q105, e105, h⟩ := tB h
        refine rcI C hH hl.1 (mX7_worthTo l e105) cf_RX2_146 ro_1 (RR_of (by decide) (by decide)) rfl (rest := []) rfl (Nat.le_of_ble_eq_true rfl) dX2_days_105 ?_
        intro hz105 H locs hH
        refine lv_iload hx hb dX2_days_108 (lv_at hl 0 rfl) ?_
        refine lv_icmp_lt (tgt := 151) hx hb dX2_days_110 (by decide) (fun hc110 => ?_) (fun hc110 => ?_)
        · replace h := tT hc110 h
          exact wX2_days_151 C hk12 hk33 h hH (lv_sub hl [2, 3, 4, 5, 1, 6, 7, 8, 9, 10] rfl)
        · replace h := tF hc110 h
          refine lv_iload hx hb dX2_days_113 (lv_at hl 9 rfl) ?_
          refine lv_iload hx hb dX2_days_115 (lv_at hl 0 rfl) ?_
          refine lv_isub hx hb dX2_days_117 ?_
          refine lv_istore (lv' := [(9, .int (v9 - q78.1)), (11, .int q78.1), (5, .int ((v5 * 1103515245) + 12345)), (0, .ref (ad 19)), (2, .int v2), (3, .int v3), (4, .int v4), (6, .int v6), (7, .int v7), (8, .int v8), (10, .int v10)]) hx hb dX2_days_118 hl (by decide) rfl (fun ls hl => ?_)
          refine lv_iinc (v := (v6 + 1)) (lv' := [(6, .int (v6 + 1)), (9, .int (v9 - q78.1)), (11, .int q78.1), (5, .int ((v5 * 1103515245) + 12345)), (0, .ref (ad 19)), (2, .int v2), (3, .int v3), (4, .int v4), (7, .int v7), (8, .int v8), (10, .int v10)]) hx hb dX2_days_120 hl (k := 7) rfl rfl (by decide) rfl (fun ls hl => ?_)
          refine lv_iload hx hb dX2_days_123 (lv_at hl 8 rfl) ?_
          refine lv_aload_n hx hb dX2_days_125 rfl (lv_at hl 4 rfl) ?_
          refine rgS C hH fs_RX2_22_19 dX2_days_126 ?_
          refine lv_iload_n hx hb dX2_days_129 rfl (lv_at hl 6 rfl) ?_
          refine lv_aload_n hx hb dX2_days_130 rfl (lv_at hl 4 rfl) ?_
          refine rgS C hH fs_RX2_22_19 dX2_days_131 ?_
          refine lv_iconst (v := 4) hx hb dX2_days_134 (by decide) ?_
          refine lv_iload hx hb dX2_days_135 (lv_at hl 10 rfl) ?_
          obtain ⟨q137, e137, h⟩ := tB h
          refine rcI C hH hl.1 (mX7_told l e137) cf_RX2_38 ro_1 (RR_of (by decide) (by decide)) rfl (rest := [.int v3, .ref (ad 1), .int v7]) rfl (Nat.le_of_ble_eq_true rfl) dX2_days_137 ?_
          intro hz137 H locs hH
          refine lv_iload hx hb dX2_days_140 (lv_at hl 2 rfl) ?_
          obtain ⟨q142, e142, h⟩ := tB h
          refine rcI C hH hl.1 (mX7_worthTo l e142) cf_RX2_146 ro_1 (RR_of (by decide) (by decide)) rfl (rest := [.int v7]) rfl (Nat.le_of_ble_eq_true rfl) dX2_days_142 ?_
          intro hz142 H locs hH
          refine lv_iload hx hb dX2_days_145 (lv_at hl 2 rfl) ?_
          refine lv_isub hx hb dX2_days_147 ?_
          refine lv_iadd hx hb dX2_days_148 ?_
          refine lv_istore (lv' := [(7, .int (v7 + (q142.1 - q78.1))), (6, .int (v6 + 1)), (9, .int (v9 - q78.1)), (11, .int q78.1), (5, .int ((v5 * 1103515245) + 12345)), (0, .ref (ad 19)), (2, .int v2), (3, .int v3), (4, .int v4), (8, .int v8), (10, .int v10)]) hx hb dX2_days_149 hl (by decide) rfl (fun ls hl => ?_)
          exact wX2_days_151 C hk12 hk33 h hH (lv_sub hl [5, 6, 7, 8, 4, 1, 0, 9, 2, 10] rfl)
    · replace h := tT hc54 h
      refine lv_goto (tgt := 151) hx hb dX2_days_57 (by decide) ?_
      exact wX2_days_151 C hk12 hk33 h hH (lv_sub hl [0, 1, 2, 3, 4, 5, 6, 7, 8, 9] rfl)
set_option maxHeartbeats 2000000 in
set_option maxRecDepth 20000 in
theorem wX2_days_33 (C : Cx D ca A p s m args meth c cX2_days RX2 12 (some .int)) {q : Int32 × Mm} {k12 : Int32 → Int32 → Int32 → Int32 → Int32 → Int32 → Int32 → Mm → Option (Int32 × Mm)} (hk12 : ∀ (v2 : Int32) (v3 : Int32) (v4 : Int32) (v5 : Int32) (v6 : Int32) (v7 : Int32) (v8 : Int32) (mm : Mm), k12 v2 v3 v4 v5 v6 v7 v8 mm = some q → ∀ (H : Heap) (locs : List Loc) (ls : Array Slot), Hx WN ad ca WS D A s.heap mm H locs → lv_has ls 12 [(0, .ref (ad 19)), (2, .int v2), (3, .int v3), (4, .int v4), (5, .int v5), (6, .int v6), (7, .int v7), (8, .int v8)] → W p l e (rmk 5) s m args below meth c H locs 0 0 (MQ below (QcI WN ad ca WS D A pzT q) args s 0 0 A) (F0 m 12 ls [])) : ∀ (N : Nat) (v2 : Int32) (v3 : Int32) (v4 : Int32) (v5 : Int32) (v6 : Int32) (v7 : Int32) (v8 : Int32) (v9 : Int32) (v10 : Int32) (mm : Mm), DX2_days_33 k12 N v2 v3 v4 v5 v6 v7 v8 v9 v10 mm = some q → ∀ (H : Heap) (locs : List Loc) (ls : Array Slot), Hx WN ad ca WS D A s.heap mm H locs → lv_has ls 12 [(0, .ref (ad 19)), (2, .int v2), (3, .int v3), (4, .int v4), (5, .int v5), (6, .int v6), (7, .int v7), (8, .int v8), (9, .int v9), (10, .int v10)] → W p l e (rmk 5) s m args below meth c H locs 0 0 (MQ below (QcI WN ad ca WS D A pzT q) args s 0 0 A) (F0 m 33 ls []) := by
  intro N
  induction N with
  | zero =>
    intro v2 v3 v4 v5 v6 v7 v8 v9 v10 mm h
    have h2 : (none : Option (Int32 × Mm)) = some q := h
    cases h2
  | succ N ih =>
    intro v2 v3 v4 v5 v6 v7 v8 v9 v10 mm h H locs ls hH hl
    exact wbX2_days_33 C hk12 ih h hH hl
set_option maxHeartbeats 2000000 in
set_option maxRecDepth 20000 in
theorem wbX2_days_12 (C : Cx D ca A p s m args meth c cX2_days RX2 12 (some .int)) {q : Int32 × Mm} {k12 : Int32 → Int32 → Int32 → Int32 → Int32 → Int32 → Int32 → Mm → Option (Int32 × Mm)} (hk12 : ∀ (v2 : Int32) (v3 : Int32) (v4 : Int32) (v5 : Int32) (v6 : Int32) (v7 : Int32) (v8 : Int32) (mm : Mm), k12 v2 v3 v4 v5 v6 v7 v8 mm = some q → ∀ (H : Heap) (locs : List Loc) (ls : Array Slot), Hx WN ad ca WS D A s.heap mm H locs → lv_has ls 12 [(0, .ref (ad 19)), (2, .int v2), (3, .int v3), (4, .int v4), (5, .int v5), (6, .int v6), (7, .int v7), (8, .int v8)] → W p l e (rmk 5) s m args below meth c H locs 0 0 (MQ below (QcI WN ad ca WS D A pzT q) args s 0 0 A) (F0 m 12 ls [])) {v2 : Int32} {v3 : Int32} {v4 : Int32} {v5 : Int32} {v6 : Int32} {v7 : Int32} {v8 : Int32} {mm : Mm} (h : BX2_days_12 k12 v2 v3 v4 v5 v6 v7 v8 mm = some q) (hH : Hx WN ad ca WS D A s.heap mm H locs) (hl : lv_has ls 12 [(0, .ref (ad 19)), (2, .int v2), (3, .int v3), (4, .int v4), (5, .int v5), (6, .int v6), (7, .int v7), (8, .int v8)]) : W p l e (rmk 5) s m args below meth c H locs 0 0 (MQ below (QcI WN ad ca WS D A pzT q) args s 0 0 A) (F0 m 12 ls []) := by
  unfold BX2_days_12 at h
  have hx := C.1
  have hb := C.2.1
  refine lv_iload hx hb dX2_days_12 (lv_at hl 7 rfl) ?_
  refine lv_iload_n hx hb dX2_days_14 rfl (lv_at hl 1 rfl) ?_
  refine lv_icmp_ge (tgt := 163) hx hb dX2_days_15 (by decide) (fun hc15 => ?_) (fun hc15 => ?_)
  · replace h := tT hc15 h
    refine lv_iload hx hb dX2_days_163 (lv_at hl 3 rfl) ?_
    refine lv_if_ne (tgt := 173) hx hb dX2_days_165 (by decide) (fun hc165 => ?_) (fun hc165 => ?_)
    · replace h := tF hc165 h
      refine lv_iload hx hb dX2_days_173 (lv_at hl 6 rfl) ?_
      have h := Option.some.inj h
      subst h
      exact retI C hH trivial dX2_days_175
    · replace h := tT hc165 h
      refine lv_iload hx hb dX2_days_168 (lv_at hl 5 rfl) ?_
      refine lv_goto (tgt := 175) hx hb dX2_days_170 (by decide) ?_
      have h := Option.some.inj h
      subst h
      exact retI C hH trivial dX2_days_175
  · replace h := tF hc15 h
    refine lv_aload_n hx hb dX2_days_18 rfl (lv_at hl 0 rfl) ?_
    refine rgS C hH fs_RX2_22_19 dX2_days_19 ?_
    refine lv_bipush (v := 6) hx hb dX2_days_22 (by decide) ?_
    refine lv_iload_n hx hb dX2_days_24 rfl (lv_at hl 2 rfl) ?_
    obtain ⟨q25, e25, h⟩ := tB h
    refine rcI C hH hl.1 (mX7_told l e25) cf_RX2_38 ro_1 (RR_of (by decide) (by decide)) rfl (rest := []) rfl (Nat.le_of_ble_eq_true rfl) dX2_days_25 ?_
    intro hz25 H locs hH
    refine lv_istore (lv' := [(9, .int q25.1), (0, .ref (ad 19)), (2, .int v2), (3, .int v3), (4, .int v4), (5, .int v5), (6, .int v6), (7, .int v7), (8, .int v8)]) hx hb dX2_days_28 hl (by decide) rfl (fun ls hl => ?_)
    refine lv_iconst (v := 0) hx hb dX2_days_30 (by decide) ?_
    refine lv_istore (lv' := [(10, .int 0), (9, .int q25.1), (0, .ref (ad 19)), (2, .int v2), (3, .int v3), (4, .int v4), (5, .int v5), (6, .int v6), (7, .int v7), (8, .int v8)]) hx hb dX2_days_31 hl (by decide) rfl (fun ls hl => ?_)
    exact wX2_days_33 C hk12 FU _ _ _ _ _ _ _ _ _ _ h _ _ _ hH (lv_sub hl [2, 3, 4, 5, 6, 7, 8, 9, 1, 0] rfl)
set_option maxHeartbeats 2000000 in
set_option maxRecDepth 20000 in
theorem wX2_days_12 (C : Cx D ca A p s m args meth c cX2_days RX2 12 (some .int)) {q : Int32 × Mm} : ∀ (N : Nat) (v2 : Int32) (v3 : Int32) (v4 : Int32) (v5 : Int32) (v6 : Int32) (v7 : Int32) (v8 : Int32) (mm : Mm), DX2_days_12 N v2 v3 v4 v5 v6 v7 v8 mm = some q → ∀ (H : Heap) (locs : List Loc) (ls : Array Slot), Hx WN ad ca WS D A s.heap mm H locs → lv_has ls 12 [(0, .ref (ad 19)), (2, .int v2), (3, .int v3), (4, .int v4), (5, .int v5), (6, .int v6), (7, .int v7), (8, .int v8)] → W p l e (rmk 5) s m args below meth c H locs 0 0 (MQ below (QcI WN ad ca WS D A pzT q) args s 0 0 A) (F0 m 12 ls []) := by
  intro N
  induction N with
  | zero =>
    intro v2 v3 v4 v5 v6 v7 v8 mm h
    have h2 : (none : Option (Int32 × Mm)) = some q := h
    cases h2
  | succ N ih =>
    intro v2 v3 v4 v5 v6 v7 v8 mm h H locs ls hH hl
    exact wbX2_days_12 C ih h hH hl
set_option maxHeartbeats 2000000 in
set_option maxRecDepth 20000 in
theorem mX2_days (l : Launch) {D : va_G} {ca : Nat → ClassId} {A : Nat → Prop} {ad : Nat → Nat} {v1 : Int32} {v2 : Int32} {v3 : Int32} {v4 : Int32} {mm : Mm} {q : Int32 × Mm} (h : dX2_days v1 v2 v3 v4 mm = some q) : Met l yX2_days (wsOf yX2_days cX2_days 12 (some .int)) (rmk 5) (PcX WN ad ca WS D A [.ref (ad 19), .int v1, .int v2, .int v3, .int v4] mm) (QcI WN ad ca WS D A pzT q) 0 0 A := by
  unfold dX2_days at h
  refine ent (by decide) (Nat.le_of_ble_eq_true rfl) (fun p e s m args below meth c hargs C hH ls hl => ?_)
  have hx := C.1
  have hb := C.2.1
  have hl : lv_has ls 12 [(0, .ref (ad 19)), (1, .int v1), (2, .int v2), (3, .int v3), (4, .int v4)] := hl
  refine lv_iload_n hx hb dX2_days_0 rfl (lv_at hl 1 rfl) ?_
  refine lv_istore (lv' := [(5, .int v1), (0, .ref (ad 19)), (1, .int v1), (2, .int v2), (3, .int v3), (4, .int v4)]) hx hb dX2_days_1 hl (by decide) rfl (fun ls hl => ?_)
  refine lv_iconst (v := 0) hx hb dX2_days_3 (by decide) ?_
  refine lv_istore (lv' := [(6, .int 0), (5, .int v1), (0, .ref (ad 19)), (1, .int v1), (2, .int v2), (3, .int v3), (4, .int v4)]) hx hb dX2_days_4 hl (by decide) rfl (fun ls hl => ?_)
  refine lv_iconst (v := 0) hx hb dX2_days_6 (by decide) ?_
  refine lv_istore (lv' := [(7, .int 0), (6, .int 0), (5, .int v1), (0, .ref (ad 19)), (1, .int v1), (2, .int v2), (3, .int v3), (4, .int v4)]) hx hb dX2_days_7 hl (by decide) rfl (fun ls hl => ?_)
  refine lv_iconst (v := 0) hx hb dX2_days_9 (by decide) ?_
  refine lv_istore (lv' := [(8, .int 0), (7, .int 0), (6, .int 0), (5, .int v1), (0, .ref (ad 19)), (1, .int v1), (2, .int v2), (3, .int v3), (4, .int v4)]) hx hb dX2_days_10 hl (by decide) rfl (fun ls hl => ?_)
  exact wX2_days_12 C FU _ _ _ _ _ _ _ _ h _ _ _ hH (lv_sub hl [4, 6, 7, 8, 3, 2, 1, 0] rfl)
set_option maxHeartbeats 2000000 in
set_option maxRecDepth 20000 in
theorem wX9_drawn_32 (C : Cx D ca A p s m args meth c cX9_drawn RX9 5 (some .int)) {q : Int32 × Mm} {mm : Mm} (h : DX9_drawn_32 mm = some q) (hH : Hx WN ad ca WS D A s.heap mm H locs) (hl : lv_has ls 5 []) : W p l e (rmk 6) s m args below meth c H locs 0 0 (MQ below (QcI WN ad ca WS D A pzT q) args s 0 0 A) (F0 m 32 ls []) := by
  unfold DX9_drawn_32 at h
  have hx := C.1
  have hb := C.2.1
  refine rldc C (v := (-2000000000)) k_RX9_97 dX9_drawn_32 ?_
  have h := Option.some.inj h
  subst h
  exact retI C hH trivial dX9_drawn_34
set_option maxHeartbeats 2000000 in
set_option maxRecDepth 20000 in
theorem mX9_drawn (l : Launch) {D : va_G} {ca : Nat → ClassId} {A : Nat → Prop} {ad : Nat → Nat} {v1 : Int32} {v2 : Int32} {v3 : Int32} {v4 : Int32} {mm : Mm} {q : Int32 × Mm} (h : dX9_drawn v1 v2 v3 v4 mm = some q) : Met l yX9_drawn (wsOf yX9_drawn cX9_drawn 5 (some .int)) (rmk 6) (PcX WN ad ca WS D A [.ref (ad 0), .int v1, .int v2, .int v3, .int v4] mm) (QcI WN ad ca WS D A pzT q) 0 0 A := by
  unfold dX9_drawn at h
  refine ent (by decide) (Nat.le_of_ble_eq_true rfl) (fun p e s m args below meth c hargs C hH ls hl => ?_)
  have hx := C.1
  have hb := C.2.1
  have hl : lv_has ls 5 [(0, .ref (ad 0)), (1, .int v1), (2, .int v2), (3, .int v3), (4, .int v4)] := hl
  refine lv_iload_n hx hb dX9_drawn_0 rfl (lv_at hl 2 rfl) ?_
  refine lv_iconst (v := 1) hx hb dX9_drawn_1 (by decide) ?_
  refine lv_icmp_lt (tgt := 32) hx hb dX9_drawn_2 (by decide) (fun hc2 => ?_) (fun hc2 => ?_)
  · replace h := tT hc2 h
    exact wX9_drawn_32 C h hH (lv_sub hl [] rfl)
  · replace h := tF hc2 h
    refine lv_iload_n hx hb dX9_drawn_5 rfl (lv_at hl 2 rfl) ?_
    refine lv_bipush (v := 30) hx hb dX9_drawn_6 (by decide) ?_
    refine lv_icmp_gt (tgt := 32) hx hb dX9_drawn_8 (by decide) (fun hc8 => ?_) (fun hc8 => ?_)
    · replace h := tT hc8 h
      exact wX9_drawn_32 C h hH (lv_sub hl [] rfl)
    · replace h := tF hc8 h
      refine lv_aload_n hx hb dX9_drawn_11 rfl (lv_at hl 0 rfl) ?_
      refine rgS C hH fs_RX9_10_0 dX9_drawn_12 ?_
      refine lv_bipush (v := 6) hx hb dX9_drawn_15 (by decide) ?_
      refine lv_iload_n hx hb dX9_drawn_17 rfl (lv_at hl 3 rfl) ?_
      obtain ⟨q18, e18, h⟩ := tB h
      refine rcI C hH hl.1 (mX7_holds l e18) cf_RX9_67 ro_1 (RR_of (by decide) (by decide)) rfl (rest := []) rfl (Nat.le_of_ble_eq_true rfl) dX9_drawn_18 ?_
      intro hz18 H locs hH
      refine lv_if_eq (tgt := 32) hx hb dX9_drawn_21 (by decide) (fun hc21 => ?_) (fun hc21 => ?_)
      · replace h := tT hc21 h
        exact wX9_drawn_32 C h hH (lv_sub hl [] rfl)
      · replace h := tF hc21 h
        refine lv_iload hx hb dX9_drawn_24 (lv_at hl 4 rfl) ?_
        obtain ⟨q26, e26, h⟩ := tB h
        refine rsI C hH hl.1 (mX9_isPart l e26) cs_RX9_130 (RR_of (by decide) (by decide)) rfl (rest := []) rfl (Nat.le_of_ble_eq_true rfl) dX9_drawn_26 ?_
        intro hz26 H locs hH
        refine lv_if_ne (tgt := 35) hx hb dX9_drawn_29 (by decide) (fun hc29 => ?_) (fun hc29 => ?_)
        · replace h := tF hc29 h
          refine lv_aload_n hx hb dX9_drawn_35 rfl (lv_at hl 0 rfl) ?_
          refine rgS C hH fs_RX9_35_0 dX9_drawn_36 ?_
          refine lv_iload_n hx hb dX9_drawn_39 rfl (lv_at hl 1 rfl) ?_
          refine lv_iload_n hx hb dX9_drawn_40 rfl (lv_at hl 2 rfl) ?_
          refine lv_iload_n hx hb dX9_drawn_41 rfl (lv_at hl 3 rfl) ?_
          refine lv_iload hx hb dX9_drawn_42 (lv_at hl 4 rfl) ?_
          obtain ⟨q44, e44, h⟩ := tB h
          refine rcI C hH hl.1 (mX2_days l e44) cf_RX9_244 ro_19 (RR_of (by decide) (by decide)) rfl (rest := []) rfl (Nat.le_of_ble_eq_true rfl) dX9_drawn_44 ?_
          intro hz44 H locs hH
          have h := Option.some.inj h
          subst h
          exact retI C hH trivial dX9_drawn_47
        · replace h := tT hc29 h
          exact wX9_drawn_32 C h hH (lv_sub hl [] rfl)
set_option maxHeartbeats 2000000 in
set_option maxRecDepth 20000 in
theorem wX10_drawn_32 (C : Cx D ca A p s m args meth c cX10_drawn RX10 12 (some .int)) {q : Int32 × Mm} {mm : Mm} (h : DX10_drawn_32 mm = some q) (hH : Hx WN ad ca WS D A s.heap mm H locs) (hl : lv_has ls 12 []) : W p l e (rmk 106) s m args below meth c H locs 0 0 (MQ below (QcI WN ad ca WS D A pzT q) args s 0 0 A) (F0 m 32 ls []) := by
  unfold DX10_drawn_32 at h
  have hx := C.1
  have hb := C.2.1
  refine rldc C (v := (-2000000000)) k_RX10_151 dX10_drawn_32 ?_
  have h := Option.some.inj h
  subst h
  exact retI C hH trivial dX10_drawn_34
set_option maxHeartbeats 2000000 in
set_option maxRecDepth 20000 in
theorem wX10_drawn_171 (C : Cx D ca A p s m args meth c cX10_drawn RX10 12 (some .int)) {q : Int32 × Mm} {k47 : Int32 → Int32 → Int32 → Int32 → Int32 → Int32 → Int32 → Mm → Option (Int32 × Mm)} (hk47 : ∀ (v2 : Int32) (v3 : Int32) (v4 : Int32) (v5 : Int32) (v6 : Int32) (v7 : Int32) (v8 : Int32) (mm : Mm), k47 v2 v3 v4 v5 v6 v7 v8 mm = some q → ∀ (H : Heap) (locs : List Loc) (ls : Array Slot), Hx WN ad ca WS D A s.heap mm H locs → lv_has ls 12 [(0, .ref (ad 58)), (2, .int v2), (3, .int v3), (4, .int v4), (5, .int v5), (6, .int v6), (7, .int v7), (8, .int v8)] → W p l e (rmk 106) s m args below meth c H locs 0 0 (MQ below (QcI WN ad ca WS D A pzT q) args s 0 0 A) (F0 m 47 ls [])) {k67 : Int32 → Int32 → Int32 → Int32 → Int32 → Int32 → Int32 → Int32 → Int32 → Mm → Option (Int32 × Mm)} (hk67 : ∀ (v2 : Int32) (v3 : Int32) (v4 : Int32) (v5 : Int32) (v6 : Int32) (v7 : Int32) (v8 : Int32) (v9 : Int32) (v10 : Int32) (mm : Mm), k67 v2 v3 v4 v5 v6 v7 v8 v9 v10 mm = some q → ∀ (H : Heap) (locs : List Loc) (ls : Array Slot), Hx WN ad ca WS D A s.heap mm H locs → lv_has ls 12 [(0, .ref (ad 58)), (2, .int v2), (3, .int v3), (4, .int v4), (5, .int v5), (6, .int v6), (7, .int v7), (8, .int v8), (9, .int v9), (10, .int v10)] → W p l e (rmk 106) s m args below meth c H locs 0 0 (MQ below (QcI WN ad ca WS D A pzT q) args s 0 0 A) (F0 m 67 ls [])) {v2 : Int32} {v3 : Int32} {v4 : Int32} {v5 : Int32} {v6 : Int32} {v7 : Int32} {v8 : Int32} {v9 : Int32} {v10 : Int32} {mm : Mm} (h : DX10_drawn_171 k47 k67 v2 v3 v4 v5 v6 v7 v8 v9 v10 mm = some q) (hH : Hx WN ad ca WS D A s.heap mm H locs) (hl : lv_has ls 12 [(0, .ref (ad 58)), (2, .int v2), (3, .int v3), (4, .int v4), (5, .int v5), (6, .int v6), (7, .int v7), (8, .int v8), (9, .int v9), (10, .int v10)]) : W p l e (rmk 106) s m args below meth c H locs 0 0 (MQ below (QcI WN ad ca WS D A pzT q) args s 0 0 A) (F0 m 171 ls []) := by
  unfold DX10_drawn_171 at h
  have hx := C.1
  have hb := C.2.1
  refine lv_iinc (v := (v10 + 1)) (lv' := [(10, .int (v10 + 1)), (0, .ref (ad 58)), (2, .int v2), (3, .int v3), (4, .int v4), (5, .int v5), (6, .int v6), (7, .int v7), (8, .int v8), (9, .int v9)]) hx hb dX10_drawn_171 hl (k := 9) rfl rfl (by decide) rfl (fun ls hl => ?_)
  refine lv_goto (tgt := 67) hx hb dX10_drawn_174 (by decide) ?_
  exact hk67 _ _ _ _ _ _ _ _ _ _ h _ _ _ hH (lv_sub hl [1, 2, 3, 4, 5, 6, 7, 8, 9, 0] rfl)
set_option maxHeartbeats 2000000 in
set_option maxRecDepth 20000 in
theorem wbX10_drawn_67 (C : Cx D ca A p s m args meth c cX10_drawn RX10 12 (some .int)) {q : Int32 × Mm} {k47 : Int32 → Int32 → Int32 → Int32 → Int32 → Int32 → Int32 → Mm → Option (Int32 × Mm)} (hk47 : ∀ (v2 : Int32) (v3 : Int32) (v4 : Int32) (v5 : Int32) (v6 : Int32) (v7 : Int32) (v8 : Int32) (mm : Mm), k47 v2 v3 v4 v5 v6 v7 v8 mm = some q → ∀ (H : Heap) (locs : List Loc) (ls : Array Slot), Hx WN ad ca WS D A s.heap mm H locs → lv_has ls 12 [(0, .ref (ad 58)), (2, .int v2), (3, .int v3), (4, .int v4), (5, .int v5), (6, .int v6), (7, .int v7), (8, .int v8)] → W p l e (rmk 106) s m args below meth c H locs 0 0 (MQ below (QcI WN ad ca WS D A pzT q) args s 0 0 A) (F0 m 47 ls [])) {k67 : Int32 → Int32 → Int32 → Int32 → Int32 → Int32 → Int32 → Int32 → Int32 → Mm → Option (Int32 × Mm)} (hk67 : ∀ (v2 : Int32) (v3 : Int32) (v4 : Int32) (v5 : Int32) (v6 : Int32) (v7 : Int32) (v8 : Int32) (v9 : Int32) (v10 : Int32) (mm : Mm), k67 v2 v3 v4 v5 v6 v7 v8 v9 v10 mm = some q → ∀ (H : Heap) (locs : List Loc) (ls : Array Slot), Hx WN ad ca WS D A s.heap mm H locs → lv_has ls 12 [(0, .ref (ad 58)), (2, .int v2), (3, .int v3), (4, .int v4), (5, .int v5), (6, .int v6), (7, .int v7), (8, .int v8), (9, .int v9), (10, .int v10)] → W p l e (rmk 106) s m args below meth c H locs 0 0 (MQ below (QcI WN ad ca WS D A pzT q) args s 0 0 A) (F0 m 67 ls [])) {v2 : Int32} {v3 : Int32} {v4 : Int32} {v5 : Int32} {v6 : Int32} {v7 : Int32} {v8 : Int32} {v9 : Int32} {v10 : Int32} {mm : Mm} (h : BX10_drawn_67 k47 k67 v2 v3 v4 v5 v6 v7 v8 v9 v10 mm = some q) (hH : Hx WN ad ca WS D A s.heap mm H locs) (hl : lv_has ls 12 [(0, .ref (ad 58)), (2, .int v2), (3, .int v3), (4, .int v4), (5, .int v5), (6, .int v6), (7, .int v7), (8, .int v8), (9, .int v9), (10, .int v10)]) : W p l e (rmk 106) s m args below meth c H locs 0 0 (MQ below (QcI WN ad ca WS D A pzT q) args s 0 0 A) (F0 m 67 ls []) := by
  unfold BX10_drawn_67 at h
  have hx := C.1
  have hb := C.2.1
  refine lv_iload hx hb dX10_drawn_67 (lv_at hl 9 rfl) ?_
  refine lv_aload_n hx hb dX10_drawn_69 rfl (lv_at hl 0 rfl) ?_
  refine rgI C hH fi_RX10_100_58 dX10_drawn_70 ?_
  refine lv_icmp_ge (tgt := 177) hx hb dX10_drawn_73 (by decide) (fun hc73 => ?_) (fun hc73 => ?_)
  · replace h := tT hc73 h
    refine lv_iinc (v := (v8 + 1)) (lv' := [(8, .int (v8 + 1)), (0, .ref (ad 58)), (2, .int v2), (3, .int v3), (4, .int v4), (5, .int v5), (6, .int v6), (7, .int v7), (9, .int v9), (10, .int v10)]) hx hb dX10_drawn_177 hl (k := 7) rfl rfl (by decide) rfl (fun ls hl => ?_)
    refine lv_goto (tgt := 47) hx hb dX10_drawn_180 (by decide) ?_
    exact hk47 _ _ _ _ _ _ _ _ h _ _ _ hH (lv_sub hl [1, 2, 3, 4, 5, 6, 7, 0] rfl)
  · replace h := tF hc73 h
    refine lv_aload_n hx hb dX10_drawn_76 rfl (lv_at hl 0 rfl) ?_
    refine lv_iload hx hb dX10_drawn_77 (lv_at hl 9 rfl) ?_
    obtain ⟨q79, e79, h⟩ := tB h
    refine rcI C hH hl.1 (mX10_isFree l e79) cf_RX10_261 ro_58 (RR_of (by decide) (by decide)) rfl (rest := []) rfl (Nat.le_of_ble_eq_true rfl) dX10_drawn_79 ?_
    intro hz79 H locs hH
    refine lv_if_eq (tgt := 171) hx hb dX10_drawn_82 (by decide) (fun hc82 => ?_) (fun hc82 => ?_)
    · replace h := tT hc82 h
      exact wX10_drawn_171 C hk47 hk67 h hH (lv_sub hl [0, 1, 2, 3, 4, 5, 6, 7, 8, 9] rfl)
    · replace h := tF hc82 h
      refine lv_iload hx hb dX10_drawn_85 (lv_at hl 4 rfl) ?_
      refine rldcw C (v := 1103515245) k_RX10_295 dX10_drawn_87 ?_
      refine lv_imul hx hb dX10_drawn_90 ?_
      refine lv_sipush (v := 12345) hx hb dX10_drawn_91 (by decide) ?_
      refine lv_iadd hx hb dX10_drawn_94 ?_
      refine lv_istore (lv' := [(5, .int ((v5 * 1103515245) + 12345)), (0, .ref (ad 58)), (2, .int v2), (3, .int v3), (4, .int v4), (6, .int v6), (7, .int v7), (8, .int v8), (9, .int v9), (10, .int v10)]) hx hb dX10_drawn_95 hl (by decide) rfl (fun ls hl => ?_)
      refine lv_aload_n hx hb dX10_drawn_97 rfl (lv_at hl 1 rfl) ?_
      refine rgS C hH fs_RX10_9_58 dX10_drawn_98 ?_
      refine lv_bipush (v := 34) hx hb dX10_drawn_101 (by decide) ?_
      refine lv_iload hx hb dX10_drawn_103 (lv_at hl 9 rfl) ?_
      refine lv_iadd hx hb dX10_drawn_105 ?_
      obtain ⟨hi106, h⟩ := tC h
      refine raI C hH (k := (Int32.toNatClampNeg (34 + v10))) (by decide) (show WS 59 = .inr (0, 62, 0) from rfl) hi106 rfl dX10_drawn_106 ?_
      refine lv_istore (lv' := [(11, .int (gI q79.2 59 (Int32.toNatClampNeg (34 + v10)))), (5, .int ((v5 * 1103515245) + 12345)), (0, .ref (ad 58)), (2, .int v2), (3, .int v3), (4, .int v4), (6, .int v6), (7, .int v7), (8, .int v8), (9, .int v9), (10, .int v10)]) hx hb dX10_drawn_107 hl (by decide) rfl (fun ls hl => ?_)
      refine lv_aload_n hx hb dX10_drawn_109 rfl (lv_at hl 2 rfl) ?_
      refine lv_iload_n hx hb dX10_drawn_110 rfl (lv_at hl 4 rfl) ?_
      refine lv_iload hx hb dX10_drawn_111 (lv_at hl 1 rfl) ?_
      refine lv_bipush (v := 8) hx hb dX10_drawn_113 (by decide) ?_
      refine lv_iushr' hx hb dX10_drawn_115 ?_
      refine lv_bipush (v := 6) hx hb dX10_drawn_116 (by decide) ?_
      refine lv_irem' hx hb dX10_drawn_118 (by decide) ?_
      refine lv_iload hx hb dX10_drawn_119 (lv_at hl 0 rfl) ?_
      obtain ⟨q121, e121, h⟩ := tB h
      refine rcI C hH hl.1 (mX10_worthFor l e121) cf_RX10_207 ro_58 (RR_of (by decide) (by decide)) rfl (rest := []) rfl (Nat.le_of_ble_eq_true rfl) dX10_drawn_121 ?_
      intro hz121 H locs hH
      refine lv_iload hx hb dX10_drawn_124 (lv_at hl 0 rfl) ?_
      refine lv_icmp_lt (tgt := 171) hx hb dX10_drawn_126 (by decide) (fun hc126 => ?_) (fun hc126 => ?_)
      · replace h := tT hc126 h
        exact wX10_drawn_171 C hk47 hk67 h hH (lv_sub hl [2, 3, 4, 5, 1, 6, 7, 8, 9, 10] rfl)
      · replace h := tF hc126 h
        refine lv_iload hx hb dX10_drawn_129 (lv_at hl 9 rfl) ?_
        refine lv_iload hx hb dX10_drawn_131 (lv_at hl 0 rfl) ?_
        refine lv_icmp_lt (tgt := 171) hx hb dX10_drawn_133 (by decide) (fun hc133 => ?_) (fun hc133 => ?_)
        · replace h := tT hc133 h
          exact wX10_drawn_171 C hk47 hk67 h hH (lv_sub hl [2, 3, 4, 5, 1, 6, 7, 8, 9, 10] rfl)
        · replace h := tF hc133 h
          refine lv_iload hx hb dX10_drawn_136 (lv_at hl 9 rfl) ?_
          refine lv_iload hx hb dX10_drawn_138 (lv_at hl 0 rfl) ?_
          refine lv_isub hx hb dX10_drawn_140 ?_
          refine lv_istore (lv' := [(9, .int (v9 - (gI q79.2 59 (Int32.toNatClampNeg (34 + v10))))), (11, .int (gI q79.2 59 (Int32.toNatClampNeg (34 + v10)))), (5, .int ((v5 * 1103515245) + 12345)), (0, .ref (ad 58)), (2, .int v2), (3, .int v3), (4, .int v4), (6, .int v6), (7, .int v7), (8, .int v8), (10, .int v10)]) hx hb dX10_drawn_141 hl (by decide) rfl (fun ls hl => ?_)
          refine lv_iinc (v := (v6 + 1)) (lv' := [(6, .int (v6 + 1)), (9, .int (v9 - (gI q79.2 59 (Int32.toNatClampNeg (34 + v10))))), (11, .int (gI q79.2 59 (Int32.toNatClampNeg (34 + v10)))), (5, .int ((v5 * 1103515245) + 12345)), (0, .ref (ad 58)), (2, .int v2), (3, .int v3), (4, .int v4), (7, .int v7), (8, .int v8), (10, .int v10)]) hx hb dX10_drawn_143 hl (k := 7) rfl rfl (by decide) rfl (fun ls hl => ?_)
          refine lv_iload hx hb dX10_drawn_146 (lv_at hl 8 rfl) ?_
          refine lv_aload_n hx hb dX10_drawn_148 rfl (lv_at hl 4 rfl) ?_
          refine lv_iload_n hx hb dX10_drawn_149 rfl (lv_at hl 6 rfl) ?_
          refine lv_aload_n hx hb dX10_drawn_150 rfl (lv_at hl 4 rfl) ?_
          refine rgS C hH fs_RX10_9_58 dX10_drawn_151 ?_
          refine lv_bipush (v := 24) hx hb dX10_drawn_154 (by decide) ?_
          refine lv_iload hx hb dX10_drawn_156 (lv_at hl 10 rfl) ?_
          refine lv_iadd hx hb dX10_drawn_158 ?_
          obtain ⟨hi159, h⟩ := tC h
          refine raI C hH (k := (Int32.toNatClampNeg (24 + v10))) (by decide) (show WS 59 = .inr (0, 62, 0) from rfl) hi159 rfl dX10_drawn_159 ?_
          refine lv_iload hx hb dX10_drawn_160 (lv_at hl 2 rfl) ?_
          obtain ⟨q162, e162, h⟩ := tB h
          refine rcI C hH hl.1 (mX10_worthFor l e162) cf_RX10_207 ro_58 (RR_of (by decide) (by decide)) rfl (rest := [.int v7]) rfl (Nat.le_of_ble_eq_true rfl) dX10_drawn_162 ?_
          intro hz162 H locs hH
          refine lv_iload hx hb dX10_drawn_165 (lv_at hl 2 rfl) ?_
          refine lv_isub hx hb dX10_drawn_167 ?_
          refine lv_iadd hx hb dX10_drawn_168 ?_
          refine lv_istore (lv' := [(7, .int (v7 + (q162.1 - (gI q79.2 59 (Int32.toNatClampNeg (34 + v10)))))), (6, .int (v6 + 1)), (9, .int (v9 - (gI q79.2 59 (Int32.toNatClampNeg (34 + v10))))), (11, .int (gI q79.2 59 (Int32.toNatClampNeg (34 + v10)))), (5, .int ((v5 * 1103515245) + 12345)), (0, .ref (ad 58)), (2, .int v2), (3, .int v3), (4, .int v4), (8, .int v8), (10, .int v10)]) hx hb dX10_drawn_169 hl (by decide) rfl (fun ls hl => ?_)
          exact wX10_drawn_171 C hk47 hk67 h hH (lv_sub hl [5, 6, 7, 8, 4, 1, 0, 9, 2, 10] rfl)
set_option maxHeartbeats 2000000 in
set_option maxRecDepth 20000 in
theorem wX10_drawn_67 (C : Cx D ca A p s m args meth c cX10_drawn RX10 12 (some .int)) {q : Int32 × Mm} {k47 : Int32 → Int32 → Int32 → Int32 → Int32 → Int32 → Int32 → Mm → Option (Int32 × Mm)} (hk47 : ∀ (v2 : Int32) (v3 : Int32) (v4 : Int32) (v5 : Int32) (v6 : Int32) (v7 : Int32) (v8 : Int32) (mm : Mm), k47 v2 v3 v4 v5 v6 v7 v8 mm = some q → ∀ (H : Heap) (locs : List Loc) (ls : Array Slot), Hx WN ad ca WS D A s.heap mm H locs → lv_has ls 12 [(0, .ref (ad 58)), (2, .int v2), (3, .int v3), (4, .int v4), (5, .int v5), (6, .int v6), (7, .int v7), (8, .int v8)] → W p l e (rmk 106) s m args below meth c H locs 0 0 (MQ below (QcI WN ad ca WS D A pzT q) args s 0 0 A) (F0 m 47 ls [])) : ∀ (N : Nat) (v2 : Int32) (v3 : Int32) (v4 : Int32) (v5 : Int32) (v6 : Int32) (v7 : Int32) (v8 : Int32) (v9 : Int32) (v10 : Int32) (mm : Mm), DX10_drawn_67 k47 N v2 v3 v4 v5 v6 v7 v8 v9 v10 mm = some q → ∀ (H : Heap) (locs : List Loc) (ls : Array Slot), Hx WN ad ca WS D A s.heap mm H locs → lv_has ls 12 [(0, .ref (ad 58)), (2, .int v2), (3, .int v3), (4, .int v4), (5, .int v5), (6, .int v6), (7, .int v7), (8, .int v8), (9, .int v9), (10, .int v10)] → W p l e (rmk 106) s m args below meth c H locs 0 0 (MQ below (QcI WN ad ca WS D A pzT q) args s 0 0 A) (F0 m 67 ls []) := by
  intro N
  induction N with
  | zero =>
    intro v2 v3 v4 v5 v6 v7 v8 v9 v10 mm h
    have h2 : (none : Option (Int32 × Mm)) = some q := h
    cases h2
  | succ N ih =>
    intro v2 v3 v4 v5 v6 v7 v8 v9 v10 mm h H locs ls hH hl
    exact wbX10_drawn_67 C hk47 ih h hH hl
set_option maxHeartbeats 2000000 in
set_option maxRecDepth 20000 in
theorem wbX10_drawn_47 (C : Cx D ca A p s m args meth c cX10_drawn RX10 12 (some .int)) {q : Int32 × Mm} {k47 : Int32 → Int32 → Int32 → Int32 → Int32 → Int32 → Int32 → Mm → Option (Int32 × Mm)} (hk47 : ∀ (v2 : Int32) (v3 : Int32) (v4 : Int32) (v5 : Int32) (v6 : Int32) (v7 : Int32) (v8 : Int32) (mm : Mm), k47 v2 v3 v4 v5 v6 v7 v8 mm = some q → ∀ (H : Heap) (locs : List Loc) (ls : Array Slot), Hx WN ad ca WS D A s.heap mm H locs → lv_has ls 12 [(0, .ref (ad 58)), (2, .int v2), (3, .int v3), (4, .int v4), (5, .int v5), (6, .int v6), (7, .int v7), (8, .int v8)] → W p l e (rmk 106) s m args below meth c H locs 0 0 (MQ below (QcI WN ad ca WS D A pzT q) args s 0 0 A) (F0 m 47 ls [])) {v2 : Int32} {v3 : Int32} {v4 : Int32} {v5 : Int32} {v6 : Int32} {v7 : Int32} {v8 : Int32} {mm : Mm} (h : BX10_drawn_47 k47 v2 v3 v4 v5 v6 v7 v8 mm = some q) (hH : Hx WN ad ca WS D A s.heap mm H locs) (hl : lv_has ls 12 [(0, .ref (ad 58)), (2, .int v2), (3, .int v3), (4, .int v4), (5, .int v5), (6, .int v6), (7, .int v7), (8, .int v8)]) : W p l e (rmk 106) s m args below meth c H locs 0 0 (MQ below (QcI WN ad ca WS D A pzT q) args s 0 0 A) (F0 m 47 ls []) := by
  unfold BX10_drawn_47 at h
  have hx := C.1
  have hb := C.2.1
  refine lv_iload hx hb dX10_drawn_47 (lv_at hl 7 rfl) ?_
  refine lv_iload_n hx hb dX10_drawn_49 rfl (lv_at hl 1 rfl) ?_
  refine lv_icmp_ge (tgt := 183) hx hb dX10_drawn_50 (by decide) (fun hc50 => ?_) (fun hc50 => ?_)
  · replace h := tT hc50 h
    refine lv_iload hx hb dX10_drawn_183 (lv_at hl 3 rfl) ?_
    refine lv_if_ne (tgt := 193) hx hb dX10_drawn_185 (by decide) (fun hc185 => ?_) (fun hc185 => ?_)
    · replace h := tF hc185 h
      refine lv_iload hx hb dX10_drawn_193 (lv_at hl 6 rfl) ?_
      have h := Option.some.inj h
      subst h
      exact retI C hH trivial dX10_drawn_195
    · replace h := tT hc185 h
      refine lv_iload hx hb dX10_drawn_188 (lv_at hl 5 rfl) ?_
      refine lv_goto (tgt := 195) hx hb dX10_drawn_190 (by decide) ?_
      have h := Option.some.inj h
      subst h
      exact retI C hH trivial dX10_drawn_195
  · replace h := tF hc50 h
    refine lv_aload_n hx hb dX10_drawn_53 rfl (lv_at hl 0 rfl) ?_
    refine rgS C hH fs_RX10_9_58 dX10_drawn_54 ?_
    refine lv_bipush (v := 44) hx hb dX10_drawn_57 (by decide) ?_
    refine lv_iload_n hx hb dX10_drawn_59 rfl (lv_at hl 2 rfl) ?_
    refine lv_iadd hx hb dX10_drawn_60 ?_
    obtain ⟨hi61, h⟩ := tC h
    refine raI C hH (k := (Int32.toNatClampNeg (44 + v3))) (by decide) (show WS 59 = .inr (0, 62, 0) from rfl) hi61 rfl dX10_drawn_61 ?_
    refine lv_istore (lv' := [(9, .int (gI mm 59 (Int32.toNatClampNeg (44 + v3)))), (0, .ref (ad 58)), (2, .int v2), (3, .int v3), (4, .int v4), (5, .int v5), (6, .int v6), (7, .int v7), (8, .int v8)]) hx hb dX10_drawn_62 hl (by decide) rfl (fun ls hl => ?_)
    refine lv_iconst (v := 0) hx hb dX10_drawn_64 (by decide) ?_
    refine lv_istore (lv' := [(10, .int 0), (9, .int (gI mm 59 (Int32.toNatClampNeg (44 + v3)))), (0, .ref (ad 58)), (2, .int v2), (3, .int v3), (4, .int v4), (5, .int v5), (6, .int v6), (7, .int v7), (8, .int v8)]) hx hb dX10_drawn_65 hl (by decide) rfl (fun ls hl => ?_)
    exact wX10_drawn_67 C hk47 FU _ _ _ _ _ _ _ _ _ _ h _ _ _ hH (lv_sub hl [2, 3, 4, 5, 6, 7, 8, 9, 1, 0] rfl)
set_option maxHeartbeats 2000000 in
set_option maxRecDepth 20000 in
theorem wX10_drawn_47 (C : Cx D ca A p s m args meth c cX10_drawn RX10 12 (some .int)) {q : Int32 × Mm} : ∀ (N : Nat) (v2 : Int32) (v3 : Int32) (v4 : Int32) (v5 : Int32) (v6 : Int32) (v7 : Int32) (v8 : Int32) (mm : Mm), DX10_drawn_47 N v2 v3 v4 v5 v6 v7 v8 mm = some q → ∀ (H : Heap) (locs : List Loc) (ls : Array Slot), Hx WN ad ca WS D A s.heap mm H locs → lv_has ls 12 [(0, .ref (ad 58)), (2, .int v2), (3, .int v3), (4, .int v4), (5, .int v5), (6, .int v6), (7, .int v7), (8, .int v8)] → W p l e (rmk 106) s m args below meth c H locs 0 0 (MQ below (QcI WN ad ca WS D A pzT q) args s 0 0 A) (F0 m 47 ls []) := by
  intro N
  induction N with
  | zero =>
    intro v2 v3 v4 v5 v6 v7 v8 mm h
    have h2 : (none : Option (Int32 × Mm)) = some q := h
    cases h2
  | succ N ih =>
    intro v2 v3 v4 v5 v6 v7 v8 mm h H locs ls hH hl
    exact wbX10_drawn_47 C ih h hH hl
set_option maxHeartbeats 2000000 in
set_option maxRecDepth 20000 in
theorem mX10_drawn (l : Launch) {D : va_G} {ca : Nat → ClassId} {A : Nat → Prop} {ad : Nat → Nat} {v1 : Int32} {v2 : Int32} {v3 : Int32} {v4 : Int32} {mm : Mm} {q : Int32 × Mm} (h : dX10_drawn v1 v2 v3 v4 mm = some q) : Met l yX10_drawn (wsOf yX10_drawn cX10_drawn 12 (some .int)) (rmk 106) (PcX WN ad ca WS D A [.ref (ad 58), .int v1, .int v2, .int v3, .int v4] mm) (QcI WN ad ca WS D A pzT q) 0 0 A := by
  unfold dX10_drawn at h
  refine ent (by decide) (Nat.le_of_ble_eq_true rfl) (fun p e s m args below meth c hargs C hH ls hl => ?_)
  have hx := C.1
  have hb := C.2.1
  have hl : lv_has ls 12 [(0, .ref (ad 58)), (1, .int v1), (2, .int v2), (3, .int v3), (4, .int v4)] := hl
  refine lv_iload_n hx hb dX10_drawn_0 rfl (lv_at hl 2 rfl) ?_
  refine lv_i2l' hx hb dX10_drawn_1 ?_
  refine lv_lconst (v := 1) hx hb dX10_drawn_2 (by decide) ?_
  refine rldc2 C (v := 30) k_RX10_293 dX10_drawn_3 ?_
  obtain ⟨q6, e6, h⟩ := tB h
  refine rsI C hH hl.1 (mX10_within l e6) cs_RX10_96 (RR_of (by decide) (by decide)) rfl (rest := []) rfl (Nat.le_of_ble_eq_true rfl) dX10_drawn_6 ?_
  intro hz6 H locs hH
  refine lv_if_eq (tgt := 32) hx hb dX10_drawn_9 (by decide) (fun hc9 => ?_) (fun hc9 => ?_)
  · replace h := tT hc9 h
    exact wX10_drawn_32 C h hH (lv_sub hl [] rfl)
  · replace h := tF hc9 h
    refine lv_aload_n hx hb dX10_drawn_12 rfl (lv_at hl 0 rfl) ?_
    refine lv_iload_n hx hb dX10_drawn_13 rfl (lv_at hl 3 rfl) ?_
    refine lv_i2l' hx hb dX10_drawn_14 ?_
    obtain ⟨q15, e15, h⟩ := tB h
    refine rcI C hH hl.1 (mX10_isBuyer l e15) cf_RX10_135 ro_58 (RR_of (by decide) (by decide)) rfl (rest := []) rfl (Nat.le_of_ble_eq_true rfl) dX10_drawn_15 ?_
    intro hz15 H locs hH
    refine lv_if_eq (tgt := 32) hx hb dX10_drawn_18 (by decide) (fun hc18 => ?_) (fun hc18 => ?_)
    · replace h := tT hc18 h
      exact wX10_drawn_32 C h hH (lv_sub hl [] rfl)
    · replace h := tF hc18 h
      refine lv_iload hx hb dX10_drawn_21 (lv_at hl 4 rfl) ?_
      refine lv_i2l' hx hb dX10_drawn_23 ?_
      refine lv_lconst (v := 0) hx hb dX10_drawn_24 (by decide) ?_
      refine lv_lconst (v := 1) hx hb dX10_drawn_25 (by decide) ?_
      obtain ⟨q26, e26, h⟩ := tB h
      refine rsI C hH hl.1 (mX10_within l e26) cs_RX10_96 (RR_of (by decide) (by decide)) rfl (rest := []) rfl (Nat.le_of_ble_eq_true rfl) dX10_drawn_26 ?_
      intro hz26 H locs hH
      refine lv_if_ne (tgt := 35) hx hb dX10_drawn_29 (by decide) (fun hc29 => ?_) (fun hc29 => ?_)
      · replace h := tF hc29 h
        refine lv_iload_n hx hb dX10_drawn_35 rfl (lv_at hl 1 rfl) ?_
        refine lv_istore (lv' := [(5, .int v1), (0, .ref (ad 58)), (1, .int v1), (2, .int v2), (3, .int v3), (4, .int v4)]) hx hb dX10_drawn_36 hl (by decide) rfl (fun ls hl => ?_)
        refine lv_iconst (v := 0) hx hb dX10_drawn_38 (by decide) ?_
        refine lv_istore (lv' := [(6, .int 0), (5, .int v1), (0, .ref (ad 58)), (1, .int v1), (2, .int v2), (3, .int v3), (4, .int v4)]) hx hb dX10_drawn_39 hl (by decide) rfl (fun ls hl => ?_)
        refine lv_iconst (v := 0) hx hb dX10_drawn_41 (by decide) ?_
        refine lv_istore (lv' := [(7, .int 0), (6, .int 0), (5, .int v1), (0, .ref (ad 58)), (1, .int v1), (2, .int v2), (3, .int v3), (4, .int v4)]) hx hb dX10_drawn_42 hl (by decide) rfl (fun ls hl => ?_)
        refine lv_iconst (v := 0) hx hb dX10_drawn_44 (by decide) ?_
        refine lv_istore (lv' := [(8, .int 0), (7, .int 0), (6, .int 0), (5, .int v1), (0, .ref (ad 58)), (1, .int v1), (2, .int v2), (3, .int v3), (4, .int v4)]) hx hb dX10_drawn_45 hl (by decide) rfl (fun ls hl => ?_)
        exact wX10_drawn_47 C FU _ _ _ _ _ _ _ _ h _ _ _ hH (lv_sub hl [4, 6, 7, 8, 3, 2, 1, 0] rfl)
      · replace h := tT hc29 h
        exact wX10_drawn_32 C h hH (lv_sub hl [] rfl)
set_option maxHeartbeats 2000000 in
set_option maxRecDepth 20000 in
theorem mX3_handOver (l : Launch) {D : va_G} {ca : Nat → ClassId} {A : Nat → Prop} {ad : Nat → Nat} {v1 : Int32} {v2 : Int32} {mm : Mm} {q : Int32 × Mm} (h : dX3_handOver v1 v2 mm = some q) : Met l yX3_handOver (wsOf yX3_handOver cX3_handOver 5 (some .int)) (rmk 3) (PcX WN ad ca WS D A [.ref (ad 23), .int v1, .int v2] mm) (QcI WN ad ca WS D A pzT q) 0 0 A := by
  unfold dX3_handOver at h
  refine ent (by decide) (Nat.le_of_ble_eq_true rfl) (fun p e s m args below meth c hargs C hH ls hl => ?_)
  have hx := C.1
  have hb := C.2.1
  have hl : lv_has ls 5 [(0, .ref (ad 23)), (1, .int v1), (2, .int v2)] := hl
  refine lv_aload_n hx hb dX3_handOver_0 rfl (lv_at hl 0 rfl) ?_
  refine rgS C hH fs_RX3_27_23 dX3_handOver_1 ?_
  refine lv_iconst (v := 5) hx hb dX3_handOver_4 (by decide) ?_
  refine lv_iload_n hx hb dX3_handOver_5 rfl (lv_at hl 1 rfl) ?_
  obtain ⟨q6, e6, h⟩ := tB h
  refine rcI C hH hl.1 (mX7_told l e6) cf_RX3_31 ro_1 (RR_of (by decide) (by decide)) rfl (rest := []) rfl (Nat.le_of_ble_eq_true rfl) dX3_handOver_6 ?_
  intro hz6 H locs hH
  refine lv_istore_n (lv' := [(3, .int q6.1), (0, .ref (ad 23)), (1, .int v1), (2, .int v2)]) hx hb dX3_handOver_9 rfl hl (by decide) rfl (fun ls hl => ?_)
  refine lv_aload_n hx hb dX3_handOver_10 rfl (lv_at hl 1 rfl) ?_
  refine rgS C hH fs_RX3_27_23 dX3_handOver_11 ?_
  refine lv_bipush (v := 6) hx hb dX3_handOver_14 (by decide) ?_
  refine lv_iload_n hx hb dX3_handOver_16 rfl (lv_at hl 3 rfl) ?_
  obtain ⟨q17, e17, h⟩ := tB h
  refine rcI C hH hl.1 (mX7_told l e17) cf_RX3_31 ro_1 (RR_of (by decide) (by decide)) rfl (rest := []) rfl (Nat.le_of_ble_eq_true rfl) dX3_handOver_17 ?_
  intro hz17 H locs hH
  refine lv_iload_n hx hb dX3_handOver_20 rfl (lv_at hl 0 rfl) ?_
  refine lv_isub hx hb dX3_handOver_21 ?_
  refine lv_istore (lv' := [(4, .int (q17.1 - q6.1)), (3, .int q6.1), (0, .ref (ad 23)), (1, .int v1), (2, .int v2)]) hx hb dX3_handOver_22 hl (by decide) rfl (fun ls hl => ?_)
  refine lv_aload_n hx hb dX3_handOver_24 rfl (lv_at hl 2 rfl) ?_
  refine rgS C hH fs_RX3_27_23 dX3_handOver_25 ?_
  refine lv_bipush (v := 6) hx hb dX3_handOver_28 (by decide) ?_
  refine lv_iload_n hx hb dX3_handOver_30 rfl (lv_at hl 4 rfl) ?_
  refine lv_iload hx hb dX3_handOver_31 (lv_at hl 0 rfl) ?_
  obtain ⟨q33, e33, h⟩ := tB h
  refine rcV C hH hl.1 (mX7_set l e33) cf_RX3_37 ro_1 (RR_of (by decide) (by decide)) rfl (rest := []) rfl (Nat.le_of_ble_eq_true rfl) dX3_handOver_33 ?_
  intro H locs hH
  refine lv_aload_n hx hb dX3_handOver_36 rfl (lv_at hl 2 rfl) ?_
  refine rgS C hH fs_RX3_27_23 dX3_handOver_37 ?_
  refine lv_bipush (v := 9) hx hb dX3_handOver_40 (by decide) ?_
  refine lv_iload_n hx hb dX3_handOver_42 rfl (lv_at hl 3 rfl) ?_
  refine lv_iload_n hx hb dX3_handOver_43 rfl (lv_at hl 4 rfl) ?_
  obtain ⟨q44, e44, h⟩ := tB h
  refine rcV C hH hl.1 (mX7_set l e44) cf_RX3_37 ro_1 (RR_of (by decide) (by decide)) rfl (rest := []) rfl (Nat.le_of_ble_eq_true rfl) dX3_handOver_44 ?_
  intro H locs hH
  refine lv_aload_n hx hb dX3_handOver_47 rfl (lv_at hl 2 rfl) ?_
  refine rgS C hH fs_RX3_11_23 dX3_handOver_48 ?_
  refine lv_iconst (v := 0) hx hb dX3_handOver_51 (by decide) ?_
  refine lv_dup2_11 hx hb dX3_handOver_52 rfl rfl ?_
  refine raI C hH (k := 0) (by decide) (show WS 24 = .inr (0, 5, 0) from rfl) (show inB 0 5 from by decide) (by decide) dX3_handOver_53 ?_
  refine lv_iconst (v := 1) hx hb dX3_handOver_54 (by decide) ?_
  refine lv_iadd hx hb dX3_handOver_55 ?_
  refine rwI C hH (k := 0) (by decide) (show WS 24 = .inr (0, 5, 0) from rfl) (show inB 0 5 from by decide) (by decide) dX3_handOver_56 (fun H locs hH => ?_)
  refine lv_aload_n hx hb dX3_handOver_57 rfl (lv_at hl 2 rfl) ?_
  refine rgS C hH fs_RX3_11_23 dX3_handOver_58 ?_
  refine lv_iconst (v := 1) hx hb dX3_handOver_61 (by decide) ?_
  refine lv_dup2_11 hx hb dX3_handOver_62 rfl rfl ?_
  refine raI C hH (k := 1) (by decide) (show WS 24 = .inr (0, 5, 0) from rfl) (show inB 1 5 from by decide) (by decide) dX3_handOver_63 ?_
  refine lv_iload_n hx hb dX3_handOver_64 rfl (lv_at hl 1 rfl) ?_
  refine lv_iadd hx hb dX3_handOver_65 ?_
  refine rwI C hH (k := 1) (by decide) (show WS 24 = .inr (0, 5, 0) from rfl) (show inB 1 5 from by decide) (by decide) dX3_handOver_66 (fun H locs hH => ?_)
  refine lv_iload hx hb dX3_handOver_67 (lv_at hl 0 rfl) ?_
  have h := Option.some.inj h
  subst h
  exact retI C hH trivial dX3_handOver_69
set_option maxHeartbeats 2000000 in
set_option maxRecDepth 20000 in
theorem wX9_sell_25 (C : Cx D ca A p s m args meth c cX9_sell RX9 3 (some .int)) {q : Int32 × Mm} {mm : Mm} (h : DX9_sell_25 mm = some q) (hH : Hx WN ad ca WS D A s.heap mm H locs) (hl : lv_has ls 3 []) : W p l e (rmk 5) s m args below meth c H locs 0 0 (MQ below (QcI WN ad ca WS D A pzT q) args s 0 0 A) (F0 m 25 ls []) := by
  unfold DX9_sell_25 at h
  have hx := C.1
  have hb := C.2.1
  refine lv_iconst (v := (-1)) hx hb dX9_sell_25 (by decide) ?_
  have h := Option.some.inj h
  subst h
  exact retI C hH trivial dX9_sell_26
set_option maxHeartbeats 2000000 in
set_option maxRecDepth 20000 in
theorem wX9_sell_60 (C : Cx D ca A p s m args meth c cX9_sell RX9 3 (some .int)) {q : Int32 × Mm} {mm : Mm} (h : DX9_sell_60 mm = some q) (hH : Hx WN ad ca WS D A s.heap mm H locs) (hl : lv_has ls 3 []) : W p l e (rmk 5) s m args below meth c H locs 0 0 (MQ below (QcI WN ad ca WS D A pzT q) args s 0 0 A) (F0 m 60 ls []) := by
  unfold DX9_sell_60 at h
  have hx := C.1
  have hb := C.2.1
  refine lv_bipush (v := (-5)) hx hb dX9_sell_60 (by decide) ?_
  have h := Option.some.inj h
  subst h
  exact retI C hH trivial dX9_sell_62
set_option maxHeartbeats 2000000 in
set_option maxRecDepth 20000 in
theorem mX9_sell (l : Launch) {D : va_G} {ca : Nat → ClassId} {A : Nat → Prop} {ad : Nat → Nat} {v1 : Int32} {v2 : Int32} {mm : Mm} {q : Int32 × Mm} (h : dX9_sell v1 v2 mm = some q) : Met l yX9_sell (wsOf yX9_sell cX9_sell 3 (some .int)) (rmk 5) (PcX WN ad ca WS D A [.ref (ad 0), .int v1, .int v2] mm) (QcI WN ad ca WS D A pzT q) 0 0 A := by
  unfold dX9_sell at h
  refine ent (by decide) (Nat.le_of_ble_eq_true rfl) (fun p e s m args below meth c hargs C hH ls hl => ?_)
  have hx := C.1
  have hb := C.2.1
  have hl : lv_has ls 3 [(0, .ref (ad 0)), (1, .int v1), (2, .int v2)] := hl
  refine lv_aload_n hx hb dX9_sell_0 rfl (lv_at hl 0 rfl) ?_
  refine rgS C hH fs_RX9_10_0 dX9_sell_1 ?_
  refine lv_iconst (v := 4) hx hb dX9_sell_4 (by decide) ?_
  refine lv_iload_n hx hb dX9_sell_5 rfl (lv_at hl 1 rfl) ?_
  obtain ⟨q6, e6, h⟩ := tB h
  refine rcI C hH hl.1 (mX7_holds l e6) cf_RX9_67 ro_1 (RR_of (by decide) (by decide)) rfl (rest := []) rfl (Nat.le_of_ble_eq_true rfl) dX9_sell_6 ?_
  intro hz6 H locs hH
  refine lv_if_eq (tgt := 25) hx hb dX9_sell_9 (by decide) (fun hc9 => ?_) (fun hc9 => ?_)
  · replace h := tT hc9 h
    exact wX9_sell_25 C h hH (lv_sub hl [] rfl)
  · replace h := tF hc9 h
    refine lv_aload_n hx hb dX9_sell_12 rfl (lv_at hl 0 rfl) ?_
    refine rgS C hH fs_RX9_10_0 dX9_sell_13 ?_
    refine lv_bipush (v := 6) hx hb dX9_sell_16 (by decide) ?_
    refine lv_iload_n hx hb dX9_sell_18 rfl (lv_at hl 2 rfl) ?_
    obtain ⟨q19, e19, h⟩ := tB h
    refine rcI C hH hl.1 (mX7_holds l e19) cf_RX9_67 ro_1 (RR_of (by decide) (by decide)) rfl (rest := []) rfl (Nat.le_of_ble_eq_true rfl) dX9_sell_19 ?_
    intro hz19 H locs hH
    refine lv_if_ne (tgt := 27) hx hb dX9_sell_22 (by decide) (fun hc22 => ?_) (fun hc22 => ?_)
    · replace h := tF hc22 h
      refine lv_aload_n hx hb dX9_sell_27 rfl (lv_at hl 0 rfl) ?_
      refine rgS C hH fs_RX9_10_0 dX9_sell_28 ?_
      refine lv_iload_n hx hb dX9_sell_31 rfl (lv_at hl 1 rfl) ?_
      obtain ⟨q32, e32, h⟩ := tB h
      refine rcI C hH hl.1 (mX7_isFree l e32) cf_RX9_235 ro_1 (RR_of (by decide) (by decide)) rfl (rest := []) rfl (Nat.le_of_ble_eq_true rfl) dX9_sell_32 ?_
      intro hz32 H locs hH
      refine lv_if_eq (tgt := 60) hx hb dX9_sell_35 (by decide) (fun hc35 => ?_) (fun hc35 => ?_)
      · replace h := tT hc35 h
        exact wX9_sell_60 C h hH (lv_sub hl [] rfl)
      · replace h := tF hc35 h
        refine lv_aload_n hx hb dX9_sell_38 rfl (lv_at hl 0 rfl) ?_
        refine rgS C hH fs_RX9_10_0 dX9_sell_39 ?_
        refine lv_bipush (v := 6) hx hb dX9_sell_42 (by decide) ?_
        refine lv_iload_n hx hb dX9_sell_44 rfl (lv_at hl 2 rfl) ?_
        obtain ⟨q45, e45, h⟩ := tB h
        refine rcI C hH hl.1 (mX7_told l e45) cf_RX9_98 ro_1 (RR_of (by decide) (by decide)) rfl (rest := []) rfl (Nat.le_of_ble_eq_true rfl) dX9_sell_45 ?_
        intro hz45 H locs hH
        refine lv_aload_n hx hb dX9_sell_48 rfl (lv_at hl 0 rfl) ?_
        refine rgS C hH fs_RX9_10_0 dX9_sell_49 ?_
        refine lv_iconst (v := 5) hx hb dX9_sell_52 (by decide) ?_
        refine lv_iload_n hx hb dX9_sell_53 rfl (lv_at hl 1 rfl) ?_
        obtain ⟨q54, e54, h⟩ := tB h
        refine rcI C hH hl.1 (mX7_told l e54) cf_RX9_98 ro_1 (RR_of (by decide) (by decide)) rfl (rest := [.int q45.1]) rfl (Nat.le_of_ble_eq_true rfl) dX9_sell_54 ?_
        intro hz54 H locs hH
        refine lv_icmp_ge (tgt := 63) hx hb dX9_sell_57 (by decide) (fun hc57 => ?_) (fun hc57 => ?_)
        · replace h := tT hc57 h
          refine lv_aload_n hx hb dX9_sell_63 rfl (lv_at hl 0 rfl) ?_
          refine rgS C hH fs_RX9_42_0 dX9_sell_64 ?_
          refine lv_iload_n hx hb dX9_sell_67 rfl (lv_at hl 1 rfl) ?_
          refine lv_iload_n hx hb dX9_sell_68 rfl (lv_at hl 2 rfl) ?_
          obtain ⟨q69, e69, h⟩ := tB h
          refine rcI C hH hl.1 (mX3_handOver l e69) cf_RX9_248 ro_23 (RR_of (by decide) (by decide)) rfl (rest := []) rfl (Nat.le_of_ble_eq_true rfl) dX9_sell_69 ?_
          intro hz69 H locs hH
          have h := Option.some.inj h
          subst h
          exact retI C hH trivial dX9_sell_72
        · replace h := tF hc57 h
          exact wX9_sell_60 C h hH (lv_sub hl [] rfl)
    · replace h := tT hc22 h
      exact wX9_sell_25 C h hH (lv_sub hl [] rfl)
set_option maxHeartbeats 2000000 in
set_option maxRecDepth 20000 in
theorem wX10_sell_18 (C : Cx D ca A p s m args meth c cX10_sell RX10 4 (some .int)) {q : Int32 × Mm} {mm : Mm} (h : DX10_sell_18 mm = some q) (hH : Hx WN ad ca WS D A s.heap mm H locs) (hl : lv_has ls 4 []) : W p l e (rmk 3) s m args below meth c H locs 0 0 (MQ below (QcI WN ad ca WS D A pzT q) args s 0 0 A) (F0 m 18 ls []) := by
  unfold DX10_sell_18 at h
  have hx := C.1
  have hb := C.2.1
  refine lv_iconst (v := (-1)) hx hb dX10_sell_18 (by decide) ?_
  have h := Option.some.inj h
  subst h
  exact retI C hH trivial dX10_sell_19
set_option maxHeartbeats 2000000 in
set_option maxRecDepth 20000 in
theorem wX10_sell_51 (C : Cx D ca A p s m args meth c cX10_sell RX10 4 (some .int)) {q : Int32 × Mm} {mm : Mm} (h : DX10_sell_51 mm = some q) (hH : Hx WN ad ca WS D A s.heap mm H locs) (hl : lv_has ls 4 []) : W p l e (rmk 3) s m args below meth c H locs 0 0 (MQ below (QcI WN ad ca WS D A pzT q) args s 0 0 A) (F0 m 51 ls []) := by
  unfold DX10_sell_51 at h
  have hx := C.1
  have hb := C.2.1
  refine lv_bipush (v := (-5)) hx hb dX10_sell_51 (by decide) ?_
  have h := Option.some.inj h
  subst h
  exact retI C hH trivial dX10_sell_53
set_option maxHeartbeats 2000000 in
set_option maxRecDepth 20000 in
theorem mX10_sell (l : Launch) {D : va_G} {ca : Nat → ClassId} {A : Nat → Prop} {ad : Nat → Nat} {v1 : Int32} {v2 : Int32} {mm : Mm} {q : Int32 × Mm} (h : dX10_sell v1 v2 mm = some q) : Met l yX10_sell (wsOf yX10_sell cX10_sell 4 (some .int)) (rmk 3) (PcX WN ad ca WS D A [.ref (ad 58), .int v1, .int v2] mm) (QcI WN ad ca WS D A pzT q) 0 0 A := by
  unfold dX10_sell at h
  refine ent (by decide) (Nat.le_of_ble_eq_true rfl) (fun p e s m args below meth c hargs C hH ls hl => ?_)
  have hx := C.1
  have hb := C.2.1
  have hl : lv_has ls 4 [(0, .ref (ad 58)), (1, .int v1), (2, .int v2)] := hl
  refine lv_aload_n hx hb dX10_sell_0 rfl (lv_at hl 0 rfl) ?_
  refine lv_iload_n hx hb dX10_sell_1 rfl (lv_at hl 1 rfl) ?_
  refine lv_i2l' hx hb dX10_sell_2 ?_
  obtain ⟨q3, e3, h⟩ := tB h
  refine rcI C hH hl.1 (mX10_isSack l e3) cf_RX10_130 ro_58 (RR_of (by decide) (by decide)) rfl (rest := []) rfl (Nat.le_of_ble_eq_true rfl) dX10_sell_3 ?_
  intro hz3 H locs hH
  refine lv_if_eq (tgt := 18) hx hb dX10_sell_6 (by decide) (fun hc6 => ?_) (fun hc6 => ?_)
  · replace h := tT hc6 h
    exact wX10_sell_18 C h hH (lv_sub hl [] rfl)
  · replace h := tF hc6 h
    refine lv_aload_n hx hb dX10_sell_9 rfl (lv_at hl 0 rfl) ?_
    refine lv_iload_n hx hb dX10_sell_10 rfl (lv_at hl 2 rfl) ?_
    refine lv_i2l' hx hb dX10_sell_11 ?_
    obtain ⟨q12, e12, h⟩ := tB h
    refine rcI C hH hl.1 (mX10_isBuyer l e12) cf_RX10_135 ro_58 (RR_of (by decide) (by decide)) rfl (rest := []) rfl (Nat.le_of_ble_eq_true rfl) dX10_sell_12 ?_
    intro hz12 H locs hH
    refine lv_if_ne (tgt := 20) hx hb dX10_sell_15 (by decide) (fun hc15 => ?_) (fun hc15 => ?_)
    · replace h := tF hc15 h
      refine lv_aload_n hx hb dX10_sell_20 rfl (lv_at hl 0 rfl) ?_
      refine rgS C hH fs_RX10_9_58 dX10_sell_21 ?_
      refine lv_bipush (v := 34) hx hb dX10_sell_24 (by decide) ?_
      refine lv_iload_n hx hb dX10_sell_26 rfl (lv_at hl 1 rfl) ?_
      refine lv_iadd hx hb dX10_sell_27 ?_
      obtain ⟨hi28, h⟩ := tC h
      refine raI C hH (k := (Int32.toNatClampNeg (34 + v1))) (by decide) (show WS 59 = .inr (0, 62, 0) from rfl) hi28 rfl dX10_sell_28 ?_
      refine lv_istore_n (lv' := [(3, .int (gI q12.2 59 (Int32.toNatClampNeg (34 + v1)))), (0, .ref (ad 58)), (1, .int v1), (2, .int v2)]) hx hb dX10_sell_29 rfl hl (by decide) rfl (fun ls hl => ?_)
      refine lv_aload_n hx hb dX10_sell_30 rfl (lv_at hl 1 rfl) ?_
      refine lv_iload_n hx hb dX10_sell_31 rfl (lv_at hl 2 rfl) ?_
      obtain ⟨q32, e32, h⟩ := tB h
      refine rcI C hH hl.1 (mX10_isFree l e32) cf_RX10_261 ro_58 (RR_of (by decide) (by decide)) rfl (rest := []) rfl (Nat.le_of_ble_eq_true rfl) dX10_sell_32 ?_
      intro hz32 H locs hH
      refine lv_if_eq (tgt := 51) hx hb dX10_sell_35 (by decide) (fun hc35 => ?_) (fun hc35 => ?_)
      · replace h := tT hc35 h
        exact wX10_sell_51 C h hH (lv_sub hl [] rfl)
      · replace h := tF hc35 h
        refine lv_aload_n hx hb dX10_sell_38 rfl (lv_at hl 1 rfl) ?_
        refine rgS C hH fs_RX10_9_58 dX10_sell_39 ?_
        refine lv_bipush (v := 44) hx hb dX10_sell_42 (by decide) ?_
        refine lv_iload_n hx hb dX10_sell_44 rfl (lv_at hl 3 rfl) ?_
        refine lv_iadd hx hb dX10_sell_45 ?_
        obtain ⟨hi46, h⟩ := tC h
        refine raI C hH (k := (Int32.toNatClampNeg (44 + v2))) (by decide) (show WS 59 = .inr (0, 62, 0) from rfl) hi46 rfl dX10_sell_46 ?_
        refine lv_iload_n hx hb dX10_sell_47 rfl (lv_at hl 0 rfl) ?_
        refine lv_icmp_ge (tgt := 54) hx hb dX10_sell_48 (by decide) (fun hc48 => ?_) (fun hc48 => ?_)
        · replace h := tT hc48 h
          refine lv_aload_n hx hb dX10_sell_54 rfl (lv_at hl 1 rfl) ?_
          refine rgS C hH fs_RX10_22_58 dX10_sell_55 ?_
          refine lv_iload_n hx hb dX10_sell_58 rfl (lv_at hl 2 rfl) ?_
          refine lv_iload_n hx hb dX10_sell_59 rfl (lv_at hl 3 rfl) ?_
          obtain ⟨hi60, h⟩ := tC h
          refine rwI C hH (k := (Int32.toNatClampNeg v1)) (by decide) (show WS 63 = .inr (0, 10, 0) from rfl) hi60 rfl dX10_sell_60 (fun H locs hH => ?_)
          refine lv_aload_n hx hb dX10_sell_61 rfl (lv_at hl 1 rfl) ?_
          refine rgS C hH fs_RX10_9_58 dX10_sell_62 ?_
          refine lv_bipush (v := 44) hx hb dX10_sell_65 (by decide) ?_
          refine lv_iload_n hx hb dX10_sell_67 rfl (lv_at hl 3 rfl) ?_
          refine lv_iadd hx hb dX10_sell_68 ?_
          refine lv_dup2_11 hx hb dX10_sell_69 rfl rfl ?_
          obtain ⟨hi70, h⟩ := tC h
          refine raI C hH (k := (Int32.toNatClampNeg (44 + v2))) (by decide) (show WS 59 = .inr (0, 62, 0) from rfl) hi70 rfl dX10_sell_70 ?_
          refine lv_iload_n hx hb dX10_sell_71 rfl (lv_at hl 0 rfl) ?_
          refine lv_isub hx hb dX10_sell_72 ?_
          obtain ⟨hi73, h⟩ := tC h
          refine rwI C hH (k := (Int32.toNatClampNeg (44 + v2))) (by decide) (show WS 59 = .inr (0, 62, 0) from rfl) hi73 rfl dX10_sell_73 (fun H locs hH => ?_)
          refine lv_aload_n hx hb dX10_sell_74 rfl (lv_at hl 1 rfl) ?_
          refine rgS C hH fs_RX10_51_58 dX10_sell_75 ?_
          refine lv_iconst (v := 0) hx hb dX10_sell_78 (by decide) ?_
          refine lv_dup2_11 hx hb dX10_sell_79 rfl rfl ?_
          refine raI C hH (k := 0) (by decide) (show WS 72 = .inr (0, 5, 0) from rfl) (show inB 0 5 from by decide) (by decide) dX10_sell_80 ?_
          refine lv_iconst (v := 1) hx hb dX10_sell_81 (by decide) ?_
          refine lv_iadd hx hb dX10_sell_82 ?_
          refine rwI C hH (k := 0) (by decide) (show WS 72 = .inr (0, 5, 0) from rfl) (show inB 0 5 from by decide) (by decide) dX10_sell_83 (fun H locs hH => ?_)
          refine lv_aload_n hx hb dX10_sell_84 rfl (lv_at hl 1 rfl) ?_
          refine rgS C hH fs_RX10_51_58 dX10_sell_85 ?_
          refine lv_iconst (v := 1) hx hb dX10_sell_88 (by decide) ?_
          refine lv_dup2_11 hx hb dX10_sell_89 rfl rfl ?_
          refine raI C hH (k := 1) (by decide) (show WS 72 = .inr (0, 5, 0) from rfl) (show inB 1 5 from by decide) (by decide) dX10_sell_90 ?_
          refine lv_iload_n hx hb dX10_sell_91 rfl (lv_at hl 0 rfl) ?_
          refine lv_iadd hx hb dX10_sell_92 ?_
          refine rwI C hH (k := 1) (by decide) (show WS 72 = .inr (0, 5, 0) from rfl) (show inB 1 5 from by decide) (by decide) dX10_sell_93 (fun H locs hH => ?_)
          refine lv_aload_n hx hb dX10_sell_94 rfl (lv_at hl 1 rfl) ?_
          refine rgS C hH fs_RX10_9_58 dX10_sell_95 ?_
          refine lv_bipush (v := 44) hx hb dX10_sell_98 (by decide) ?_
          refine lv_iload_n hx hb dX10_sell_100 rfl (lv_at hl 3 rfl) ?_
          refine lv_iadd hx hb dX10_sell_101 ?_
          obtain ⟨hi102, h⟩ := tC h
          refine raI C hH (k := (Int32.toNatClampNeg (44 + v2))) (by decide) (show WS 59 = .inr (0, 62, 0) from rfl) hi102 rfl dX10_sell_102 ?_
          have h := Option.some.inj h
          subst h
          exact retI C hH trivial dX10_sell_103
        · replace h := tF hc48 h
          exact wX10_sell_51 C h hH (lv_sub hl [] rfl)
    · replace h := tT hc15 h
      exact wX10_sell_18 C h hH (lv_sub hl [] rfl)
set_option maxHeartbeats 2000000 in
set_option maxRecDepth 20000 in
theorem wX3_untie_53 (C : Cx D ca A p s m args meth c cX3_untie RX3 2 none) {q : Unit × Mm} {s0 : Int32} {s1 : Int32} {s2 : Int32} {mm : Mm} (h : DX3_untie_53 s0 s1 s2 mm = some q) (hH : Hx WN ad ca WS D A s.heap mm H locs) (hl : lv_has ls 2 []) : W p l e (rmk 5) s m args below meth c H locs 0 0 (MQ below (QcV WN ad ca WS D A q) args s 0 0 A) (F0 m 53 ls [.int s0, .int s1, .int s2, .ref (ad 24)]) := by
  unfold DX3_untie_53 at h
  have hx := C.1
  have hb := C.2.1
  refine lv_iadd hx hb dX3_untie_53 ?_
  obtain ⟨hi54, h⟩ := tC h
  refine rwI C hH (k := (Int32.toNatClampNeg s2)) (by decide) (show WS 24 = .inr (0, 5, 0) from rfl) hi54 rfl dX3_untie_54 (fun H locs hH => ?_)
  have h := Option.some.inj h
  subst h
  exact retV C hH dX3_untie_55
set_option maxHeartbeats 2000000 in
set_option maxRecDepth 20000 in
theorem mX3_untie (l : Launch) {D : va_G} {ca : Nat → ClassId} {A : Nat → Prop} {ad : Nat → Nat} {v1 : Int32} {mm : Mm} {q : Unit × Mm} (h : dX3_untie v1 mm = some q) : Met l yX3_untie (wsOf yX3_untie cX3_untie 2 none) (rmk 5) (PcX WN ad ca WS D A [.ref (ad 23), .int v1] mm) (QcV WN ad ca WS D A q) 0 0 A := by
  unfold dX3_untie at h
  refine ent (by decide) (Nat.le_of_ble_eq_true rfl) (fun p e s m args below meth c hargs C hH ls hl => ?_)
  have hx := C.1
  have hb := C.2.1
  have hl : lv_has ls 2 [(0, .ref (ad 23)), (1, .int v1)] := hl
  refine lv_aload_n hx hb dX3_untie_0 rfl (lv_at hl 0 rfl) ?_
  refine rgS C hH fs_RX3_27_23 dX3_untie_1 ?_
  refine lv_bipush (v := 10) hx hb dX3_untie_4 (by decide) ?_
  refine lv_iload_n hx hb dX3_untie_6 rfl (lv_at hl 1 rfl) ?_
  refine lv_iconst (v := 1) hx hb dX3_untie_7 (by decide) ?_
  obtain ⟨q8, e8, h⟩ := tB h
  refine rcV C hH hl.1 (mX7_set l e8) cf_RX3_37 ro_1 (RR_of (by decide) (by decide)) rfl (rest := []) rfl (Nat.le_of_ble_eq_true rfl) dX3_untie_8 ?_
  intro H locs hH
  refine lv_aload_n hx hb dX3_untie_11 rfl (lv_at hl 0 rfl) ?_
  refine rgS C hH fs_RX3_11_23 dX3_untie_12 ?_
  refine lv_iconst (v := 2) hx hb dX3_untie_15 (by decide) ?_
  refine lv_dup2_11 hx hb dX3_untie_16 rfl rfl ?_
  refine raI C hH (k := 2) (by decide) (show WS 24 = .inr (0, 5, 0) from rfl) (show inB 2 5 from by decide) (by decide) dX3_untie_17 ?_
  refine lv_iconst (v := 1) hx hb dX3_untie_18 (by decide) ?_
  refine lv_iadd hx hb dX3_untie_19 ?_
  refine rwI C hH (k := 2) (by decide) (show WS 24 = .inr (0, 5, 0) from rfl) (show inB 2 5 from by decide) (by decide) dX3_untie_20 (fun H locs hH => ?_)
  refine lv_aload_n hx hb dX3_untie_21 rfl (lv_at hl 0 rfl) ?_
  refine rgS C hH fs_RX3_11_23 dX3_untie_22 ?_
  refine lv_iconst (v := 3) hx hb dX3_untie_25 (by decide) ?_
  refine lv_dup2_11 hx hb dX3_untie_26 rfl rfl ?_
  refine raI C hH (k := 3) (by decide) (show WS 24 = .inr (0, 5, 0) from rfl) (show inB 3 5 from by decide) (by decide) dX3_untie_27 ?_
  refine lv_aload_n hx hb dX3_untie_28 rfl (lv_at hl 0 rfl) ?_
  refine rgS C hH fs_RX3_27_23 dX3_untie_29 ?_
  refine lv_iload_n hx hb dX3_untie_32 rfl (lv_at hl 1 rfl) ?_
  refine lv_aload_n hx hb dX3_untie_33 rfl (lv_at hl 0 rfl) ?_
  refine rgS C hH fs_RX3_27_23 dX3_untie_34 ?_
  refine lv_iconst (v := 4) hx hb dX3_untie_37 (by decide) ?_
  refine lv_iload_n hx hb dX3_untie_38 rfl (lv_at hl 1 rfl) ?_
  obtain ⟨q39, e39, h⟩ := tB h
  refine rcI C hH hl.1 (mX7_told l e39) cf_RX3_31 ro_1 (RR_of (by decide) (by decide)) rfl (rest := [.int v1, .ref (ad 1), .int (gI (sI q8.2 24 2 ((gI q8.2 24 2) + 1)) 24 3), .int 3, .ref (ad 24)]) rfl (Nat.le_of_ble_eq_true rfl) dX3_untie_39 ?_
  intro hz39 H locs hH
  obtain ⟨q42, e42, h⟩ := tB h
  refine rcI C hH hl.1 (mX7_groans l e42) cf_RX3_41 ro_1 (RR_of (by decide) (by decide)) rfl (rest := [.int (gI (sI q8.2 24 2 ((gI q8.2 24 2) + 1)) 24 3), .int 3, .ref (ad 24)]) rfl (Nat.le_of_ble_eq_true rfl) dX3_untie_42 ?_
  intro hz42 H locs hH
  refine lv_if_eq (tgt := 52) hx hb dX3_untie_45 (by decide) (fun hc45 => ?_) (fun hc45 => ?_)
  · replace h := tT hc45 h
    refine lv_iconst (v := 0) hx hb dX3_untie_52 (by decide) ?_
    exact wX3_untie_53 C h hH (lv_sub hl [] rfl)
  · replace h := tF hc45 h
    refine lv_iconst (v := 1) hx hb dX3_untie_48 (by decide) ?_
    refine lv_goto (tgt := 53) hx hb dX3_untie_49 (by decide) ?_
    exact wX3_untie_53 C h hH (lv_sub hl [] rfl)
set_option maxHeartbeats 2000000 in
set_option maxRecDepth 20000 in
theorem mX9_open (l : Launch) {D : va_G} {ca : Nat → ClassId} {A : Nat → Prop} {ad : Nat → Nat} {v1 : Int32} {mm : Mm} {q : Int32 × Mm} (h : dX9_open v1 mm = some q) : Met l yX9_open (wsOf yX9_open cX9_open 2 (some .int)) (rmk 6) (PcX WN ad ca WS D A [.ref (ad 0), .int v1] mm) (QcI WN ad ca WS D A pzT q) 0 0 A := by
  unfold dX9_open at h
  refine ent (by decide) (Nat.le_of_ble_eq_true rfl) (fun p e s m args below meth c hargs C hH ls hl => ?_)
  have hx := C.1
  have hb := C.2.1
  have hl : lv_has ls 2 [(0, .ref (ad 0)), (1, .int v1)] := hl
  refine lv_aload_n hx hb dX9_open_0 rfl (lv_at hl 0 rfl) ?_
  refine rgS C hH fs_RX9_10_0 dX9_open_1 ?_
  refine lv_iconst (v := 4) hx hb dX9_open_4 (by decide) ?_
  refine lv_iload_n hx hb dX9_open_5 rfl (lv_at hl 1 rfl) ?_
  obtain ⟨q6, e6, h⟩ := tB h
  refine rcI C hH hl.1 (mX7_holds l e6) cf_RX9_67 ro_1 (RR_of (by decide) (by decide)) rfl (rest := []) rfl (Nat.le_of_ble_eq_true rfl) dX9_open_6 ?_
  intro hz6 H locs hH
  refine lv_if_ne (tgt := 14) hx hb dX9_open_9 (by decide) (fun hc9 => ?_) (fun hc9 => ?_)
  · replace h := tF hc9 h
    refine lv_aload_n hx hb dX9_open_14 rfl (lv_at hl 0 rfl) ?_
    refine rgS C hH fs_RX9_10_0 dX9_open_15 ?_
    refine lv_iload_n hx hb dX9_open_18 rfl (lv_at hl 1 rfl) ?_
    obtain ⟨q19, e19, h⟩ := tB h
    refine rcI C hH hl.1 (mX7_isOpen l e19) cf_RX9_163 ro_1 (RR_of (by decide) (by decide)) rfl (rest := []) rfl (Nat.le_of_ble_eq_true rfl) dX9_open_19 ?_
    intro hz19 H locs hH
    refine lv_if_eq (tgt := 28) hx hb dX9_open_22 (by decide) (fun hc22 => ?_) (fun hc22 => ?_)
    · replace h := tT hc22 h
      refine lv_aload_n hx hb dX9_open_28 rfl (lv_at hl 0 rfl) ?_
      refine rgS C hH fs_RX9_42_0 dX9_open_29 ?_
      refine lv_iload_n hx hb dX9_open_32 rfl (lv_at hl 1 rfl) ?_
      obtain ⟨q33, e33, h⟩ := tB h
      refine rcV C hH hl.1 (mX3_untie l e33) cf_RX9_251 ro_23 (RR_of (by decide) (by decide)) rfl (rest := []) rfl (Nat.le_of_ble_eq_true rfl) dX9_open_33 ?_
      intro H locs hH
      refine lv_aload_n hx hb dX9_open_36 rfl (lv_at hl 0 rfl) ?_
      refine rgS C hH fs_RX9_10_0 dX9_open_37 ?_
      refine lv_iconst (v := 4) hx hb dX9_open_40 (by decide) ?_
      refine lv_iload_n hx hb dX9_open_41 rfl (lv_at hl 1 rfl) ?_
      obtain ⟨q42, e42, h⟩ := tB h
      refine rcI C hH hl.1 (mX7_told l e42) cf_RX9_98 ro_1 (RR_of (by decide) (by decide)) rfl (rest := []) rfl (Nat.le_of_ble_eq_true rfl) dX9_open_42 ?_
      intro hz42 H locs hH
      have h := Option.some.inj h
      subst h
      exact retI C hH trivial dX9_open_45
    · replace h := tF hc22 h
      refine lv_bipush (v := (-5)) hx hb dX9_open_25 (by decide) ?_
      have h := Option.some.inj h
      subst h
      exact retI C hH trivial dX9_open_27
  · replace h := tT hc9 h
    refine lv_iconst (v := (-1)) hx hb dX9_open_12 (by decide) ?_
    have h := Option.some.inj h
    subst h
    exact retI C hH trivial dX9_open_13
set_option maxHeartbeats 2000000 in
set_option maxRecDepth 20000 in
theorem wX10_opens_88 (C : Cx D ca A p s m args meth c cX10_opens RX10 3 (some .int)) {q : Int32 × Mm} {v2 : Int32} {s0 : Int32} {s1 : Int32} {s2 : Int32} {mm : Mm} (h : DX10_opens_88 v2 s0 s1 s2 mm = some q) (hH : Hx WN ad ca WS D A s.heap mm H locs) (hl : lv_has ls 3 [(2, .int v2)]) : W p l e (rmk 106) s m args below meth c H locs 0 0 (MQ below (QcI WN ad ca WS D A pzT q) args s 0 0 A) (F0 m 88 ls [.int s0, .int s1, .int s2, .ref (ad 72)]) := by
  unfold DX10_opens_88 at h
  have hx := C.1
  have hb := C.2.1
  refine lv_iadd hx hb dX10_opens_88 ?_
  obtain ⟨hi89, h⟩ := tC h
  refine rwI C hH (k := (Int32.toNatClampNeg s2)) (by decide) (show WS 72 = .inr (0, 5, 0) from rfl) hi89 rfl dX10_opens_89 (fun H locs hH => ?_)
  refine lv_iload_n hx hb dX10_opens_90 rfl (lv_at hl 0 rfl) ?_
  refine lv_if_eq (tgt := 98) hx hb dX10_opens_91 (by decide) (fun hc91 => ?_) (fun hc91 => ?_)
  · replace h := tT hc91 h
    refine lv_iconst (v := 0) hx hb dX10_opens_98 (by decide) ?_
    have h := Option.some.inj h
    subst h
    exact retI C hH trivial dX10_opens_99
  · replace h := tF hc91 h
    refine lv_iconst (v := 1) hx hb dX10_opens_94 (by decide) ?_
    refine lv_goto (tgt := 99) hx hb dX10_opens_95 (by decide) ?_
    have h := Option.some.inj h
    subst h
    exact retI C hH trivial dX10_opens_99
set_option maxHeartbeats 2000000 in
set_option maxRecDepth 20000 in
theorem wX10_opens_61 (C : Cx D ca A p s m args meth c cX10_opens RX10 3 (some .int)) {q : Int32 × Mm} {s0 : Int32} {mm : Mm} (h : DX10_opens_61 s0 mm = some q) (hH : Hx WN ad ca WS D A s.heap mm H locs) (hl : lv_has ls 3 [(0, .ref (ad 58))]) : W p l e (rmk 106) s m args below meth c H locs 0 0 (MQ below (QcI WN ad ca WS D A pzT q) args s 0 0 A) (F0 m 61 ls [.int s0]) := by
  unfold DX10_opens_61 at h
  have hx := C.1
  have hb := C.2.1
  refine lv_istore_n (lv' := [(2, .int s0), (0, .ref (ad 58))]) hx hb dX10_opens_61 rfl hl (by decide) rfl (fun ls hl => ?_)
  refine lv_aload_n hx hb dX10_opens_62 rfl (lv_at hl 1 rfl) ?_
  refine rgS C hH fs_RX10_51_58 dX10_opens_63 ?_
  refine lv_iconst (v := 2) hx hb dX10_opens_66 (by decide) ?_
  refine lv_dup2_11 hx hb dX10_opens_67 rfl rfl ?_
  refine raI C hH (k := 2) (by decide) (show WS 72 = .inr (0, 5, 0) from rfl) (show inB 2 5 from by decide) (by decide) dX10_opens_68 ?_
  refine lv_iconst (v := 1) hx hb dX10_opens_69 (by decide) ?_
  refine lv_iadd hx hb dX10_opens_70 ?_
  refine rwI C hH (k := 2) (by decide) (show WS 72 = .inr (0, 5, 0) from rfl) (show inB 2 5 from by decide) (by decide) dX10_opens_71 (fun H locs hH => ?_)
  refine lv_aload_n hx hb dX10_opens_72 rfl (lv_at hl 1 rfl) ?_
  refine rgS C hH fs_RX10_51_58 dX10_opens_73 ?_
  refine lv_iconst (v := 3) hx hb dX10_opens_76 (by decide) ?_
  refine lv_dup2_11 hx hb dX10_opens_77 rfl rfl ?_
  refine raI C hH (k := 3) (by decide) (show WS 72 = .inr (0, 5, 0) from rfl) (show inB 3 5 from by decide) (by decide) dX10_opens_78 ?_
  refine lv_iload_n hx hb dX10_opens_79 rfl (lv_at hl 0 rfl) ?_
  refine lv_if_eq (tgt := 87) hx hb dX10_opens_80 (by decide) (fun hc80 => ?_) (fun hc80 => ?_)
  · replace h := tT hc80 h
    refine lv_iconst (v := 0) hx hb dX10_opens_87 (by decide) ?_
    exact wX10_opens_88 C h hH (lv_sub hl [0] rfl)
  · replace h := tF hc80 h
    refine lv_iconst (v := 1) hx hb dX10_opens_83 (by decide) ?_
    refine lv_goto (tgt := 88) hx hb dX10_opens_84 (by decide) ?_
    exact wX10_opens_88 C h hH (lv_sub hl [0] rfl)
set_option maxHeartbeats 2000000 in
set_option maxRecDepth 20000 in
theorem wX10_opens_60 (C : Cx D ca A p s m args meth c cX10_opens RX10 3 (some .int)) {q : Int32 × Mm} {mm : Mm} (h : DX10_opens_60 mm = some q) (hH : Hx WN ad ca WS D A s.heap mm H locs) (hl : lv_has ls 3 [(0, .ref (ad 58))]) : W p l e (rmk 106) s m args below meth c H locs 0 0 (MQ below (QcI WN ad ca WS D A pzT q) args s 0 0 A) (F0 m 60 ls []) := by
  unfold DX10_opens_60 at h
  have hx := C.1
  have hb := C.2.1
  refine lv_iconst (v := 0) hx hb dX10_opens_60 (by decide) ?_
  exact wX10_opens_61 C h hH (lv_sub hl [0] rfl)
set_option maxHeartbeats 2000000 in
set_option maxRecDepth 20000 in
theorem mX10_opens (l : Launch) {D : va_G} {ca : Nat → ClassId} {A : Nat → Prop} {ad : Nat → Nat} {v1 : Int32} {mm : Mm} {q : Int32 × Mm} (h : dX10_opens v1 mm = some q) : Met l yX10_opens (wsOf yX10_opens cX10_opens 3 (some .int)) (rmk 106) (PcX WN ad ca WS D A [.ref (ad 58), .int v1] mm) (QcI WN ad ca WS D A pzT q) 0 0 A := by
  unfold dX10_opens at h
  refine ent (by decide) (Nat.le_of_ble_eq_true rfl) (fun p e s m args below meth c hargs C hH ls hl => ?_)
  have hx := C.1
  have hb := C.2.1
  have hl : lv_has ls 3 [(0, .ref (ad 58)), (1, .int v1)] := hl
  refine lv_aload_n hx hb dX10_opens_0 rfl (lv_at hl 0 rfl) ?_
  refine rgS C hH fs_RX10_25_58 dX10_opens_1 ?_
  refine lv_iload_n hx hb dX10_opens_4 rfl (lv_at hl 1 rfl) ?_
  refine lv_iconst (v := 1) hx hb dX10_opens_5 (by decide) ?_
  obtain ⟨hi6, h⟩ := tC h
  refine rwZ C hH (k := (Int32.toNatClampNeg v1)) (by decide) (show WS 64 = .inr (2, 10, 0) from rfl) hi6 rfl dX10_opens_6 (fun H locs hH => ?_)
  refine lv_aload_n hx hb dX10_opens_7 rfl (lv_at hl 0 rfl) ?_
  refine rgS C hH fs_RX10_22_58 dX10_opens_8 ?_
  refine lv_iload_n hx hb dX10_opens_11 rfl (lv_at hl 1 rfl) ?_
  obtain ⟨hi12, h⟩ := tC h
  refine raI C hH (k := (Int32.toNatClampNeg v1)) (by decide) (show WS 63 = .inr (0, 10, 0) from rfl) hi12 rfl dX10_opens_12 ?_
  refine lv_if_lt (tgt := 60) hx hb dX10_opens_13 (by decide) (fun hc13 => ?_) (fun hc13 => ?_)
  · replace h := tT hc13 h
    exact wX10_opens_60 C h hH (lv_sub hl [0] rfl)
  · replace h := tF hc13 h
    refine lv_aload_n hx hb dX10_opens_16 rfl (lv_at hl 0 rfl) ?_
    refine lv_aload_n hx hb dX10_opens_17 rfl (lv_at hl 0 rfl) ?_
    refine rgS C hH fs_RX10_22_58 dX10_opens_18 ?_
    refine lv_iload_n hx hb dX10_opens_21 rfl (lv_at hl 1 rfl) ?_
    obtain ⟨hi22, h⟩ := tC h
    refine raI C hH (k := (Int32.toNatClampNeg v1)) (by decide) (show WS 63 = .inr (0, 10, 0) from rfl) hi22 rfl dX10_opens_22 ?_
    refine lv_aload_n hx hb dX10_opens_23 rfl (lv_at hl 0 rfl) ?_
    refine rgS C hH fs_RX10_9_58 dX10_opens_24 ?_
    refine lv_bipush (v := 24) hx hb dX10_opens_27 (by decide) ?_
    refine lv_iload_n hx hb dX10_opens_29 rfl (lv_at hl 1 rfl) ?_
    refine lv_iadd hx hb dX10_opens_30 ?_
    obtain ⟨hi31, h⟩ := tC h
    refine raI C hH (k := (Int32.toNatClampNeg (24 + v1))) (by decide) (show WS 59 = .inr (0, 62, 0) from rfl) hi31 rfl dX10_opens_31 ?_
    refine lv_aload_n hx hb dX10_opens_32 rfl (lv_at hl 0 rfl) ?_
    refine rgS C hH fs_RX10_9_58 dX10_opens_33 ?_
    refine lv_bipush (v := 34) hx hb dX10_opens_36 (by decide) ?_
    refine lv_iload_n hx hb dX10_opens_38 rfl (lv_at hl 1 rfl) ?_
    refine lv_iadd hx hb dX10_opens_39 ?_
    obtain ⟨hi40, h⟩ := tC h
    refine raI C hH (k := (Int32.toNatClampNeg (34 + v1))) (by decide) (show WS 59 = .inr (0, 62, 0) from rfl) hi40 rfl dX10_opens_40 ?_
    obtain ⟨q41, e41, h⟩ := tB h
    refine rcI C hH hl.1 (mX10_worthFor l e41) cf_RX10_207 ro_58 (RR_of (by decide) (by decide)) rfl (rest := []) rfl (Nat.le_of_ble_eq_true rfl) dX10_opens_41 ?_
    intro hz41 H locs hH
    refine lv_aload_n hx hb dX10_opens_44 rfl (lv_at hl 0 rfl) ?_
    refine rgS C hH fs_RX10_9_58 dX10_opens_45 ?_
    refine lv_bipush (v := 34) hx hb dX10_opens_48 (by decide) ?_
    refine lv_iload_n hx hb dX10_opens_50 rfl (lv_at hl 1 rfl) ?_
    refine lv_iadd hx hb dX10_opens_51 ?_
    obtain ⟨hi52, h⟩ := tC h
    refine raI C hH (k := (Int32.toNatClampNeg (34 + v1))) (by decide) (show WS 59 = .inr (0, 62, 0) from rfl) hi52 rfl dX10_opens_52 ?_
    refine lv_icmp_ge (tgt := 60) hx hb dX10_opens_53 (by decide) (fun hc53 => ?_) (fun hc53 => ?_)
    · replace h := tT hc53 h
      exact wX10_opens_60 C h hH (lv_sub hl [0] rfl)
    · replace h := tF hc53 h
      refine lv_iconst (v := 1) hx hb dX10_opens_56 (by decide) ?_
      refine lv_goto (tgt := 61) hx hb dX10_opens_57 (by decide) ?_
      exact wX10_opens_61 C h hH (lv_sub hl [0] rfl)
set_option maxHeartbeats 2000000 in
set_option maxRecDepth 20000 in
theorem mX10_open (l : Launch) {D : va_G} {ca : Nat → ClassId} {A : Nat → Prop} {ad : Nat → Nat} {v1 : Int32} {mm : Mm} {q : Int32 × Mm} (h : dX10_open v1 mm = some q) : Met l yX10_open (wsOf yX10_open cX10_open 3 (some .int)) (rmk 107) (PcX WN ad ca WS D A [.ref (ad 58), .int v1] mm) (QcI WN ad ca WS D A pzT q) 0 0 A := by
  unfold dX10_open at h
  refine ent (by decide) (Nat.le_of_ble_eq_true rfl) (fun p e s m args below meth c hargs C hH ls hl => ?_)
  have hx := C.1
  have hb := C.2.1
  have hl : lv_has ls 3 [(0, .ref (ad 58)), (1, .int v1)] := hl
  refine lv_aload_n hx hb dX10_open_0 rfl (lv_at hl 0 rfl) ?_
  refine lv_iload_n hx hb dX10_open_1 rfl (lv_at hl 1 rfl) ?_
  refine lv_i2l' hx hb dX10_open_2 ?_
  obtain ⟨q3, e3, h⟩ := tB h
  refine rcI C hH hl.1 (mX10_isSack l e3) cf_RX10_130 ro_58 (RR_of (by decide) (by decide)) rfl (rest := []) rfl (Nat.le_of_ble_eq_true rfl) dX10_open_3 ?_
  intro hz3 H locs hH
  refine lv_if_ne (tgt := 11) hx hb dX10_open_6 (by decide) (fun hc6 => ?_) (fun hc6 => ?_)
  · replace h := tF hc6 h
    refine lv_aload_n hx hb dX10_open_11 rfl (lv_at hl 0 rfl) ?_
    refine rgS C hH fs_RX10_25_58 dX10_open_12 ?_
    refine lv_iload_n hx hb dX10_open_15 rfl (lv_at hl 1 rfl) ?_
    obtain ⟨hi16, h⟩ := tC h
    refine raZ C hH (k := (Int32.toNatClampNeg v1)) (by decide) (show WS 64 = .inr (2, 10, 0) from rfl) hi16 rfl dX10_open_16 ?_
    refine lv_if_eq (tgt := 23) hx hb dX10_open_17 (by decide) (fun hc17 => ?_) (fun hc17 => ?_)
    · replace h := tT hc17 h
      refine lv_aload_n hx hb dX10_open_23 rfl (lv_at hl 0 rfl) ?_
      refine lv_iload_n hx hb dX10_open_24 rfl (lv_at hl 1 rfl) ?_
      obtain ⟨q25, e25, h⟩ := tB h
      refine rcI C hH hl.1 (mX10_opens l e25) cf_RX10_296 ro_58 (RR_of (by decide) (by decide)) rfl (rest := []) rfl (Nat.le_of_ble_eq_true rfl) dX10_open_25 ?_
      intro hz25 H locs hH
      refine lv_istore_n (lv' := [(2, .int q25.1), (0, .ref (ad 58)), (1, .int v1)]) hx hb dX10_open_28 rfl hl (by decide) rfl (fun ls hl => ?_)
      refine lv_aload_n hx hb dX10_open_29 rfl (lv_at hl 1 rfl) ?_
      refine rgS C hH fs_RX10_9_58 dX10_open_30 ?_
      refine lv_bipush (v := 24) hx hb dX10_open_33 (by decide) ?_
      refine lv_iload_n hx hb dX10_open_35 rfl (lv_at hl 2 rfl) ?_
      refine lv_iadd hx hb dX10_open_36 ?_
      obtain ⟨hi37, h⟩ := tC h
      refine raI C hH (k := (Int32.toNatClampNeg (24 + v1))) (by decide) (show WS 59 = .inr (0, 62, 0) from rfl) hi37 rfl dX10_open_37 ?_
      have h := Option.some.inj h
      subst h
      exact retI C hH trivial dX10_open_38
    · replace h := tF hc17 h
      refine lv_bipush (v := (-5)) hx hb dX10_open_20 (by decide) ?_
      have h := Option.some.inj h
      subst h
      exact retI C hH trivial dX10_open_22
  · replace h := tT hc6 h
    refine lv_iconst (v := (-1)) hx hb dX10_open_9 (by decide) ?_
    have h := Option.some.inj h
    subst h
    exact retI C hH trivial dX10_open_10
set_option maxHeartbeats 2000000 in
set_option maxRecDepth 20000 in
theorem wX3_untieAll_36 (C : Cx D ca A p s m args meth c cX3_untieAll RX3 3 (some .int)) {q : Int32 × Mm} {k9 : Int32 → Int32 → Mm → Option (Int32 × Mm)} (hk9 : ∀ (v1 : Int32) (v2 : Int32) (mm : Mm), k9 v1 v2 mm = some q → ∀ (H : Heap) (locs : List Loc) (ls : Array Slot), Hx WN ad ca WS D A s.heap mm H locs → lv_has ls 3 [(0, .ref (ad 23)), (1, .int v1), (2, .int v2)] → W p l e (rmk 6) s m args below meth c H locs 0 0 (MQ below (QcI WN ad ca WS D A pzT q) args s 0 0 A) (F0 m 9 ls [])) {v1 : Int32} {v2 : Int32} {mm : Mm} (h : DX3_untieAll_36 k9 v1 v2 mm = some q) (hH : Hx WN ad ca WS D A s.heap mm H locs) (hl : lv_has ls 3 [(0, .ref (ad 23)), (1, .int v1), (2, .int v2)]) : W p l e (rmk 6) s m args below meth c H locs 0 0 (MQ below (QcI WN ad ca WS D A pzT q) args s 0 0 A) (F0 m 36 ls []) := by
  unfold DX3_untieAll_36 at h
  have hx := C.1
  have hb := C.2.1
  refine lv_iinc (v := (v2 + 1)) (lv' := [(2, .int (v2 + 1)), (0, .ref (ad 23)), (1, .int v1)]) hx hb dX3_untieAll_36 hl (k := 2) rfl rfl (by decide) rfl (fun ls hl => ?_)
  refine lv_goto (tgt := 9) hx hb dX3_untieAll_39 (by decide) ?_
  exact hk9 _ _ _ h _ _ _ hH (lv_sub hl [1, 2, 0] rfl)
set_option maxHeartbeats 2000000 in
set_option maxRecDepth 20000 in
theorem wbX3_untieAll_9 (C : Cx D ca A p s m args meth c cX3_untieAll RX3 3 (some .int)) {q : Int32 × Mm} {k9 : Int32 → Int32 → Mm → Option (Int32 × Mm)} (hk9 : ∀ (v1 : Int32) (v2 : Int32) (mm : Mm), k9 v1 v2 mm = some q → ∀ (H : Heap) (locs : List Loc) (ls : Array Slot), Hx WN ad ca WS D A s.heap mm H locs → lv_has ls 3 [(0, .ref (ad 23)), (1, .int v1), (2, .int v2)] → W p l e (rmk 6) s m args below meth c H locs 0 0 (MQ below (QcI WN ad ca WS D A pzT q) args s 0 0 A) (F0 m 9 ls [])) {v1 : Int32} {v2 : Int32} {mm : Mm} (h : BX3_untieAll_9 k9 v1 v2 mm = some q) (hH : Hx WN ad ca WS D A s.heap mm H locs) (hl : lv_has ls 3 [(0, .ref (ad 23)), (1, .int v1), (2, .int v2)]) : W p l e (rmk 6) s m args below meth c H locs 0 0 (MQ below (QcI WN ad ca WS D A pzT q) args s 0 0 A) (F0 m 9 ls []) := by
  unfold BX3_untieAll_9 at h
  have hx := C.1
  have hb := C.2.1
  refine lv_iload_n hx hb dX3_untieAll_9 rfl (lv_at hl 2 rfl) ?_
  refine lv_aload_n hx hb dX3_untieAll_10 rfl (lv_at hl 0 rfl) ?_
  refine rgS C hH fs_RX3_27_23 dX3_untieAll_11 ?_
  refine rgI C hH fi_RX3_45_1 dX3_untieAll_14 ?_
  refine lv_icmp_ge (tgt := 42) hx hb dX3_untieAll_17 (by decide) (fun hc17 => ?_) (fun hc17 => ?_)
  · replace h := tT hc17 h
    refine lv_aload_n hx hb dX3_untieAll_42 rfl (lv_at hl 0 rfl) ?_
    refine rgS C hH fs_RX3_11_23 dX3_untieAll_43 ?_
    refine lv_iconst (v := 4) hx hb dX3_untieAll_46 (by decide) ?_
    refine lv_dup2_11 hx hb dX3_untieAll_47 rfl rfl ?_
    refine raI C hH (k := 4) (by decide) (show WS 24 = .inr (0, 5, 0) from rfl) (show inB 4 5 from by decide) (by decide) dX3_untieAll_48 ?_
    refine lv_iconst (v := 1) hx hb dX3_untieAll_49 (by decide) ?_
    refine lv_iadd hx hb dX3_untieAll_50 ?_
    refine rwI C hH (k := 4) (by decide) (show WS 24 = .inr (0, 5, 0) from rfl) (show inB 4 5 from by decide) (by decide) dX3_untieAll_51 (fun H locs hH => ?_)
    refine lv_aload_n hx hb dX3_untieAll_52 rfl (lv_at hl 0 rfl) ?_
    refine rgS C hH fs_RX3_11_23 dX3_untieAll_53 ?_
    refine lv_iconst (v := 3) hx hb dX3_untieAll_56 (by decide) ?_
    refine raI C hH (k := 3) (by decide) (show WS 24 = .inr (0, 5, 0) from rfl) (show inB 3 5 from by decide) (by decide) dX3_untieAll_57 ?_
    refine lv_iload_n hx hb dX3_untieAll_58 rfl (lv_at hl 1 rfl) ?_
    refine lv_isub hx hb dX3_untieAll_59 ?_
    have h := Option.some.inj h
    subst h
    exact retI C hH trivial dX3_untieAll_60
  · replace h := tF hc17 h
    refine lv_aload_n hx hb dX3_untieAll_20 rfl (lv_at hl 0 rfl) ?_
    refine rgS C hH fs_RX3_27_23 dX3_untieAll_21 ?_
    refine lv_iload_n hx hb dX3_untieAll_24 rfl (lv_at hl 2 rfl) ?_
    obtain ⟨q25, e25, h⟩ := tB h
    refine rcI C hH hl.1 (mX7_isOpen l e25) cf_RX3_49 ro_1 (RR_of (by decide) (by decide)) rfl (rest := []) rfl (Nat.le_of_ble_eq_true rfl) dX3_untieAll_25 ?_
    intro hz25 H locs hH
    refine lv_if_ne (tgt := 36) hx hb dX3_untieAll_28 (by decide) (fun hc28 => ?_) (fun hc28 => ?_)
    · replace h := tF hc28 h
      exact wX3_untieAll_36 C hk9 h hH (lv_sub hl [0, 1, 2] rfl)
    · replace h := tT hc28 h
      refine lv_aload_n hx hb dX3_untieAll_31 rfl (lv_at hl 0 rfl) ?_
      refine lv_iload_n hx hb dX3_untieAll_32 rfl (lv_at hl 2 rfl) ?_
      obtain ⟨q33, e33, h⟩ := tB h
      refine rcV C hH hl.1 (mX3_untie l e33) cf_RX3_53 ro_23 (RR_of (by decide) (by decide)) rfl (rest := []) rfl (Nat.le_of_ble_eq_true rfl) dX3_untieAll_33 ?_
      intro H locs hH
      exact wX3_untieAll_36 C hk9 h hH (lv_sub hl [0, 1, 2] rfl)
set_option maxHeartbeats 2000000 in
set_option maxRecDepth 20000 in
theorem wX3_untieAll_9 (C : Cx D ca A p s m args meth c cX3_untieAll RX3 3 (some .int)) {q : Int32 × Mm} : ∀ (N : Nat) (v1 : Int32) (v2 : Int32) (mm : Mm), DX3_untieAll_9 N v1 v2 mm = some q → ∀ (H : Heap) (locs : List Loc) (ls : Array Slot), Hx WN ad ca WS D A s.heap mm H locs → lv_has ls 3 [(0, .ref (ad 23)), (1, .int v1), (2, .int v2)] → W p l e (rmk 6) s m args below meth c H locs 0 0 (MQ below (QcI WN ad ca WS D A pzT q) args s 0 0 A) (F0 m 9 ls []) := by
  intro N
  induction N with
  | zero =>
    intro v1 v2 mm h
    have h2 : (none : Option (Int32 × Mm)) = some q := h
    cases h2
  | succ N ih =>
    intro v1 v2 mm h H locs ls hH hl
    exact wbX3_untieAll_9 C ih h hH hl
set_option maxHeartbeats 2000000 in
set_option maxRecDepth 20000 in
theorem mX3_untieAll (l : Launch) {D : va_G} {ca : Nat → ClassId} {A : Nat → Prop} {ad : Nat → Nat} {mm : Mm} {q : Int32 × Mm} (h : dX3_untieAll mm = some q) : Met l yX3_untieAll (wsOf yX3_untieAll cX3_untieAll 3 (some .int)) (rmk 6) (PcX WN ad ca WS D A [.ref (ad 23)] mm) (QcI WN ad ca WS D A pzT q) 0 0 A := by
  unfold dX3_untieAll at h
  refine ent (by decide) (Nat.le_of_ble_eq_true rfl) (fun p e s m args below meth c hargs C hH ls hl => ?_)
  have hx := C.1
  have hb := C.2.1
  have hl : lv_has ls 3 [(0, .ref (ad 23))] := hl
  refine lv_aload_n hx hb dX3_untieAll_0 rfl (lv_at hl 0 rfl) ?_
  refine rgS C hH fs_RX3_11_23 dX3_untieAll_1 ?_
  refine lv_iconst (v := 3) hx hb dX3_untieAll_4 (by decide) ?_
  refine raI C hH (k := 3) (by decide) (show WS 24 = .inr (0, 5, 0) from rfl) (show inB 3 5 from by decide) (by decide) dX3_untieAll_5 ?_
  refine lv_istore_n (lv' := [(1, .int (gI mm 24 3)), (0, .ref (ad 23))]) hx hb dX3_untieAll_6 rfl hl (by decide) rfl (fun ls hl => ?_)
  refine lv_iconst (v := 0) hx hb dX3_untieAll_7 (by decide) ?_
  refine lv_istore_n (lv' := [(2, .int 0), (1, .int (gI mm 24 3)), (0, .ref (ad 23))]) hx hb dX3_untieAll_8 rfl hl (by decide) rfl (fun ls hl => ?_)
  exact wX3_untieAll_9 C FU _ _ _ h _ _ _ hH (lv_sub hl [2, 1, 0] rfl)
set_option maxHeartbeats 2000000 in
set_option maxRecDepth 20000 in
theorem mX9_dusk (l : Launch) {D : va_G} {ca : Nat → ClassId} {A : Nat → Prop} {ad : Nat → Nat} {mm : Mm} {q : Int32 × Mm} (h : dX9_dusk mm = some q) : Met l yX9_dusk (wsOf yX9_dusk cX9_dusk 1 (some .int)) (rmk 7) (PcX WN ad ca WS D A [.ref (ad 0)] mm) (QcI WN ad ca WS D A pzT q) 0 0 A := by
  unfold dX9_dusk at h
  refine ent (by decide) (Nat.le_of_ble_eq_true rfl) (fun p e s m args below meth c hargs C hH ls hl => ?_)
  have hx := C.1
  have hb := C.2.1
  have hl : lv_has ls 1 [(0, .ref (ad 0))] := hl
  refine lv_aload_n hx hb dX9_dusk_0 rfl (lv_at hl 0 rfl) ?_
  refine rgS C hH fs_RX9_42_0 dX9_dusk_1 ?_
  obtain ⟨q4, e4, h⟩ := tB h
  refine rcI C hH hl.1 (mX3_untieAll l e4) cf_RX9_254 ro_23 (RR_of (by decide) (by decide)) rfl (rest := []) rfl (Nat.le_of_ble_eq_true rfl) dX9_dusk_4 ?_
  intro hz4 H locs hH
  have h := Option.some.inj h
  subst h
  exact retI C hH trivial dX9_dusk_7
set_option maxHeartbeats 2000000 in
set_option maxRecDepth 20000 in
theorem wX10_dusk_31 (C : Cx D ca A p s m args meth c cX10_dusk RX10 3 (some .int)) {q : Int32 × Mm} {k4 : Int32 → Int32 → Mm → Option (Int32 × Mm)} (hk4 : ∀ (v1 : Int32) (v2 : Int32) (mm : Mm), k4 v1 v2 mm = some q → ∀ (H : Heap) (locs : List Loc) (ls : Array Slot), Hx WN ad ca WS D A s.heap mm H locs → lv_has ls 3 [(0, .ref (ad 58)), (1, .int v1), (2, .int v2)] → W p l e (rmk 107) s m args below meth c H locs 0 0 (MQ below (QcI WN ad ca WS D A pzT q) args s 0 0 A) (F0 m 4 ls [])) {v2 : Int32} {s0 : Int32} {s1 : Int32} {mm : Mm} (h : DX10_dusk_31 k4 v2 s0 s1 mm = some q) (hH : Hx WN ad ca WS D A s.heap mm H locs) (hl : lv_has ls 3 [(0, .ref (ad 58)), (2, .int v2)]) : W p l e (rmk 107) s m args below meth c H locs 0 0 (MQ below (QcI WN ad ca WS D A pzT q) args s 0 0 A) (F0 m 31 ls [.int s0, .int s1]) := by
  unfold DX10_dusk_31 at h
  have hx := C.1
  have hb := C.2.1
  refine lv_iadd hx hb dX10_dusk_31 ?_
  refine lv_istore_n (lv' := [(1, .int (s1 + s0)), (0, .ref (ad 58)), (2, .int v2)]) hx hb dX10_dusk_32 rfl hl (by decide) rfl (fun ls hl => ?_)
  refine lv_iinc (v := (v2 + 1)) (lv' := [(2, .int (v2 + 1)), (1, .int (s1 + s0)), (0, .ref (ad 58))]) hx hb dX10_dusk_33 hl (k := 2) rfl rfl (by decide) rfl (fun ls hl => ?_)
  refine lv_goto (tgt := 4) hx hb dX10_dusk_36 (by decide) ?_
  exact hk4 _ _ _ h _ _ _ hH (lv_sub hl [2, 1, 0] rfl)
set_option maxHeartbeats 2000000 in
set_option maxRecDepth 20000 in
theorem wbX10_dusk_4 (C : Cx D ca A p s m args meth c cX10_dusk RX10 3 (some .int)) {q : Int32 × Mm} {k4 : Int32 → Int32 → Mm → Option (Int32 × Mm)} (hk4 : ∀ (v1 : Int32) (v2 : Int32) (mm : Mm), k4 v1 v2 mm = some q → ∀ (H : Heap) (locs : List Loc) (ls : Array Slot), Hx WN ad ca WS D A s.heap mm H locs → lv_has ls 3 [(0, .ref (ad 58)), (1, .int v1), (2, .int v2)] → W p l e (rmk 107) s m args below meth c H locs 0 0 (MQ below (QcI WN ad ca WS D A pzT q) args s 0 0 A) (F0 m 4 ls [])) {v1 : Int32} {v2 : Int32} {mm : Mm} (h : BX10_dusk_4 k4 v1 v2 mm = some q) (hH : Hx WN ad ca WS D A s.heap mm H locs) (hl : lv_has ls 3 [(0, .ref (ad 58)), (1, .int v1), (2, .int v2)]) : W p l e (rmk 107) s m args below meth c H locs 0 0 (MQ below (QcI WN ad ca WS D A pzT q) args s 0 0 A) (F0 m 4 ls []) := by
  unfold BX10_dusk_4 at h
  have hx := C.1
  have hb := C.2.1
  refine lv_iload_n hx hb dX10_dusk_4 rfl (lv_at hl 2 rfl) ?_
  refine lv_aload_n hx hb dX10_dusk_5 rfl (lv_at hl 0 rfl) ?_
  refine rgI C hH fi_RX10_100_58 dX10_dusk_6 ?_
  refine lv_icmp_ge (tgt := 39) hx hb dX10_dusk_9 (by decide) (fun hc9 => ?_) (fun hc9 => ?_)
  · replace h := tT hc9 h
    refine lv_aload_n hx hb dX10_dusk_39 rfl (lv_at hl 0 rfl) ?_
    refine rgS C hH fs_RX10_51_58 dX10_dusk_40 ?_
    refine lv_iconst (v := 4) hx hb dX10_dusk_43 (by decide) ?_
    refine lv_dup2_11 hx hb dX10_dusk_44 rfl rfl ?_
    refine raI C hH (k := 4) (by decide) (show WS 72 = .inr (0, 5, 0) from rfl) (show inB 4 5 from by decide) (by decide) dX10_dusk_45 ?_
    refine lv_iconst (v := 1) hx hb dX10_dusk_46 (by decide) ?_
    refine lv_iadd hx hb dX10_dusk_47 ?_
    refine rwI C hH (k := 4) (by decide) (show WS 72 = .inr (0, 5, 0) from rfl) (show inB 4 5 from by decide) (by decide) dX10_dusk_48 (fun H locs hH => ?_)
    refine lv_iload_n hx hb dX10_dusk_49 rfl (lv_at hl 1 rfl) ?_
    have h := Option.some.inj h
    subst h
    exact retI C hH trivial dX10_dusk_50
  · replace h := tF hc9 h
    refine lv_iload_n hx hb dX10_dusk_12 rfl (lv_at hl 1 rfl) ?_
    refine lv_aload_n hx hb dX10_dusk_13 rfl (lv_at hl 0 rfl) ?_
    refine rgS C hH fs_RX10_25_58 dX10_dusk_14 ?_
    refine lv_iload_n hx hb dX10_dusk_17 rfl (lv_at hl 2 rfl) ?_
    obtain ⟨hi18, h⟩ := tC h
    refine raZ C hH (k := (Int32.toNatClampNeg v2)) (by decide) (show WS 64 = .inr (2, 10, 0) from rfl) hi18 rfl dX10_dusk_18 ?_
    refine lv_if_eq (tgt := 26) hx hb dX10_dusk_19 (by decide) (fun hc19 => ?_) (fun hc19 => ?_)
    · replace h := tT hc19 h
      refine lv_aload_n hx hb dX10_dusk_26 rfl (lv_at hl 0 rfl) ?_
      refine lv_iload_n hx hb dX10_dusk_27 rfl (lv_at hl 2 rfl) ?_
      obtain ⟨q28, e28, h⟩ := tB h
      refine rcI C hH hl.1 (mX10_opens l e28) cf_RX10_296 ro_58 (RR_of (by decide) (by decide)) rfl (rest := [.int v1]) rfl (Nat.le_of_ble_eq_true rfl) dX10_dusk_28 ?_
      intro hz28 H locs hH
      exact wX10_dusk_31 C hk4 h hH (lv_sub hl [0, 2] rfl)
    · replace h := tF hc19 h
      refine lv_iconst (v := 0) hx hb dX10_dusk_22 (by decide) ?_
      refine lv_goto (tgt := 31) hx hb dX10_dusk_23 (by decide) ?_
      exact wX10_dusk_31 C hk4 h hH (lv_sub hl [0, 2] rfl)
set_option maxHeartbeats 2000000 in
set_option maxRecDepth 20000 in
theorem wX10_dusk_4 (C : Cx D ca A p s m args meth c cX10_dusk RX10 3 (some .int)) {q : Int32 × Mm} : ∀ (N : Nat) (v1 : Int32) (v2 : Int32) (mm : Mm), DX10_dusk_4 N v1 v2 mm = some q → ∀ (H : Heap) (locs : List Loc) (ls : Array Slot), Hx WN ad ca WS D A s.heap mm H locs → lv_has ls 3 [(0, .ref (ad 58)), (1, .int v1), (2, .int v2)] → W p l e (rmk 107) s m args below meth c H locs 0 0 (MQ below (QcI WN ad ca WS D A pzT q) args s 0 0 A) (F0 m 4 ls []) := by
  intro N
  induction N with
  | zero =>
    intro v1 v2 mm h
    have h2 : (none : Option (Int32 × Mm)) = some q := h
    cases h2
  | succ N ih =>
    intro v1 v2 mm h H locs ls hH hl
    exact wbX10_dusk_4 C ih h hH hl
set_option maxHeartbeats 2000000 in
set_option maxRecDepth 20000 in
theorem mX10_dusk (l : Launch) {D : va_G} {ca : Nat → ClassId} {A : Nat → Prop} {ad : Nat → Nat} {mm : Mm} {q : Int32 × Mm} (h : dX10_dusk mm = some q) : Met l yX10_dusk (wsOf yX10_dusk cX10_dusk 3 (some .int)) (rmk 107) (PcX WN ad ca WS D A [.ref (ad 58)] mm) (QcI WN ad ca WS D A pzT q) 0 0 A := by
  unfold dX10_dusk at h
  refine ent (by decide) (Nat.le_of_ble_eq_true rfl) (fun p e s m args below meth c hargs C hH ls hl => ?_)
  have hx := C.1
  have hb := C.2.1
  have hl : lv_has ls 3 [(0, .ref (ad 58))] := hl
  refine lv_iconst (v := 0) hx hb dX10_dusk_0 (by decide) ?_
  refine lv_istore_n (lv' := [(1, .int 0), (0, .ref (ad 58))]) hx hb dX10_dusk_1 rfl hl (by decide) rfl (fun ls hl => ?_)
  refine lv_iconst (v := 0) hx hb dX10_dusk_2 (by decide) ?_
  refine lv_istore_n (lv' := [(2, .int 0), (1, .int 0), (0, .ref (ad 58))]) hx hb dX10_dusk_3 rfl hl (by decide) rfl (fun ls hl => ?_)
  exact wX10_dusk_4 C FU _ _ _ h _ _ _ hH (lv_sub hl [2, 1, 0] rfl)
set_option maxHeartbeats 2000000 in
set_option maxRecDepth 20000 in
theorem mX3_line (l : Launch) {D : va_G} {ca : Nat → ClassId} {A : Nat → Prop} {ad : Nat → Nat} {v1 : Int32} {mm : Mm} {q : Int32 × Mm} (h : dX3_line v1 mm = some q) : Met l yX3_line (wsOf yX3_line cX3_line 2 (some .int)) (rmk 1) (PcX WN ad ca WS D A [.ref (ad 23), .int v1] mm) (QcI WN ad ca WS D A pzT q) 0 0 A := by
  unfold dX3_line at h
  refine ent (by decide) (Nat.le_of_ble_eq_true rfl) (fun p e s m args below meth c hargs C hH ls hl => ?_)
  have hx := C.1
  have hb := C.2.1
  have hl : lv_has ls 2 [(0, .ref (ad 23)), (1, .int v1)] := hl
  refine lv_aload_n hx hb dX3_line_0 rfl (lv_at hl 0 rfl) ?_
  refine rgS C hH fs_RX3_11_23 dX3_line_1 ?_
  refine lv_iload_n hx hb dX3_line_4 rfl (lv_at hl 1 rfl) ?_
  obtain ⟨hi5, h⟩ := tC h
  refine raI C hH (k := (Int32.toNatClampNeg v1)) (by decide) (show WS 24 = .inr (0, 5, 0) from rfl) hi5 rfl dX3_line_5 ?_
  have h := Option.some.inj h
  subst h
  exact retI C hH trivial dX3_line_6
set_option maxHeartbeats 2000000 in
set_option maxRecDepth 20000 in
theorem wX9_led_9 (C : Cx D ca A p s m args meth c cX9_led RX9 2 (some .int)) {q : Int32 × Mm} {mm : Mm} (h : DX9_led_9 mm = some q) (hH : Hx WN ad ca WS D A s.heap mm H locs) (hl : lv_has ls 2 []) : W p l e (rmk 2) s m args below meth c H locs 0 0 (MQ below (QcI WN ad ca WS D A pzT q) args s 0 0 A) (F0 m 9 ls []) := by
  unfold DX9_led_9 at h
  have hx := C.1
  have hb := C.2.1
  refine lv_iconst (v := (-1)) hx hb dX9_led_9 (by decide) ?_
  refine lv_goto (tgt := 21) hx hb dX9_led_10 (by decide) ?_
  have h := Option.some.inj h
  subst h
  exact retI C hH trivial dX9_led_21
set_option maxHeartbeats 2000000 in
set_option maxRecDepth 20000 in
theorem mX9_led (l : Launch) {D : va_G} {ca : Nat → ClassId} {A : Nat → Prop} {ad : Nat → Nat} {v1 : Int32} {mm : Mm} {q : Int32 × Mm} (h : dX9_led v1 mm = some q) : Met l yX9_led (wsOf yX9_led cX9_led 2 (some .int)) (rmk 2) (PcX WN ad ca WS D A [.ref (ad 0), .int v1] mm) (QcI WN ad ca WS D A pzT q) 0 0 A := by
  unfold dX9_led at h
  refine ent (by decide) (Nat.le_of_ble_eq_true rfl) (fun p e s m args below meth c hargs C hH ls hl => ?_)
  have hx := C.1
  have hb := C.2.1
  have hl : lv_has ls 2 [(0, .ref (ad 0)), (1, .int v1)] := hl
  refine lv_iload_n hx hb dX9_led_0 rfl (lv_at hl 1 rfl) ?_
  refine lv_if_lt (tgt := 9) hx hb dX9_led_1 (by decide) (fun hc1 => ?_) (fun hc1 => ?_)
  · replace h := tT hc1 h
    exact wX9_led_9 C h hH (lv_sub hl [] rfl)
  · replace h := tF hc1 h
    refine lv_iload_n hx hb dX9_led_4 rfl (lv_at hl 1 rfl) ?_
    refine lv_iconst (v := 5) hx hb dX9_led_5 (by decide) ?_
    refine lv_icmp_lt (tgt := 13) hx hb dX9_led_6 (by decide) (fun hc6 => ?_) (fun hc6 => ?_)
    · replace h := tT hc6 h
      refine lv_aload_n hx hb dX9_led_13 rfl (lv_at hl 0 rfl) ?_
      refine rgS C hH fs_RX9_42_0 dX9_led_14 ?_
      refine lv_iload_n hx hb dX9_led_17 rfl (lv_at hl 1 rfl) ?_
      obtain ⟨q18, e18, h⟩ := tB h
      refine rcI C hH hl.1 (mX3_line l e18) cf_RX9_257 ro_23 (RR_of (by decide) (by decide)) rfl (rest := []) rfl (Nat.le_of_ble_eq_true rfl) dX9_led_18 ?_
      intro hz18 H locs hH
      have h := Option.some.inj h
      subst h
      exact retI C hH trivial dX9_led_21
    · replace h := tF hc6 h
      exact wX9_led_9 C h hH (lv_sub hl [] rfl)
set_option maxHeartbeats 2000000 in
set_option maxRecDepth 20000 in
theorem mX10_led (l : Launch) {D : va_G} {ca : Nat → ClassId} {A : Nat → Prop} {ad : Nat → Nat} {v1 : Int32} {mm : Mm} {q : Int32 × Mm} (h : dX10_led v1 mm = some q) : Met l yX10_led (wsOf yX10_led cX10_led 2 (some .int)) (rmk 2) (PcX WN ad ca WS D A [.ref (ad 58), .int v1] mm) (QcI WN ad ca WS D A pzT q) 0 0 A := by
  unfold dX10_led at h
  refine ent (by decide) (Nat.le_of_ble_eq_true rfl) (fun p e s m args below meth c hargs C hH ls hl => ?_)
  have hx := C.1
  have hb := C.2.1
  have hl : lv_has ls 2 [(0, .ref (ad 58)), (1, .int v1)] := hl
  refine lv_iload_n hx hb dX10_led_0 rfl (lv_at hl 1 rfl) ?_
  refine lv_i2l' hx hb dX10_led_1 ?_
  refine lv_lconst (v := 0) hx hb dX10_led_2 (by decide) ?_
  refine rldc2 C (v := 4) k_RX10_128 dX10_led_3 ?_
  obtain ⟨q6, e6, h⟩ := tB h
  refine rsI C hH hl.1 (mX10_within l e6) cs_RX10_96 (RR_of (by decide) (by decide)) rfl (rest := []) rfl (Nat.le_of_ble_eq_true rfl) dX10_led_6 ?_
  intro hz6 H locs hH
  refine lv_if_eq (tgt := 21) hx hb dX10_led_9 (by decide) (fun hc9 => ?_) (fun hc9 => ?_)
  · replace h := tT hc9 h
    refine lv_iconst (v := (-1)) hx hb dX10_led_21 (by decide) ?_
    have h := Option.some.inj h
    subst h
    exact retI C hH trivial dX10_led_22
  · replace h := tF hc9 h
    refine lv_aload_n hx hb dX10_led_12 rfl (lv_at hl 0 rfl) ?_
    refine rgS C hH fs_RX10_51_58 dX10_led_13 ?_
    refine lv_iload_n hx hb dX10_led_16 rfl (lv_at hl 1 rfl) ?_
    obtain ⟨hi17, h⟩ := tC h
    refine raI C hH (k := (Int32.toNatClampNeg v1)) (by decide) (show WS 72 = .inr (0, 5, 0) from rfl) hi17 rfl dX10_led_17 ?_
    refine lv_goto (tgt := 22) hx hb dX10_led_18 (by decide) ?_
    have h := Option.some.inj h
    subst h
    exact retI C hH trivial dX10_led_22
set_option maxHeartbeats 2000000 in
set_option maxRecDepth 20000 in
theorem wbX3_keepImage_72 (C : Cx D ca A p s m args meth c cX3_keepImage RX3 2 none) {q : Unit × Mm} {k72 : Int32 → Mm → Option (Unit × Mm)} (hk72 : ∀ (v1 : Int32) (mm : Mm), k72 v1 mm = some q → ∀ (H : Heap) (locs : List Loc) (ls : Array Slot), Hx WN ad ca WS D A s.heap mm H locs → lv_has ls 2 [(0, .ref (ad 23)), (1, .int v1)] → W p l e (rmk 3) s m args below meth c H locs 0 0 (MQ below (QcV WN ad ca WS D A q) args s 0 0 A) (F0 m 72 ls [])) {v1 : Int32} {mm : Mm} (h : BX3_keepImage_72 k72 v1 mm = some q) (hH : Hx WN ad ca WS D A s.heap mm H locs) (hl : lv_has ls 2 [(0, .ref (ad 23)), (1, .int v1)]) : W p l e (rmk 3) s m args below meth c H locs 0 0 (MQ below (QcV WN ad ca WS D A q) args s 0 0 A) (F0 m 72 ls []) := by
  unfold BX3_keepImage_72 at h
  have hx := C.1
  have hb := C.2.1
  refine lv_iload_n hx hb dX3_keepImage_72 rfl (lv_at hl 1 rfl) ?_
  refine lv_aload_n hx hb dX3_keepImage_73 rfl (lv_at hl 0 rfl) ?_
  refine rgI C hH fi_RX3_63_23 dX3_keepImage_74 ?_
  refine lv_icmp_ge (tgt := 102) hx hb dX3_keepImage_77 (by decide) (fun hc77 => ?_) (fun hc77 => ?_)
  · replace h := tT hc77 h
    refine lv_aload_n hx hb dX3_keepImage_102 rfl (lv_at hl 0 rfl) ?_
    refine rgS C hH fs_RX3_11_23 dX3_keepImage_103 ?_
    refine lv_iconst (v := 0) hx hb dX3_keepImage_106 (by decide) ?_
    refine lv_aload_n hx hb dX3_keepImage_107 rfl (lv_at hl 0 rfl) ?_
    refine rgS C hH fs_RX3_15_23 dX3_keepImage_108 ?_
    refine lv_iconst (v := 0) hx hb dX3_keepImage_111 (by decide) ?_
    refine lv_iconst (v := 5) hx hb dX3_keepImage_112 (by decide) ?_
    refine rcpI C hH hl.1 cc_RX3_66 (by decide) (show WS 24 = .inr (0, 5, 0) from rfl) (by decide) (show WS 25 = .inr (0, 5, 0) from rfl) (by decide) (RR_of (by decide) (by decide)) (by first | decide | (simp only [rmk]; omega)) dX3_keepImage_113 (fun H locs hH => ?_)
    refine lv_aload_n hx hb dX3_keepImage_116 rfl (lv_at hl 0 rfl) ?_
    refine lv_iconst (v := 1) hx hb dX3_keepImage_117 (by decide) ?_
    refine rpI C hH fp_RX3_72_23 rfl rfl dX3_keepImage_118 (fun H locs hH => ?_)
    have h := Option.some.inj h
    subst h
    exact retV C hH dX3_keepImage_121
  · replace h := tF hc77 h
    refine lv_aload_n hx hb dX3_keepImage_80 rfl (lv_at hl 0 rfl) ?_
    refine rgS C hH fs_RX3_24_23 dX3_keepImage_81 ?_
    refine lv_iload_n hx hb dX3_keepImage_84 rfl (lv_at hl 1 rfl) ?_
    refine lv_aload_n hx hb dX3_keepImage_85 rfl (lv_at hl 0 rfl) ?_
    refine rgS C hH fs_RX3_27_23 dX3_keepImage_86 ?_
    refine lv_bipush (v := 6) hx hb dX3_keepImage_89 (by decide) ?_
    refine lv_iload_n hx hb dX3_keepImage_91 rfl (lv_at hl 1 rfl) ?_
    obtain ⟨q92, e92, h⟩ := tB h
    refine rcI C hH hl.1 (mX7_told l e92) cf_RX3_31 ro_1 (RR_of (by decide) (by decide)) rfl (rest := [.int v1, .ref (ad 28)]) rfl (Nat.le_of_ble_eq_true rfl) dX3_keepImage_92 ?_
    intro hz92 H locs hH
    obtain ⟨hi95, h⟩ := tC h
    refine rwI C hH (k := (Int32.toNatClampNeg v1)) (by decide) (show WS 28 = .inr (0, 6, 0) from rfl) hi95 rfl dX3_keepImage_95 (fun H locs hH => ?_)
    refine lv_iinc (v := (v1 + 1)) (lv' := [(1, .int (v1 + 1)), (0, .ref (ad 23))]) hx hb dX3_keepImage_96 hl (k := 1) rfl rfl (by decide) rfl (fun ls hl => ?_)
    refine lv_goto (tgt := 72) hx hb dX3_keepImage_99 (by decide) ?_
    exact hk72 _ _ h _ _ _ hH (lv_sub hl [1, 0] rfl)
set_option maxHeartbeats 2000000 in
set_option maxRecDepth 20000 in
theorem wX3_keepImage_72 (C : Cx D ca A p s m args meth c cX3_keepImage RX3 2 none) {q : Unit × Mm} : ∀ (N : Nat) (v1 : Int32) (mm : Mm), DX3_keepImage_72 N v1 mm = some q → ∀ (H : Heap) (locs : List Loc) (ls : Array Slot), Hx WN ad ca WS D A s.heap mm H locs → lv_has ls 2 [(0, .ref (ad 23)), (1, .int v1)] → W p l e (rmk 3) s m args below meth c H locs 0 0 (MQ below (QcV WN ad ca WS D A q) args s 0 0 A) (F0 m 72 ls []) := by
  intro N
  induction N with
  | zero =>
    intro v1 mm h
    have h2 : (none : Option (Unit × Mm)) = some q := h
    cases h2
  | succ N ih =>
    intro v1 mm h H locs ls hH hl
    exact wbX3_keepImage_72 C ih h hH hl
set_option maxHeartbeats 2000000 in
set_option maxRecDepth 20000 in
theorem wbX3_keepImage_24 (C : Cx D ca A p s m args meth c cX3_keepImage RX3 2 none) {q : Unit × Mm} {k24 : Int32 → Mm → Option (Unit × Mm)} (hk24 : ∀ (v1 : Int32) (mm : Mm), k24 v1 mm = some q → ∀ (H : Heap) (locs : List Loc) (ls : Array Slot), Hx WN ad ca WS D A s.heap mm H locs → lv_has ls 2 [(0, .ref (ad 23)), (1, .int v1)] → W p l e (rmk 3) s m args below meth c H locs 0 0 (MQ below (QcV WN ad ca WS D A q) args s 0 0 A) (F0 m 24 ls [])) {v1 : Int32} {mm : Mm} (h : BX3_keepImage_24 k24 v1 mm = some q) (hH : Hx WN ad ca WS D A s.heap mm H locs) (hl : lv_has ls 2 [(0, .ref (ad 23)), (1, .int v1)]) : W p l e (rmk 3) s m args below meth c H locs 0 0 (MQ below (QcV WN ad ca WS D A q) args s 0 0 A) (F0 m 24 ls []) := by
  unfold BX3_keepImage_24 at h
  have hx := C.1
  have hb := C.2.1
  refine lv_iload_n hx hb dX3_keepImage_24 rfl (lv_at hl 1 rfl) ?_
  refine lv_aload_n hx hb dX3_keepImage_25 rfl (lv_at hl 0 rfl) ?_
  refine rgI C hH fi_RX3_57_23 dX3_keepImage_26 ?_
  refine lv_icmp_ge (tgt := 70) hx hb dX3_keepImage_29 (by decide) (fun hc29 => ?_) (fun hc29 => ?_)
  · replace h := tT hc29 h
    refine lv_iconst (v := 0) hx hb dX3_keepImage_70 (by decide) ?_
    refine lv_istore_n (lv' := [(1, .int 0), (0, .ref (ad 23))]) hx hb dX3_keepImage_71 rfl hl (by decide) rfl (fun ls hl => ?_)
    exact wX3_keepImage_72 C FU _ _ h _ _ _ hH (lv_sub hl [1, 0] rfl)
  · replace h := tF hc29 h
    refine lv_aload_n hx hb dX3_keepImage_32 rfl (lv_at hl 0 rfl) ?_
    refine rgS C hH fs_RX3_18_23 dX3_keepImage_33 ?_
    refine lv_iload_n hx hb dX3_keepImage_36 rfl (lv_at hl 1 rfl) ?_
    refine lv_aload_n hx hb dX3_keepImage_37 rfl (lv_at hl 0 rfl) ?_
    refine rgS C hH fs_RX3_27_23 dX3_keepImage_38 ?_
    refine lv_bipush (v := 9) hx hb dX3_keepImage_41 (by decide) ?_
    refine lv_iload_n hx hb dX3_keepImage_43 rfl (lv_at hl 1 rfl) ?_
    obtain ⟨q44, e44, h⟩ := tB h
    refine rcI C hH hl.1 (mX7_told l e44) cf_RX3_31 ro_1 (RR_of (by decide) (by decide)) rfl (rest := [.int v1, .ref (ad 26)]) rfl (Nat.le_of_ble_eq_true rfl) dX3_keepImage_44 ?_
    intro hz44 H locs hH
    obtain ⟨hi47, h⟩ := tC h
    refine rwI C hH (k := (Int32.toNatClampNeg v1)) (by decide) (show WS 26 = .inr (0, 10, 0) from rfl) hi47 rfl dX3_keepImage_47 (fun H locs hH => ?_)
    refine lv_aload_n hx hb dX3_keepImage_48 rfl (lv_at hl 0 rfl) ?_
    refine rgS C hH fs_RX3_21_23 dX3_keepImage_49 ?_
    refine lv_iload_n hx hb dX3_keepImage_52 rfl (lv_at hl 1 rfl) ?_
    refine lv_aload_n hx hb dX3_keepImage_53 rfl (lv_at hl 0 rfl) ?_
    refine rgS C hH fs_RX3_27_23 dX3_keepImage_54 ?_
    refine lv_bipush (v := 10) hx hb dX3_keepImage_57 (by decide) ?_
    refine lv_iload_n hx hb dX3_keepImage_59 rfl (lv_at hl 1 rfl) ?_
    obtain ⟨q60, e60, h⟩ := tB h
    refine rcI C hH hl.1 (mX7_told l e60) cf_RX3_31 ro_1 (RR_of (by decide) (by decide)) rfl (rest := [.int v1, .ref (ad 27)]) rfl (Nat.le_of_ble_eq_true rfl) dX3_keepImage_60 ?_
    intro hz60 H locs hH
    obtain ⟨hi63, h⟩ := tC h
    refine rwI C hH (k := (Int32.toNatClampNeg v1)) (by decide) (show WS 27 = .inr (0, 10, 0) from rfl) hi63 rfl dX3_keepImage_63 (fun H locs hH => ?_)
    refine lv_iinc (v := (v1 + 1)) (lv' := [(1, .int (v1 + 1)), (0, .ref (ad 23))]) hx hb dX3_keepImage_64 hl (k := 1) rfl rfl (by decide) rfl (fun ls hl => ?_)
    refine lv_goto (tgt := 24) hx hb dX3_keepImage_67 (by decide) ?_
    exact hk24 _ _ h _ _ _ hH (lv_sub hl [1, 0] rfl)
set_option maxHeartbeats 2000000 in
set_option maxRecDepth 20000 in
theorem wX3_keepImage_24 (C : Cx D ca A p s m args meth c cX3_keepImage RX3 2 none) {q : Unit × Mm} : ∀ (N : Nat) (v1 : Int32) (mm : Mm), DX3_keepImage_24 N v1 mm = some q → ∀ (H : Heap) (locs : List Loc) (ls : Array Slot), Hx WN ad ca WS D A s.heap mm H locs → lv_has ls 2 [(0, .ref (ad 23)), (1, .int v1)] → W p l e (rmk 3) s m args below meth c H locs 0 0 (MQ below (QcV WN ad ca WS D A q) args s 0 0 A) (F0 m 24 ls []) := by
  intro N
  induction N with
  | zero =>
    intro v1 mm h
    have h2 : (none : Option (Unit × Mm)) = some q := h
    cases h2
  | succ N ih =>
    intro v1 mm h H locs ls hH hl
    exact wbX3_keepImage_24 C ih h hH hl
set_option maxHeartbeats 2000000 in
set_option maxRecDepth 20000 in
theorem mX3_keepImage (l : Launch) {D : va_G} {ca : Nat → ClassId} {A : Nat → Prop} {ad : Nat → Nat} {mm : Mm} {q : Unit × Mm} (h : dX3_keepImage mm = some q) : Met l yX3_keepImage (wsOf yX3_keepImage cX3_keepImage 2 none) (rmk 3) (PcX WN ad ca WS D A [.ref (ad 23)] mm) (QcV WN ad ca WS D A q) 0 0 A := by
  unfold dX3_keepImage at h
  refine ent (by decide) (Nat.le_of_ble_eq_true rfl) (fun p e s m args below meth c hargs C hH ls hl => ?_)
  have hx := C.1
  have hb := C.2.1
  have hl : lv_has ls 2 [(0, .ref (ad 23))] := hl
  refine lv_aload_n hx hb dX3_keepImage_0 rfl (lv_at hl 0 rfl) ?_
  refine lv_aload_n hx hb dX3_keepImage_1 rfl (lv_at hl 0 rfl) ?_
  refine rgS C hH fs_RX3_27_23 dX3_keepImage_2 ?_
  refine rgI C hH fi_RX3_45_1 dX3_keepImage_5 ?_
  refine rpI C hH fp_RX3_57_23 rfl rfl dX3_keepImage_8 (fun H locs hH => ?_)
  refine lv_aload_n hx hb dX3_keepImage_11 rfl (lv_at hl 0 rfl) ?_
  refine lv_aload_n hx hb dX3_keepImage_12 rfl (lv_at hl 0 rfl) ?_
  refine rgS C hH fs_RX3_27_23 dX3_keepImage_13 ?_
  refine rgI C hH fi_RX3_60_1 dX3_keepImage_16 ?_
  refine rpI C hH fp_RX3_63_23 rfl rfl dX3_keepImage_19 (fun H locs hH => ?_)
  refine lv_iconst (v := 0) hx hb dX3_keepImage_22 (by decide) ?_
  refine lv_istore_n (lv' := [(1, .int 0), (0, .ref (ad 23))]) hx hb dX3_keepImage_23 rfl hl (by decide) rfl (fun ls hl => ?_)
  exact wX3_keepImage_24 C FU _ _ h _ _ _ hH (lv_sub hl [1, 0] rfl)
set_option maxHeartbeats 2000000 in
set_option maxRecDepth 20000 in
theorem mX9_image (l : Launch) {D : va_G} {ca : Nat → ClassId} {A : Nat → Prop} {ad : Nat → Nat} {mm : Mm} {q : Int32 × Mm} (h : dX9_image mm = some q) : Met l yX9_image (wsOf yX9_image cX9_image 1 (some .int)) (rmk 4) (PcX WN ad ca WS D A [.ref (ad 0)] mm) (QcI WN ad ca WS D A pzT q) 0 0 A := by
  unfold dX9_image at h
  refine ent (by decide) (Nat.le_of_ble_eq_true rfl) (fun p e s m args below meth c hargs C hH ls hl => ?_)
  have hx := C.1
  have hb := C.2.1
  have hl : lv_has ls 1 [(0, .ref (ad 0))] := hl
  refine lv_aload_n hx hb dX9_image_0 rfl (lv_at hl 0 rfl) ?_
  refine rgS C hH fs_RX9_42_0 dX9_image_1 ?_
  obtain ⟨q4, e4, h⟩ := tB h
  refine rcV C hH hl.1 (mX3_keepImage l e4) cf_RX9_260 ro_23 (RR_of (by decide) (by decide)) rfl (rest := []) rfl (Nat.le_of_ble_eq_true rfl) dX9_image_4 ?_
  intro H locs hH
  refine lv_aload_n hx hb dX9_image_7 rfl (lv_at hl 0 rfl) ?_
  refine rgS C hH fs_RX9_42_0 dX9_image_8 ?_
  refine lv_iconst (v := 0) hx hb dX9_image_11 (by decide) ?_
  obtain ⟨q12, e12, h⟩ := tB h
  refine rcI C hH hl.1 (mX3_line l e12) cf_RX9_257 ro_23 (RR_of (by decide) (by decide)) rfl (rest := []) rfl (Nat.le_of_ble_eq_true rfl) dX9_image_12 ?_
  intro hz12 H locs hH
  have h := Option.some.inj h
  subst h
  exact retI C hH trivial dX9_image_15
end WALK
