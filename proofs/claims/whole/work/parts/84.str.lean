/-! ===== the String constant's indexOf, Arrays.fill ===== -/
theorem none_ne {α : Type} {q : α} {P : Prop} (h : (none : Option α) = some q) : P := by cases h
theorem js_cs : Cond.fieldLink RJ0 38 "java/lang/String" "COMPACT_STRINGS" "Z" ∈ wdT := mem_wd 493 (by decide +kernel) (by decide +kernel)
theorem js_co : Cond.fieldLink RJ0 15 "java/lang/String" "coder" "B" ∈ wdT := mem_wd 1569 (by decide +kernel) (by decide +kernel)
theorem js_va : Cond.fieldLink RJ0 9 "java/lang/String" "value" "[B" ∈ wdT := mem_wd 1570 (by decide +kernel) (by decide +kernel)
theorem jc_633 : CF RJ0 633 yJ0_indexOf_7cf53 cJ0_indexOf_7cf53 3 (some .int) 2 := ⟨mem_wd 485 (by decide +kernel) (by decide +kernel), mem_wd 486 (by decide +kernel) (by decide +kernel), mem_wd 487 (by decide +kernel) (by decide +kernel), mem_wd 84 (by decide +kernel) (by decide +kernel), mem_wd 488 (by decide +kernel) (by decide +kernel), by decide, by decide, by decide +kernel⟩
theorem jc_492 : CF RJ0 492 yJ0_isLatin1_aae02 cJ0_isLatin1_aae02 1 (some .boolean) 0 := ⟨mem_wd 489 (by decide +kernel) (by decide +kernel), mem_wd 490 (by decide +kernel) (by decide +kernel), mem_wd 491 (by decide +kernel) (by decide +kernel), mem_wd 84 (by decide +kernel) (by decide +kernel), mem_wd 492 (by decide +kernel) (by decide +kernel), by decide, by decide, by decide +kernel⟩
theorem jc_505 : CF RJ0 505 yJ0_length_8abf5 cJ0_length_8abf5 1 (some .int) 0 := ⟨mem_wd 495 (by decide +kernel) (by decide +kernel), mem_wd 496 (by decide +kernel) (by decide +kernel), mem_wd 497 (by decide +kernel) (by decide +kernel), mem_wd 84 (by decide +kernel) (by decide +kernel), mem_wd 498 (by decide +kernel) (by decide +kernel), by decide, by decide, by decide +kernel⟩
theorem jc_335 : CF RJ0 335 yJ0_coder_7d493 cJ0_coder_7d493 1 (some .byte) 0 := ⟨mem_wd 499 (by decide +kernel) (by decide +kernel), mem_wd 500 (by decide +kernel) (by decide +kernel), mem_wd 501 (by decide +kernel) (by decide +kernel), mem_wd 84 (by decide +kernel) (by decide +kernel), mem_wd 502 (by decide +kernel) (by decide +kernel), by decide, by decide, by decide +kernel⟩
theorem jc_637 : CS RJ0 637 yJ1_indexOf_4cfef cJ1_indexOf_4cfef 4 (some .int) 4 := ⟨mem_wd 503 (by decide +kernel) (by decide +kernel), mem_wd 504 (by decide +kernel) (by decide +kernel), mem_wd 85 (by decide +kernel) (by decide +kernel), mem_wd 505 (by decide +kernel) (by decide +kernel), by decide, by decide, by decide +kernel⟩
theorem jc_88 : CS RJ1 88 yJ1_canEncode_9a6ad cJ1_canEncode_9a6ad 1 (some .boolean) 1 := ⟨mem_wd 506 (by decide +kernel) (by decide +kernel), mem_wd 507 (by decide +kernel) (by decide +kernel), mem_wd 85 (by decide +kernel) (by decide +kernel), mem_wd 508 (by decide +kernel) (by decide +kernel), by decide, by decide, by decide +kernel⟩
theorem jc_95 : CS RJ1 95 yJ1_indexOfChar_4cfef cJ1_indexOfChar_4cfef 6 (some .int) 4 := ⟨mem_wd 515 (by decide +kernel) (by decide +kernel), mem_wd 516 (by decide +kernel) (by decide +kernel), mem_wd 85 (by decide +kernel) (by decide +kernel), mem_wd 517 (by decide +kernel) (by decide +kernel), by decide, by decide, by decide +kernel⟩
theorem jm_92 : Cond.methodLink RJ1 92 Lib.Math.max.name ∈ wdT ∧ Cond.static Lib.Math.max.name ∈ wdT ∧ Cond.initialized "java/lang/Math" ∈ wdT ∧ Cond.code Lib.Math.max.name Lib.Math.max.code 2 (some .int) ∈ wdT := ⟨mem_wd 509 (by decide +kernel) (by decide +kernel), mem_wd 510 (by decide +kernel) (by decide +kernel), mem_wd 86 (by decide +kernel) (by decide +kernel), mem_wd 511 (by decide +kernel) (by decide +kernel)⟩
theorem jm_38 : Cond.methodLink RJ1 38 Lib.Math.min.name ∈ wdT ∧ Cond.static Lib.Math.min.name ∈ wdT ∧ Cond.initialized "java/lang/Math" ∈ wdT ∧ Cond.code Lib.Math.min.name Lib.Math.min.code 2 (some .int) ∈ wdT := ⟨mem_wd 512 (by decide +kernel) (by decide +kernel), mem_wd 513 (by decide +kernel) (by decide +kernel), mem_wd 86 (by decide +kernel) (by decide +kernel), mem_wd 514 (by decide +kernel) (by decide +kernel)⟩
def DJ1_canEncode_9a6ad_15 (mm : Mm) : Option (Int32 × Mm) :=
  some (0, mm)
def dJ1_canEncode_9a6ad (v0 : Int32) (mm : Mm) : Option (Int32 × Mm) :=
  (if v0 < 0 then DJ1_canEncode_9a6ad_15 mm else (if 255 < v0 then DJ1_canEncode_9a6ad_15 mm else some (1, mm)))
section WALK
variable {p : Program} {l : Launch} {e : Env} {s : State} {m : MethodId} {args : Array Value} {below : List Frame} {meth : Method} {c : Code} {H : Heap} {locs : List Loc} {Q : State → Prop} {cells slots : Nat} {ls : Array Slot} {D : va_G} {ca : Nat → ClassId} {A : Nat → Prop} {ad : Nat → Nat}
theorem wJ1_canEncode_9a6ad_15 (C : Cx D ca A p s m args meth c cJ1_canEncode_9a6ad RJ1 1 (some .boolean)) {q : Int32 × Mm} {mm : Mm} (h : DJ1_canEncode_9a6ad_15 mm = some q) (hH : Hx WN ad ca WS D A s.heap mm H locs) (hl : lv_has ls 1 []) : W p l e (rmk 1) s m args below meth c H locs 0 0 (MQ below (QcI WN ad ca WS D A pzZ q) args s 0 0 A) (F0 m 15 ls []) := by
  unfold DJ1_canEncode_9a6ad_15 at h
  have hx := C.1
  have hb := C.2.1
  refine lv_iconst (v := 0) hx hb dJ1_canEncode_9a6ad_15 (by decide) ?_
  have h := Option.some.inj h
  subst h
  exact retZ C hH (Or.inl rfl) dJ1_canEncode_9a6ad_16
theorem mJ1_canEncode_9a6ad (l : Launch) {D : va_G} {ca : Nat → ClassId} {A : Nat → Prop} {ad : Nat → Nat} {v0 : Int32} {mm : Mm} {q : Int32 × Mm} (h : dJ1_canEncode_9a6ad v0 mm = some q) : Met l yJ1_canEncode_9a6ad (wsOf yJ1_canEncode_9a6ad cJ1_canEncode_9a6ad 1 (some .boolean)) (rmk 1) (PcX WN ad ca WS D A [.int v0] mm) (QcI WN ad ca WS D A pzZ q) 0 0 A := by
  unfold dJ1_canEncode_9a6ad at h
  refine ent (by decide) (Nat.le_of_ble_eq_true rfl) (fun p e s m args below meth c hargs C hH ls hl => ?_)
  have hx := C.1
  have hb := C.2.1
  have hl : lv_has ls 1 [(0, .int v0)] := hl
  refine lv_iload_n hx hb dJ1_canEncode_9a6ad_0 rfl (lv_at hl 0 rfl) ?_
  refine lv_if_lt (tgt := 15) hx hb dJ1_canEncode_9a6ad_1 (by decide) (fun hc1 => ?_) (fun hc1 => ?_)
  · replace h := tT hc1 h
    exact wJ1_canEncode_9a6ad_15 C h hH (lv_sub hl [] rfl)
  · replace h := tF hc1 h
    refine lv_iload_n hx hb dJ1_canEncode_9a6ad_4 rfl (lv_at hl 0 rfl) ?_
    refine lv_sipush (v := 255) hx hb dJ1_canEncode_9a6ad_5 (by decide) ?_
    refine lv_icmp_gt (tgt := 15) hx hb dJ1_canEncode_9a6ad_8 (by decide) (fun hc8 => ?_) (fun hc8 => ?_)
    · replace h := tT hc8 h
      exact wJ1_canEncode_9a6ad_15 C h hH (lv_sub hl [] rfl)
    · replace h := tF hc8 h
      refine lv_iconst (v := 1) hx hb dJ1_canEncode_9a6ad_11 (by decide) ?_
      refine lv_goto (tgt := 16) hx hb dJ1_canEncode_9a6ad_12 (by decide) ?_
      have h := Option.some.inj h
      subst h
      exact retZ C hH (Or.inr rfl) dJ1_canEncode_9a6ad_16
end WALK
theorem mJ0_isLatin1_aae02 (l : Launch) {D : va_G} {ca : Nat → ClassId} {A : Nat → Prop} {ad : Nat → Nat} {mm : Mm} (sq st0 : Nat) : Met l yJ0_isLatin1_aae02 (wsOf yJ0_isLatin1_aae02 cJ0_isLatin1_aae02 1 (some .boolean)) (rmk 1) (PcS ad ca D A sq st0 [.ref sq] mm) (QcI WN ad ca WS D A pzT (1, mm)) 0 0 A := by
  refine entS (by decide) (Nat.le_of_ble_eq_true rfl) (fun p e s m args below meth c hargs C hH hB ls hl => ?_)
  have hx := C.1
  have hb := C.2.1
  obtain ⟨hB1, hB2, hB3, hB4, hB5⟩ := id hB
  refine va_gets hx hb hB5 hH.2.2 C.2.2.2.2.1 (C.2.2.2.2.2.1 _ js_cs) (fun _ q => q) dJ0_isLatin1_aae02_0 ?_
  refine lv_if_eq (tgt := 17) hx hb dJ0_isLatin1_aae02_3 (by decide) (fun h => absurd h (by decide)) (fun _ => ?_)
  refine lv_aload_n hx hb dJ0_isLatin1_aae02_6 rfl (lv_at hl 0 rfl) ?_
  refine vk_getf hx hb hB2 hH.2.2 C.2.2.2.2.1 (C.2.2.2.2.2.1 _ js_co) (fun _ q => q) dJ0_isLatin1_aae02_7 ?_
  refine lv_if_ne (tgt := 17) hx hb dJ0_isLatin1_aae02_10 (by decide) (fun h => absurd rfl h) (fun _ => ?_)
  refine lv_iconst (v := 1) hx hb dJ0_isLatin1_aae02_13 (by decide) ?_
  refine lv_goto (tgt := 18) hx hb dJ0_isLatin1_aae02_14 (by decide) ?_
  exact W.zret (v := 1) C.1 C.2.1 C.2.2.1 rfl (fun t ht hW => ⟨⟨1, mm, rfl, ⟨rfl, rfl, trivial⟩, by show va_P _ _ _ t.heap; rw [ht]; exact hH.1⟩, hH.2.2.F ht⟩) hH.2.2.2.2 dJ0_isLatin1_aae02_18 C.2.2.2.2.2.2.1
theorem mJ0_coder_7d493 (l : Launch) {D : va_G} {ca : Nat → ClassId} {A : Nat → Prop} {ad : Nat → Nat} {mm : Mm} (sq st0 : Nat) : Met l yJ0_coder_7d493 (wsOf yJ0_coder_7d493 cJ0_coder_7d493 1 (some .byte)) (rmk 1) (PcS ad ca D A sq st0 [.ref sq] mm) (QcI WN ad ca WS D A pzT (0, mm)) 0 0 A := by
  refine entS (by decide) (Nat.le_of_ble_eq_true rfl) (fun p e s m args below meth c hargs C hH hB ls hl => ?_)
  have hx := C.1
  have hb := C.2.1
  obtain ⟨hB1, hB2, hB3, hB4, hB5⟩ := id hB
  refine va_gets hx hb hB5 hH.2.2 C.2.2.2.2.1 (C.2.2.2.2.2.1 _ js_cs) (fun _ q => q) dJ0_coder_7d493_0 ?_
  refine lv_if_eq (tgt := 13) hx hb dJ0_coder_7d493_3 (by decide) (fun h => absurd h (by decide)) (fun _ => ?_)
  refine lv_aload_n hx hb dJ0_coder_7d493_6 rfl (lv_at hl 0 rfl) ?_
  refine vk_getf hx hb hB2 hH.2.2 C.2.2.2.2.1 (C.2.2.2.2.2.1 _ js_co) (fun _ q => q) dJ0_coder_7d493_7 ?_
  refine lv_goto (tgt := 14) hx hb dJ0_coder_7d493_10 (by decide) ?_
  exact W.zret (v := 0) C.1 C.2.1 C.2.2.1 rfl (fun t ht hW => ⟨⟨0, mm, rfl, ⟨rfl, rfl, trivial⟩, by show va_P _ _ _ t.heap; rw [ht]; exact hH.1⟩, hH.2.2.F ht⟩) hH.2.2.2.2 dJ0_coder_7d493_14 C.2.2.2.2.2.2.1
theorem mJ0_length_8abf5 (l : Launch) {D : va_G} {ca : Nat → ClassId} {A : Nat → Prop} {ad : Nat → Nat} {mm : Mm} (sq st0 : Nat) : Met l yJ0_length_8abf5 (wsOf yJ0_length_8abf5 cJ0_length_8abf5 1 (some .int)) (rmk 2) (PcS ad ca D A sq st0 [.ref sq] mm) (QcI WN ad ca WS D A pzT (6, mm)) 0 0 A := by
  refine entS (by decide) (Nat.le_of_ble_eq_true rfl) (fun p e s m args below meth c hargs C hH hB ls hl => ?_)
  have hx := C.1
  have hb := C.2.1
  obtain ⟨hB1, hB2, hB3, hB4, hB5⟩ := id hB
  refine lv_aload_n hx hb dJ0_length_8abf5_0 rfl (lv_at hl 0 rfl) ?_
  refine vk_getf hx hb hB3 hH.2.2 C.2.2.2.2.1 (C.2.2.2.2.2.1 _ js_va) (fun _ q => q) dJ0_length_8abf5_1 ?_
  refine va_tlen hx hb hB4 hH.2.2 (v := 6) (by decide) dJ0_length_8abf5_4 ?_
  refine lv_aload_n hx hb dJ0_length_8abf5_5 rfl (lv_at hl 0 rfl) ?_
  refine rcS C hH hl.1 hB (mJ0_coder_7d493 l sq st0) jc_335 rfl (RR_of (by decide) (by decide)) rfl (rest := [.int 6]) rfl (Nat.le_of_ble_eq_true rfl) dJ0_length_8abf5_6 (fun H locs hH => ?_)
  refine lv_ishr hx hb dJ0_length_8abf5_9 ?_
  rw [show ((6 : Int32) >>> ((0 : Int32) &&& 31)) = 6 by decide]
  exact retI C hH trivial dJ0_length_8abf5_10
theorem mJ1_indexOfChar_4cfef (l : Launch) {D : va_G} {ca : Nat → ClassId} {A : Nat → Prop} {ad : Nat → Nat} {mm : Mm} (sq st0 : Nat) (v : Int32) : Met l yJ1_indexOfChar_4cfef (wsOf yJ1_indexOfChar_4cfef cJ1_indexOfChar_4cfef 6 (some .int)) (rmk 1) (PcS ad ca D A sq st0 [.ref st0, .int v, .int 0, .int 6] mm) (QcI WN ad ca WS D A pzT (ixC (iB v), mm)) 0 0 A := by
  refine entS (by decide) (Nat.le_of_ble_eq_true rfl) (fun p e s m args below meth c hargs C hH hB ls hl => ?_)
  have hx := C.1
  have hb := C.2.1
  obtain ⟨hB1, hB2, hB3, hB4, hB5⟩ := id hB
  have hl : lv_has ls 6 [(0, .ref st0), (1, .int v), (2, .int 0), (3, .int 6)] := hl
  refine lv_iload_n hx hb dJ1_indexOfChar_4cfef_0 rfl (lv_at hl 1 rfl) ?_
  refine lv_i2b' hx hb dJ1_indexOfChar_4cfef_1 ?_
  refine lv_istore (lv' := [(4, .int (iB v)), (0, .ref st0), (1, .int v), (2, .int 0), (3, .int 6)]) hx hb dJ1_indexOfChar_4cfef_2 hl (by decide) rfl (fun ls hl => ?_)
  refine lv_iload_n hx hb dJ1_indexOfChar_4cfef_4 rfl (lv_at hl 3 rfl) ?_
  refine lv_istore (lv' := [(5, .int 0), (4, .int (iB v)), (0, .ref st0), (1, .int v), (2, .int 0), (3, .int 6)]) hx hb dJ1_indexOfChar_4cfef_5 hl (by decide) rfl (fun ls hl => ?_)
  refine lv_iload hx hb dJ1_indexOfChar_4cfef_7 (lv_at hl 0 rfl) ?_
  refine lv_iload_n hx hb dJ1_indexOfChar_4cfef_9 rfl (lv_at hl 5 rfl) ?_
  refine lv_icmp_ge (tgt := 31) hx hb dJ1_indexOfChar_4cfef_10 (by decide) (fun h => absurd h (by decide)) (fun _ => ?_)
  refine lv_aload_n hx hb dJ1_indexOfChar_4cfef_13 rfl (lv_at hl 2 rfl) ?_
  refine lv_iload hx hb dJ1_indexOfChar_4cfef_14 (lv_at hl 0 rfl) ?_
  refine va_tb hx hb hB4 hH.2.2 (i := 0) (v := .int (tbNAMES 0)) (show inB 0 6 from by decide) rfl dJ1_indexOfChar_4cfef_16 ?_
  refine lv_iload hx hb dJ1_indexOfChar_4cfef_17 (lv_at hl 1 rfl) ?_
  refine lv_icmp_ne (tgt := 25) hx hb dJ1_indexOfChar_4cfef_19 (by decide) (fun h0 => ?_) (fun h0 => ?_)
  rotate_left
  · refine lv_iload hx hb dJ1_indexOfChar_4cfef_22 (lv_at hl 0 rfl) ?_
    rw [show ixC (iB v) = 0 by unfold ixC; rw [if_pos h0]]
    exact retI C hH trivial dJ1_indexOfChar_4cfef_24
  refine lv_iinc (v := 1) (lv' := [(5, .int 1), (4, .int (iB v)), (0, .ref st0), (1, .int v), (2, .int 0), (3, .int 6)]) hx hb dJ1_indexOfChar_4cfef_25 hl (k := 0) rfl (by decide) (by decide) rfl (fun ls hl => ?_)
  refine lv_goto (tgt := 7) hx hb dJ1_indexOfChar_4cfef_28 (by decide) ?_
  refine lv_iload hx hb dJ1_indexOfChar_4cfef_7 (lv_at hl 0 rfl) ?_
  refine lv_iload_n hx hb dJ1_indexOfChar_4cfef_9 rfl (lv_at hl 5 rfl) ?_
  refine lv_icmp_ge (tgt := 31) hx hb dJ1_indexOfChar_4cfef_10 (by decide) (fun h => absurd h (by decide)) (fun _ => ?_)
  refine lv_aload_n hx hb dJ1_indexOfChar_4cfef_13 rfl (lv_at hl 2 rfl) ?_
  refine lv_iload hx hb dJ1_indexOfChar_4cfef_14 (lv_at hl 0 rfl) ?_
  refine va_tb hx hb hB4 hH.2.2 (i := 1) (v := .int (tbNAMES 1)) (show inB 1 6 from by decide) rfl dJ1_indexOfChar_4cfef_16 ?_
  refine lv_iload hx hb dJ1_indexOfChar_4cfef_17 (lv_at hl 1 rfl) ?_
  refine lv_icmp_ne (tgt := 25) hx hb dJ1_indexOfChar_4cfef_19 (by decide) (fun h1 => ?_) (fun h1 => ?_)
  rotate_left
  · refine lv_iload hx hb dJ1_indexOfChar_4cfef_22 (lv_at hl 0 rfl) ?_
    rw [show ixC (iB v) = 1 by unfold ixC; rw [if_neg h0, if_pos h1]]
    exact retI C hH trivial dJ1_indexOfChar_4cfef_24
  refine lv_iinc (v := 2) (lv' := [(5, .int 2), (4, .int (iB v)), (0, .ref st0), (1, .int v), (2, .int 0), (3, .int 6)]) hx hb dJ1_indexOfChar_4cfef_25 hl (k := 0) rfl (by decide) (by decide) rfl (fun ls hl => ?_)
  refine lv_goto (tgt := 7) hx hb dJ1_indexOfChar_4cfef_28 (by decide) ?_
  refine lv_iload hx hb dJ1_indexOfChar_4cfef_7 (lv_at hl 0 rfl) ?_
  refine lv_iload_n hx hb dJ1_indexOfChar_4cfef_9 rfl (lv_at hl 5 rfl) ?_
  refine lv_icmp_ge (tgt := 31) hx hb dJ1_indexOfChar_4cfef_10 (by decide) (fun h => absurd h (by decide)) (fun _ => ?_)
  refine lv_aload_n hx hb dJ1_indexOfChar_4cfef_13 rfl (lv_at hl 2 rfl) ?_
  refine lv_iload hx hb dJ1_indexOfChar_4cfef_14 (lv_at hl 0 rfl) ?_
  refine va_tb hx hb hB4 hH.2.2 (i := 2) (v := .int (tbNAMES 2)) (show inB 2 6 from by decide) rfl dJ1_indexOfChar_4cfef_16 ?_
  refine lv_iload hx hb dJ1_indexOfChar_4cfef_17 (lv_at hl 1 rfl) ?_
  refine lv_icmp_ne (tgt := 25) hx hb dJ1_indexOfChar_4cfef_19 (by decide) (fun h2 => ?_) (fun h2 => ?_)
  rotate_left
  · refine lv_iload hx hb dJ1_indexOfChar_4cfef_22 (lv_at hl 0 rfl) ?_
    rw [show ixC (iB v) = 2 by unfold ixC; rw [if_neg h0, if_neg h1, if_pos h2]]
    exact retI C hH trivial dJ1_indexOfChar_4cfef_24
  refine lv_iinc (v := 3) (lv' := [(5, .int 3), (4, .int (iB v)), (0, .ref st0), (1, .int v), (2, .int 0), (3, .int 6)]) hx hb dJ1_indexOfChar_4cfef_25 hl (k := 0) rfl (by decide) (by decide) rfl (fun ls hl => ?_)
  refine lv_goto (tgt := 7) hx hb dJ1_indexOfChar_4cfef_28 (by decide) ?_
  refine lv_iload hx hb dJ1_indexOfChar_4cfef_7 (lv_at hl 0 rfl) ?_
  refine lv_iload_n hx hb dJ1_indexOfChar_4cfef_9 rfl (lv_at hl 5 rfl) ?_
  refine lv_icmp_ge (tgt := 31) hx hb dJ1_indexOfChar_4cfef_10 (by decide) (fun h => absurd h (by decide)) (fun _ => ?_)
  refine lv_aload_n hx hb dJ1_indexOfChar_4cfef_13 rfl (lv_at hl 2 rfl) ?_
  refine lv_iload hx hb dJ1_indexOfChar_4cfef_14 (lv_at hl 0 rfl) ?_
  refine va_tb hx hb hB4 hH.2.2 (i := 3) (v := .int (tbNAMES 3)) (show inB 3 6 from by decide) rfl dJ1_indexOfChar_4cfef_16 ?_
  refine lv_iload hx hb dJ1_indexOfChar_4cfef_17 (lv_at hl 1 rfl) ?_
  refine lv_icmp_ne (tgt := 25) hx hb dJ1_indexOfChar_4cfef_19 (by decide) (fun h3 => ?_) (fun h3 => ?_)
  rotate_left
  · refine lv_iload hx hb dJ1_indexOfChar_4cfef_22 (lv_at hl 0 rfl) ?_
    rw [show ixC (iB v) = 3 by unfold ixC; rw [if_neg h0, if_neg h1, if_neg h2, if_pos h3]]
    exact retI C hH trivial dJ1_indexOfChar_4cfef_24
  refine lv_iinc (v := 4) (lv' := [(5, .int 4), (4, .int (iB v)), (0, .ref st0), (1, .int v), (2, .int 0), (3, .int 6)]) hx hb dJ1_indexOfChar_4cfef_25 hl (k := 0) rfl (by decide) (by decide) rfl (fun ls hl => ?_)
  refine lv_goto (tgt := 7) hx hb dJ1_indexOfChar_4cfef_28 (by decide) ?_
  refine lv_iload hx hb dJ1_indexOfChar_4cfef_7 (lv_at hl 0 rfl) ?_
  refine lv_iload_n hx hb dJ1_indexOfChar_4cfef_9 rfl (lv_at hl 5 rfl) ?_
  refine lv_icmp_ge (tgt := 31) hx hb dJ1_indexOfChar_4cfef_10 (by decide) (fun h => absurd h (by decide)) (fun _ => ?_)
  refine lv_aload_n hx hb dJ1_indexOfChar_4cfef_13 rfl (lv_at hl 2 rfl) ?_
  refine lv_iload hx hb dJ1_indexOfChar_4cfef_14 (lv_at hl 0 rfl) ?_
  refine va_tb hx hb hB4 hH.2.2 (i := 4) (v := .int (tbNAMES 4)) (show inB 4 6 from by decide) rfl dJ1_indexOfChar_4cfef_16 ?_
  refine lv_iload hx hb dJ1_indexOfChar_4cfef_17 (lv_at hl 1 rfl) ?_
  refine lv_icmp_ne (tgt := 25) hx hb dJ1_indexOfChar_4cfef_19 (by decide) (fun h4 => ?_) (fun h4 => ?_)
  rotate_left
  · refine lv_iload hx hb dJ1_indexOfChar_4cfef_22 (lv_at hl 0 rfl) ?_
    rw [show ixC (iB v) = 4 by unfold ixC; rw [if_neg h0, if_neg h1, if_neg h2, if_neg h3, if_pos h4]]
    exact retI C hH trivial dJ1_indexOfChar_4cfef_24
  refine lv_iinc (v := 5) (lv' := [(5, .int 5), (4, .int (iB v)), (0, .ref st0), (1, .int v), (2, .int 0), (3, .int 6)]) hx hb dJ1_indexOfChar_4cfef_25 hl (k := 0) rfl (by decide) (by decide) rfl (fun ls hl => ?_)
  refine lv_goto (tgt := 7) hx hb dJ1_indexOfChar_4cfef_28 (by decide) ?_
  refine lv_iload hx hb dJ1_indexOfChar_4cfef_7 (lv_at hl 0 rfl) ?_
  refine lv_iload_n hx hb dJ1_indexOfChar_4cfef_9 rfl (lv_at hl 5 rfl) ?_
  refine lv_icmp_ge (tgt := 31) hx hb dJ1_indexOfChar_4cfef_10 (by decide) (fun h => absurd h (by decide)) (fun _ => ?_)
  refine lv_aload_n hx hb dJ1_indexOfChar_4cfef_13 rfl (lv_at hl 2 rfl) ?_
  refine lv_iload hx hb dJ1_indexOfChar_4cfef_14 (lv_at hl 0 rfl) ?_
  refine va_tb hx hb hB4 hH.2.2 (i := 5) (v := .int (tbNAMES 5)) (show inB 5 6 from by decide) rfl dJ1_indexOfChar_4cfef_16 ?_
  refine lv_iload hx hb dJ1_indexOfChar_4cfef_17 (lv_at hl 1 rfl) ?_
  refine lv_icmp_ne (tgt := 25) hx hb dJ1_indexOfChar_4cfef_19 (by decide) (fun h5 => ?_) (fun h5 => ?_)
  rotate_left
  · refine lv_iload hx hb dJ1_indexOfChar_4cfef_22 (lv_at hl 0 rfl) ?_
    rw [show ixC (iB v) = 5 by unfold ixC; rw [if_neg h0, if_neg h1, if_neg h2, if_neg h3, if_neg h4, if_pos h5]]
    exact retI C hH trivial dJ1_indexOfChar_4cfef_24
  refine lv_iinc (v := 6) (lv' := [(5, .int 6), (4, .int (iB v)), (0, .ref st0), (1, .int v), (2, .int 0), (3, .int 6)]) hx hb dJ1_indexOfChar_4cfef_25 hl (k := 0) rfl (by decide) (by decide) rfl (fun ls hl => ?_)
  refine lv_goto (tgt := 7) hx hb dJ1_indexOfChar_4cfef_28 (by decide) ?_
  refine lv_iload hx hb dJ1_indexOfChar_4cfef_7 (lv_at hl 0 rfl) ?_
  refine lv_iload_n hx hb dJ1_indexOfChar_4cfef_9 rfl (lv_at hl 5 rfl) ?_
  refine lv_icmp_ge (tgt := 31) hx hb dJ1_indexOfChar_4cfef_10 (by decide) (fun _ => ?_) (fun h => absurd (by decide) h)
  refine lv_iconst (v := -1) hx hb dJ1_indexOfChar_4cfef_31 (by decide) ?_
  rw [show ixC (iB v) = -1 by unfold ixC; rw [if_neg h0, if_neg h1, if_neg h2, if_neg h3, if_neg h4, if_neg h5]]
  exact retI C hH trivial dJ1_indexOfChar_4cfef_32
theorem mJ1_indexOf_4cfef (l : Launch) {D : va_G} {ca : Nat → ClassId} {A : Nat → Prop} {ad : Nat → Nat} {mm : Mm} (sq st0 : Nat) (v : Int32) : Met l yJ1_indexOf_4cfef (wsOf yJ1_indexOf_4cfef cJ1_indexOf_4cfef 4 (some .int)) (rmk 3) (PcS ad ca D A sq st0 [.ref st0, .int v, .int 0, .int 6] mm) (QcI WN ad ca WS D A pzT (dIx v, mm)) 0 0 A := by
  refine entS (by decide) (Nat.le_of_ble_eq_true rfl) (fun p e s m args below meth c hargs C hH hB ls hl => ?_)
  have hx := C.1
  have hb := C.2.1
  obtain ⟨hB1, hB2, hB3, hB4, hB5⟩ := id hB
  have hl : lv_has ls 4 [(0, .ref st0), (1, .int v), (2, .int 0), (3, .int 6)] := hl
  refine lv_iload_n hx hb dJ1_indexOf_4cfef_0 rfl (lv_at hl 1 rfl) ?_
  have e1 : dJ1_canEncode_9a6ad v mm = some ((if v < 0 then 0 else if 255 < v then 0 else 1), mm) := by
    simp only [dJ1_canEncode_9a6ad, DJ1_canEncode_9a6ad_15]
    by_cases g1 : v < 0
    · rw [if_pos g1, if_pos g1]
    · rw [if_neg g1, if_neg g1]
      by_cases g2 : 255 < v
      · rw [if_pos g2, if_pos g2]
      · rw [if_neg g2, if_neg g2]
  refine rsI C hH hl.1 (mJ1_canEncode_9a6ad l e1) jc_88 (RR_of (by decide) (by decide)) rfl (rest := []) rfl (Nat.le_of_ble_eq_true rfl) dJ1_indexOf_4cfef_1 ?_
  intro _ H locs hH
  dsimp only at hH ⊢
  refine lv_if_ne (tgt := 9) hx hb dJ1_indexOf_4cfef_4 (by decide) (fun h => ?_) (fun h => ?_)
  rotate_left
  · refine lv_iconst (v := -1) hx hb dJ1_indexOf_4cfef_7 (by decide) ?_
    have e2 : dIx v = -1 := by
      unfold dIx
      by_cases g1 : v < 0
      · rw [if_pos g1]
      · rw [if_neg g1] at h ⊢
        by_cases g2 : 255 < v
        · rw [if_pos g2]
        · rw [if_neg g2] at h; exact absurd h (by decide)
    rw [e2]
    exact retI C hH trivial dJ1_indexOf_4cfef_8
  refine lv_iload_n hx hb dJ1_indexOf_4cfef_9 rfl (lv_at hl 2 rfl) ?_
  refine lv_iconst (v := 0) hx hb dJ1_indexOf_4cfef_10 (by decide) ?_
  refine rmax C hl.1 jm_92 (RR_of (by decide) (by decide)) (Nat.le_of_ble_eq_true rfl) dJ1_indexOf_4cfef_11 ?_
  rw [show iMax 0 0 = 0 by decide]
  refine lv_istore_n (lv' := [(2, .int 0), (0, .ref st0), (1, .int v), (3, .int 6)]) hx hb dJ1_indexOf_4cfef_14 rfl hl (by decide) rfl (fun ls hl => ?_)
  refine lv_iload_n hx hb dJ1_indexOf_4cfef_15 rfl (lv_at hl 3 rfl) ?_
  refine lv_aload_n hx hb dJ1_indexOf_4cfef_16 rfl (lv_at hl 1 rfl) ?_
  refine va_tlen hx hb hB4 hH.2.2 (v := 6) (by decide) dJ1_indexOf_4cfef_17 ?_
  refine rmin C hl.1 jm_38 (RR_of (by decide) (by decide)) (Nat.le_of_ble_eq_true rfl) dJ1_indexOf_4cfef_18 ?_
  rw [show iMin 6 6 = 6 by decide]
  refine lv_istore_n (lv' := [(3, .int 6), (2, .int 0), (0, .ref st0), (1, .int v)]) hx hb dJ1_indexOf_4cfef_21 rfl hl (by decide) rfl (fun ls hl => ?_)
  refine lv_iload_n hx hb dJ1_indexOf_4cfef_22 rfl (lv_at hl 1 rfl) ?_
  refine lv_iload_n hx hb dJ1_indexOf_4cfef_23 rfl (lv_at hl 0 rfl) ?_
  refine lv_icmp_lt (tgt := 29) hx hb dJ1_indexOf_4cfef_24 (by decide) (fun _ => ?_) (fun h => absurd (by decide) h)
  refine lv_aload_n hx hb dJ1_indexOf_4cfef_29 rfl (lv_at hl 2 rfl) ?_
  refine lv_iload_n hx hb dJ1_indexOf_4cfef_30 rfl (lv_at hl 3 rfl) ?_
  refine lv_iload_n hx hb dJ1_indexOf_4cfef_31 rfl (lv_at hl 1 rfl) ?_
  refine lv_iload_n hx hb dJ1_indexOf_4cfef_32 rfl (lv_at hl 0 rfl) ?_
  refine rsS C hH hl.1 hB (mJ1_indexOfChar_4cfef l sq st0 v) jc_95 (RR_of (by decide) (by decide)) rfl (rest := []) rfl (Nat.le_of_ble_eq_true rfl) dJ1_indexOf_4cfef_33 (fun H locs hH => ?_)
  have e2 : dIx v = ixC (iB v) := by
    unfold dIx
    by_cases g1 : v < 0
    · rw [if_pos g1] at h; exact absurd rfl h
    · rw [if_neg g1] at h ⊢
      by_cases g2 : 255 < v
      · rw [if_pos g2] at h; exact absurd rfl h
      · rw [if_neg g2]
  rw [e2]
  exact retI C hH trivial dJ1_indexOf_4cfef_36
theorem mJ0_indexOf_7cf53 (l : Launch) {D : va_G} {ca : Nat → ClassId} {A : Nat → Prop} {ad : Nat → Nat} {mm : Mm} (sq st0 : Nat) (v : Int32) : Met l yJ0_indexOf_7cf53 (wsOf yJ0_indexOf_7cf53 cJ0_indexOf_7cf53 3 (some .int)) (rmk 4) (PcS ad ca D A sq st0 [.ref sq, .int v, .int 0] mm) (QcI WN ad ca WS D A pzT (dIx v, mm)) 0 0 A := by
  refine entS (by decide) (Nat.le_of_ble_eq_true rfl) (fun p e s m args below meth c hargs C hH hB ls hl => ?_)
  have hx := C.1
  have hb := C.2.1
  obtain ⟨hB1, hB2, hB3, hB4, hB5⟩ := id hB
  have hl : lv_has ls 3 [(0, .ref sq), (1, .int v), (2, .int 0)] := hl
  refine lv_aload_n hx hb dJ0_indexOf_7cf53_0 rfl (lv_at hl 0 rfl) ?_
  refine rcS C hH hl.1 hB (mJ0_isLatin1_aae02 l sq st0) jc_492 rfl (RR_of (by decide) (by decide)) rfl (rest := []) rfl (Nat.le_of_ble_eq_true rfl) dJ0_indexOf_7cf53_1 (fun H locs hH => ?_)
  refine lv_if_eq (tgt := 23) hx hb dJ0_indexOf_7cf53_4 (by decide) (fun h => absurd h (by decide)) (fun _ => ?_)
  refine lv_aload_n hx hb dJ0_indexOf_7cf53_7 rfl (lv_at hl 0 rfl) ?_
  refine vk_getf hx hb hB3 hH.2.2 C.2.2.2.2.1 (C.2.2.2.2.2.1 _ js_va) (fun _ q => q) dJ0_indexOf_7cf53_8 ?_
  refine lv_iload_n hx hb dJ0_indexOf_7cf53_11 rfl (lv_at hl 1 rfl) ?_
  refine lv_iload_n hx hb dJ0_indexOf_7cf53_12 rfl (lv_at hl 2 rfl) ?_
  refine lv_aload_n hx hb dJ0_indexOf_7cf53_13 rfl (lv_at hl 0 rfl) ?_
  refine rcS C hH hl.1 hB (mJ0_length_8abf5 l sq st0) jc_505 rfl (RR_of (by decide) (by decide)) rfl (rest := [.int 0, .int v, .ref st0]) rfl (Nat.le_of_ble_eq_true rfl) dJ0_indexOf_7cf53_14 (fun H locs hH => ?_)
  refine rsS C hH hl.1 hB (mJ1_indexOf_4cfef l sq st0 v) jc_637 (RR_of (by decide) (by decide)) rfl (rest := []) rfl (Nat.le_of_ble_eq_true rfl) dJ0_indexOf_7cf53_17 (fun H locs hH => ?_)
  refine lv_goto (tgt := 36) hx hb dJ0_indexOf_7cf53_20 (by decide) ?_
  exact retI C hH trivial dJ0_indexOf_7cf53_36
theorem mJ0_indexOf_0f7a4 (l : Launch) {D : va_G} {ca : Nat → ClassId} {A : Nat → Prop} {ad : Nat → Nat} {mm : Mm} (sq st0 : Nat) (v : Int32) : Met l yJ0_indexOf_0f7a4 (wsOf yJ0_indexOf_0f7a4 cJ0_indexOf_0f7a4 2 (some .int)) (rmk 5) (PcS ad ca D A sq st0 [.ref sq, .int v] mm) (QcI WN ad ca WS D A pzT (dIx v, mm)) 0 0 A := by
  refine entS (by decide) (Nat.le_of_ble_eq_true rfl) (fun p e s m args below meth c hargs C hH hB ls hl => ?_)
  have hx := C.1
  have hb := C.2.1
  obtain ⟨hB1, hB2, hB3, hB4, hB5⟩ := id hB
  have hl : lv_has ls 2 [(0, .ref sq), (1, .int v)] := hl
  refine lv_aload_n hx hb dJ0_indexOf_0f7a4_0 rfl (lv_at hl 0 rfl) ?_
  refine lv_iload_n hx hb dJ0_indexOf_0f7a4_1 rfl (lv_at hl 1 rfl) ?_
  refine lv_iconst (v := 0) hx hb dJ0_indexOf_0f7a4_2 (by decide) ?_
  refine rcS C hH hl.1 hB (mJ0_indexOf_7cf53 l sq st0 v) jc_633 rfl (RR_of (by decide) (by decide)) rfl (rest := []) rfl (Nat.le_of_ble_eq_true rfl) dJ0_indexOf_0f7a4_3 (fun H locs hH => ?_)
  exact retI C hH trivial dJ0_indexOf_0f7a4_6
theorem fl_stepd0a16 {mm : Mm} {o i : Nat} {v : Int64} : sL (flL mm o i v) o i v = flL mm o (i + 1) v := by
  unfold sL flL rL
  refine Prod.ext rfl (Prod.ext ?_ rfl)
  funext a b
  by_cases h : a = o
  · subst h
    by_cases h2 : b = i
    · simp [h2]
    · by_cases h3 : b < i
      · simp [h2, h3, Nat.lt_succ_of_lt h3]
      · have : ¬ b < i + 1 := by omega
        simp [h2, h3, this]
  · simp [h]
theorem fl_0d0a16 {mm : Mm} {o : Nat} {v : Int64} : flL mm o 0 v = mm := by
  unfold flL rL
  refine Prod.ext rfl (Prod.ext ?_ rfl)
  funext a b
  by_cases h : a = o
  · subst h; simp
  · simp [h]
set_option maxHeartbeats 2000000 in
theorem mJ7_fill_d0a16 (l : Launch) {D : va_G} {ca : Nat → ClassId} {A : Nat → Prop} {ad : Nat → Nat} {mm : Mm} {o n : Nat} {v : Int64} (ho : o < WN) (hs : WS o = .inr (3, n, 0)) (hn : n < 1000) : Met l yJ7_fill_d0a16 (wsOf yJ7_fill_d0a16 cJ7_fill_d0a16 5 none) (rmk 1) (PcX WN ad ca WS D A [.ref (ad o), .long v] mm) (QcV WN ad ca WS D A ((), flL mm o n v)) 0 0 A := by
  refine ent (by decide) (Nat.le_of_ble_eq_true rfl) (fun p e s m args below meth c hargs C hH ls hl => ?_)
  have hx := C.1
  have hb := C.2.1
  have hl : lv_has ls 5 [(0, .ref (ad o)), (1, .long v)] := hl
  refine lv_iconst (v := 0) hx hb dJ7_fill_d0a16_0 (by decide) ?_
  refine lv_istore_n (lv' := [(3, .int 0), (0, .ref (ad o)), (1, .long v)]) hx hb dJ7_fill_d0a16_1 rfl hl (by decide) rfl (fun ls hl => ?_)
  refine lv_aload_n hx hb dJ7_fill_d0a16_2 rfl (lv_at hl 1 rfl) ?_
  refine wln C hH (v := nI n) ho hs rfl rfl dJ7_fill_d0a16_3 ?_
  refine lv_istore (lv' := [(4, .int (nI n)), (3, .int 0), (0, .ref (ad o)), (1, .long v)]) hx hb dJ7_fill_d0a16_4 hl (by decide) rfl (fun ls hl => ?_)
  have key : ∀ (N i : Nat), i + N = n → ∀ (H : Heap) (locs : List Loc) (ls : Array Slot), Hx WN ad ca WS D A s.heap (flL mm o i v) H locs → lv_has ls 5 [(3, .int (nI i)), (4, .int (nI n)), (0, .ref (ad o)), (1, .long v)] → W p l e (rmk 1) s m args below meth c H locs 0 0 (MQ below (QcV WN ad ca WS D A ((), flL mm o n v)) args s 0 0 A) (F0 m 6 ls []) := by
    intro N
    induction N with
    | zero =>
      intro i hi H locs ls hH hl
      have : i = n := by omega
      subst this
      refine lv_iload_n hx hb dJ7_fill_d0a16_6 rfl (lv_at hl 0 rfl) ?_
      refine lv_iload hx hb dJ7_fill_d0a16_7 (lv_at hl 1 rfl) ?_
      refine lv_icmp_ge (tgt := 22) hx hb dJ7_fill_d0a16_9 (by decide) (fun _ => ?_) (fun h => absurd (Int32.le_refl _) h)
      exact retV C hH dJ7_fill_d0a16_22
    | succ N ih =>
      intro i hi H locs ls hH hl
      refine lv_iload_n hx hb dJ7_fill_d0a16_6 rfl (lv_at hl 0 rfl) ?_
      refine lv_iload hx hb dJ7_fill_d0a16_7 (lv_at hl 1 rfl) ?_
      refine lv_icmp_ge (tgt := 22) hx hb dJ7_fill_d0a16_9 (by decide) (fun h => ?_) (fun _ => ?_)
      · exfalso
        have h2 : Int32.ofNat n ≤ Int32.ofNat i := h
        have h3 := (Int32.ofNat_le_ofNat (by omega) (by omega)).mp h2
        omega
      · refine lv_aload_n hx hb dJ7_fill_d0a16_12 rfl (lv_at hl 2 rfl) ?_
        refine lv_iload_n hx hb dJ7_fill_d0a16_13 rfl (lv_at hl 0 rfl) ?_
        refine lv_lload_n hx hb dJ7_fill_d0a16_14 rfl (lv_at hl 3 rfl) ?_
        refine rwL C hH (k := i) ho hs (vp_in_nI (by omega) (by omega)) (nI_clamp (by omega)) dJ7_fill_d0a16_15 (fun H locs hH => ?_)
        rw [fl_stepd0a16] at hH
        refine lv_iinc (v := nI (i + 1)) (lv' := [(3, .int (nI (i + 1))), (4, .int (nI n)), (0, .ref (ad o)), (1, .long v)]) hx hb dJ7_fill_d0a16_16 hl (k := 0) rfl (nI_1 i) (by decide) rfl (fun ls hl => ?_)
        refine lv_goto (tgt := 6) hx hb dJ7_fill_d0a16_19 (by decide) ?_
        exact ih (i + 1) (by omega) _ _ _ hH hl
  exact key n 0 (by omega) _ _ _ (by rw [fl_0d0a16]; exact hH) (lv_sub hl [1, 0, 2, 3] rfl)
theorem fl_step53178 {mm : Mm} {o i : Nat} {v : Int32} : sI (flI mm o i v) o i v = flI mm o (i + 1) v := by
  unfold sI flI rI
  refine Prod.ext ?_ rfl
  funext a b
  by_cases h : a = o
  · subst h
    by_cases h2 : b = i
    · simp [h2]
    · by_cases h3 : b < i
      · simp [h2, h3, Nat.lt_succ_of_lt h3]
      · have : ¬ b < i + 1 := by omega
        simp [h2, h3, this]
  · simp [h]
theorem fl_053178 {mm : Mm} {o : Nat} {v : Int32} : flI mm o 0 v = mm := by
  unfold flI rI
  refine Prod.ext ?_ rfl
  funext a b
  by_cases h : a = o
  · subst h; simp
  · simp [h]
set_option maxHeartbeats 2000000 in
theorem mJ7_fill_53178 (l : Launch) {D : va_G} {ca : Nat → ClassId} {A : Nat → Prop} {ad : Nat → Nat} {mm : Mm} {o n : Nat} {v : Int32} (ho : o < WN) (hs : WS o = .inr (0, n, 0)) (hn : n < 1000) : Met l yJ7_fill_53178 (wsOf yJ7_fill_53178 cJ7_fill_53178 4 none) (rmk 1) (PcX WN ad ca WS D A [.ref (ad o), .int v] mm) (QcV WN ad ca WS D A ((), flI mm o n v)) 0 0 A := by
  refine ent (by decide) (Nat.le_of_ble_eq_true rfl) (fun p e s m args below meth c hargs C hH ls hl => ?_)
  have hx := C.1
  have hb := C.2.1
  have hl : lv_has ls 4 [(0, .ref (ad o)), (1, .int v)] := hl
  refine lv_iconst (v := 0) hx hb dJ7_fill_53178_0 (by decide) ?_
  refine lv_istore_n (lv' := [(2, .int 0), (0, .ref (ad o)), (1, .int v)]) hx hb dJ7_fill_53178_1 rfl hl (by decide) rfl (fun ls hl => ?_)
  refine lv_aload_n hx hb dJ7_fill_53178_2 rfl (lv_at hl 1 rfl) ?_
  refine wln C hH (v := nI n) ho hs rfl rfl dJ7_fill_53178_3 ?_
  refine lv_istore_n (lv' := [(3, .int (nI n)), (2, .int 0), (0, .ref (ad o)), (1, .int v)]) hx hb dJ7_fill_53178_4 rfl hl (by decide) rfl (fun ls hl => ?_)
  have key : ∀ (N i : Nat), i + N = n → ∀ (H : Heap) (locs : List Loc) (ls : Array Slot), Hx WN ad ca WS D A s.heap (flI mm o i v) H locs → lv_has ls 4 [(2, .int (nI i)), (3, .int (nI n)), (0, .ref (ad o)), (1, .int v)] → W p l e (rmk 1) s m args below meth c H locs 0 0 (MQ below (QcV WN ad ca WS D A ((), flI mm o n v)) args s 0 0 A) (F0 m 5 ls []) := by
    intro N
    induction N with
    | zero =>
      intro i hi H locs ls hH hl
      have : i = n := by omega
      subst this
      refine lv_iload_n hx hb dJ7_fill_53178_5 rfl (lv_at hl 0 rfl) ?_
      refine lv_iload_n hx hb dJ7_fill_53178_6 rfl (lv_at hl 1 rfl) ?_
      refine lv_icmp_ge (tgt := 20) hx hb dJ7_fill_53178_7 (by decide) (fun _ => ?_) (fun h => absurd (Int32.le_refl _) h)
      exact retV C hH dJ7_fill_53178_20
    | succ N ih =>
      intro i hi H locs ls hH hl
      refine lv_iload_n hx hb dJ7_fill_53178_5 rfl (lv_at hl 0 rfl) ?_
      refine lv_iload_n hx hb dJ7_fill_53178_6 rfl (lv_at hl 1 rfl) ?_
      refine lv_icmp_ge (tgt := 20) hx hb dJ7_fill_53178_7 (by decide) (fun h => ?_) (fun _ => ?_)
      · exfalso
        have h2 : Int32.ofNat n ≤ Int32.ofNat i := h
        have h3 := (Int32.ofNat_le_ofNat (by omega) (by omega)).mp h2
        omega
      · refine lv_aload_n hx hb dJ7_fill_53178_10 rfl (lv_at hl 2 rfl) ?_
        refine lv_iload_n hx hb dJ7_fill_53178_11 rfl (lv_at hl 0 rfl) ?_
        refine lv_iload_n hx hb dJ7_fill_53178_12 rfl (lv_at hl 3 rfl) ?_
        refine rwI C hH (k := i) ho hs (vp_in_nI (by omega) (by omega)) (nI_clamp (by omega)) dJ7_fill_53178_13 (fun H locs hH => ?_)
        rw [fl_step53178] at hH
        refine lv_iinc (v := nI (i + 1)) (lv' := [(2, .int (nI (i + 1))), (3, .int (nI n)), (0, .ref (ad o)), (1, .int v)]) hx hb dJ7_fill_53178_14 hl (k := 0) rfl (nI_1 i) (by decide) rfl (fun ls hl => ?_)
        refine lv_goto (tgt := 5) hx hb dJ7_fill_53178_17 (by decide) ?_
        exact ih (i + 1) (by omega) _ _ _ hH hl
  exact key n 0 (by omega) _ _ _ (by rw [fl_053178]; exact hH) (lv_sub hl [1, 0, 2, 3] rfl)
