/-! ===== the walks: each method by its denotation (laid by wip/whole/gen.py) ===== -/
section WALK
variable {p : Program} {l : Launch} {e : Env} {s : State} {m : MethodId} {args : Array Value} {below : List Frame} {meth : Method} {c : Code} {H : Heap} {locs : List Loc} {Q : State → Prop} {cells slots : Nat} {ls : Array Slot} {D : va_G} {ca : Nat → ClassId} {A : Nat → Prop} {ad : Nat → Nat}
set_option maxHeartbeats 2000000 in
set_option maxRecDepth 20000 in
theorem wX10_product_94 (C : Cx D ca A p s m args meth c cX10_product RX10 4 (some .int)) {q : Int32 × Mm} {lev : Nat} (hlev : 3 ≤ lev + 1) {r_X10_either : Mm → Option (Int32 × Mm)} {r_X10_both : Mm → Option (Int32 × Mm)} {r_X10_compared : Mm → Option (Int32 × Mm)} {r_X10_sums : Mm → Option (Int32 × Mm)} {r_X10_product : Mm → Option (Int32 × Mm)} {r_X10_one : Mm → Option (Int32 × Mm)} (hr_X10_either : ∀ (mm : Mm) (q : Int32 × Mm), r_X10_either mm = some q → Met l yX10_either (wsOf yX10_either cX10_either 3 (some .int)) (rmk lev) (PcX WN ad ca WS D A [.ref (ad 58)] mm) (QcI WN ad ca WS D A pzT q) 0 0 A) (hr_X10_both : ∀ (mm : Mm) (q : Int32 × Mm), r_X10_both mm = some q → Met l yX10_both (wsOf yX10_both cX10_both 3 (some .int)) (rmk lev) (PcX WN ad ca WS D A [.ref (ad 58)] mm) (QcI WN ad ca WS D A pzT q) 0 0 A) (hr_X10_compared : ∀ (mm : Mm) (q : Int32 × Mm), r_X10_compared mm = some q → Met l yX10_compared (wsOf yX10_compared cX10_compared 4 (some .int)) (rmk lev) (PcX WN ad ca WS D A [.ref (ad 58)] mm) (QcI WN ad ca WS D A pzT q) 0 0 A) (hr_X10_sums : ∀ (mm : Mm) (q : Int32 × Mm), r_X10_sums mm = some q → Met l yX10_sums (wsOf yX10_sums cX10_sums 4 (some .int)) (rmk lev) (PcX WN ad ca WS D A [.ref (ad 58)] mm) (QcI WN ad ca WS D A pzT q) 0 0 A) (hr_X10_product : ∀ (mm : Mm) (q : Int32 × Mm), r_X10_product mm = some q → Met l yX10_product (wsOf yX10_product cX10_product 4 (some .int)) (rmk lev) (PcX WN ad ca WS D A [.ref (ad 58)] mm) (QcI WN ad ca WS D A pzT q) 0 0 A) (hr_X10_one : ∀ (mm : Mm) (q : Int32 × Mm), r_X10_one mm = some q → Met l yX10_one (wsOf yX10_one cX10_one 5 (some .int)) (rmk lev) (PcX WN ad ca WS D A [.ref (ad 58)] mm) (QcI WN ad ca WS D A pzT q) 0 0 A) {v1 : Int32} {mm : Mm} (h : DX10_product_94 r_X10_either r_X10_both r_X10_compared r_X10_sums r_X10_product r_X10_one v1 mm = some q) (hH : Hx WN ad ca WS D A s.heap mm H locs) (hl : lv_has ls 4 [(1, .int v1)]) : W p l e (rmk (lev + 1)) s m args below meth c H locs 0 0 (MQ below (QcI WN ad ca WS D A pzT q) args s 0 0 A) (F0 m 94 ls []) := by
  unfold DX10_product_94 at h
  have hx := C.1
  have hb := C.2.1
  refine lv_iload_n hx hb dX10_product_94 rfl (lv_at hl 0 rfl) ?_
  have h := Option.some.inj h
  subst h
  exact retI C hH trivial dX10_product_95
set_option maxHeartbeats 2000000 in
set_option maxRecDepth 20000 in
theorem wX10_product_85 (C : Cx D ca A p s m args meth c cX10_product RX10 4 (some .int)) {q : Int32 × Mm} {lev : Nat} (hlev : 3 ≤ lev + 1) {r_X10_either : Mm → Option (Int32 × Mm)} {r_X10_both : Mm → Option (Int32 × Mm)} {r_X10_compared : Mm → Option (Int32 × Mm)} {r_X10_sums : Mm → Option (Int32 × Mm)} {r_X10_product : Mm → Option (Int32 × Mm)} {r_X10_one : Mm → Option (Int32 × Mm)} (hr_X10_either : ∀ (mm : Mm) (q : Int32 × Mm), r_X10_either mm = some q → Met l yX10_either (wsOf yX10_either cX10_either 3 (some .int)) (rmk lev) (PcX WN ad ca WS D A [.ref (ad 58)] mm) (QcI WN ad ca WS D A pzT q) 0 0 A) (hr_X10_both : ∀ (mm : Mm) (q : Int32 × Mm), r_X10_both mm = some q → Met l yX10_both (wsOf yX10_both cX10_both 3 (some .int)) (rmk lev) (PcX WN ad ca WS D A [.ref (ad 58)] mm) (QcI WN ad ca WS D A pzT q) 0 0 A) (hr_X10_compared : ∀ (mm : Mm) (q : Int32 × Mm), r_X10_compared mm = some q → Met l yX10_compared (wsOf yX10_compared cX10_compared 4 (some .int)) (rmk lev) (PcX WN ad ca WS D A [.ref (ad 58)] mm) (QcI WN ad ca WS D A pzT q) 0 0 A) (hr_X10_sums : ∀ (mm : Mm) (q : Int32 × Mm), r_X10_sums mm = some q → Met l yX10_sums (wsOf yX10_sums cX10_sums 4 (some .int)) (rmk lev) (PcX WN ad ca WS D A [.ref (ad 58)] mm) (QcI WN ad ca WS D A pzT q) 0 0 A) (hr_X10_product : ∀ (mm : Mm) (q : Int32 × Mm), r_X10_product mm = some q → Met l yX10_product (wsOf yX10_product cX10_product 4 (some .int)) (rmk lev) (PcX WN ad ca WS D A [.ref (ad 58)] mm) (QcI WN ad ca WS D A pzT q) 0 0 A) (hr_X10_one : ∀ (mm : Mm) (q : Int32 × Mm), r_X10_one mm = some q → Met l yX10_one (wsOf yX10_one cX10_one 5 (some .int)) (rmk lev) (PcX WN ad ca WS D A [.ref (ad 58)] mm) (QcI WN ad ca WS D A pzT q) 0 0 A) {k10 : Int32 → Int32 → Mm → Option (Int32 × Mm)} (hk10 : ∀ (v1 : Int32) (v2 : Int32) (mm : Mm), k10 v1 v2 mm = some q → ∀ (H : Heap) (locs : List Loc) (ls : Array Slot), Hx WN ad ca WS D A s.heap mm H locs → lv_has ls 4 [(0, .ref (ad 58)), (1, .int v1), (2, .int v2)] → W p l e (rmk (lev + 1)) s m args below meth c H locs 0 0 (MQ below (QcI WN ad ca WS D A pzT q) args s 0 0 A) (F0 m 10 ls [])) {s0 : Int32} {mm : Mm} (h : DX10_product_85 r_X10_either r_X10_both r_X10_compared r_X10_sums r_X10_product r_X10_one k10 s0 mm = some q) (hH : Hx WN ad ca WS D A s.heap mm H locs) (hl : lv_has ls 4 [(0, .ref (ad 58))]) : W p l e (rmk (lev + 1)) s m args below meth c H locs 0 0 (MQ below (QcI WN ad ca WS D A pzT q) args s 0 0 A) (F0 m 85 ls [.int s0]) := by
  unfold DX10_product_85 at h
  have hx := C.1
  have hb := C.2.1
  refine lv_istore_n (lv' := [(1, .int s0), (0, .ref (ad 58))]) hx hb dX10_product_85 rfl hl (by decide) rfl (fun ls hl => ?_)
  refine lv_aload_n hx hb dX10_product_86 rfl (lv_at hl 1 rfl) ?_
  obtain ⟨q87, e87, h⟩ := tB h
  refine rcI C hH hl.1 (mX10_byteAt l e87) cf_RX10_169 ro_58 (RR_of (by omega) (by decide)) rfl (rest := []) rfl (Nat.le_of_ble_eq_true rfl) dX10_product_87 ?_
  intro hz87 H locs hH
  refine lv_istore_n (lv' := [(2, .int q87.1), (1, .int s0), (0, .ref (ad 58))]) hx hb dX10_product_90 rfl hl (by decide) rfl (fun ls hl => ?_)
  refine lv_goto (tgt := 10) hx hb dX10_product_91 (by decide) ?_
  exact hk10 _ _ _ h _ _ _ hH (lv_sub hl [2, 1, 0] rfl)
set_option maxHeartbeats 2000000 in
set_option maxRecDepth 20000 in
theorem wX10_product_35 (C : Cx D ca A p s m args meth c cX10_product RX10 4 (some .int)) {q : Int32 × Mm} {lev : Nat} (hlev : 3 ≤ lev + 1) {r_X10_either : Mm → Option (Int32 × Mm)} {r_X10_both : Mm → Option (Int32 × Mm)} {r_X10_compared : Mm → Option (Int32 × Mm)} {r_X10_sums : Mm → Option (Int32 × Mm)} {r_X10_product : Mm → Option (Int32 × Mm)} {r_X10_one : Mm → Option (Int32 × Mm)} (hr_X10_either : ∀ (mm : Mm) (q : Int32 × Mm), r_X10_either mm = some q → Met l yX10_either (wsOf yX10_either cX10_either 3 (some .int)) (rmk lev) (PcX WN ad ca WS D A [.ref (ad 58)] mm) (QcI WN ad ca WS D A pzT q) 0 0 A) (hr_X10_both : ∀ (mm : Mm) (q : Int32 × Mm), r_X10_both mm = some q → Met l yX10_both (wsOf yX10_both cX10_both 3 (some .int)) (rmk lev) (PcX WN ad ca WS D A [.ref (ad 58)] mm) (QcI WN ad ca WS D A pzT q) 0 0 A) (hr_X10_compared : ∀ (mm : Mm) (q : Int32 × Mm), r_X10_compared mm = some q → Met l yX10_compared (wsOf yX10_compared cX10_compared 4 (some .int)) (rmk lev) (PcX WN ad ca WS D A [.ref (ad 58)] mm) (QcI WN ad ca WS D A pzT q) 0 0 A) (hr_X10_sums : ∀ (mm : Mm) (q : Int32 × Mm), r_X10_sums mm = some q → Met l yX10_sums (wsOf yX10_sums cX10_sums 4 (some .int)) (rmk lev) (PcX WN ad ca WS D A [.ref (ad 58)] mm) (QcI WN ad ca WS D A pzT q) 0 0 A) (hr_X10_product : ∀ (mm : Mm) (q : Int32 × Mm), r_X10_product mm = some q → Met l yX10_product (wsOf yX10_product cX10_product 4 (some .int)) (rmk lev) (PcX WN ad ca WS D A [.ref (ad 58)] mm) (QcI WN ad ca WS D A pzT q) 0 0 A) (hr_X10_one : ∀ (mm : Mm) (q : Int32 × Mm), r_X10_one mm = some q → Met l yX10_one (wsOf yX10_one cX10_one 5 (some .int)) (rmk lev) (PcX WN ad ca WS D A [.ref (ad 58)] mm) (QcI WN ad ca WS D A pzT q) 0 0 A) {k10 : Int32 → Int32 → Mm → Option (Int32 × Mm)} (hk10 : ∀ (v1 : Int32) (v2 : Int32) (mm : Mm), k10 v1 v2 mm = some q → ∀ (H : Heap) (locs : List Loc) (ls : Array Slot), Hx WN ad ca WS D A s.heap mm H locs → lv_has ls 4 [(0, .ref (ad 58)), (1, .int v1), (2, .int v2)] → W p l e (rmk (lev + 1)) s m args below meth c H locs 0 0 (MQ below (QcI WN ad ca WS D A pzT q) args s 0 0 A) (F0 m 10 ls [])) {v1 : Int32} {v2 : Int32} {mm : Mm} (h : DX10_product_35 r_X10_either r_X10_both r_X10_compared r_X10_sums r_X10_product r_X10_one k10 v1 v2 mm = some q) (hH : Hx WN ad ca WS D A s.heap mm H locs) (hl : lv_has ls 4 [(0, .ref (ad 58)), (1, .int v1), (2, .int v2)]) : W p l e (rmk (lev + 1)) s m args below meth c H locs 0 0 (MQ below (QcI WN ad ca WS D A pzT q) args s 0 0 A) (F0 m 35 ls []) := by
  unfold DX10_product_35 at h
  have hx := C.1
  have hb := C.2.1
  refine lv_aload_n hx hb dX10_product_35 rfl (lv_at hl 0 rfl) ?_
  refine lv_dup hx hb dX10_product_36 rfl ?_
  refine rgI C hH fi_RX10_157_58 dX10_product_37 ?_
  refine lv_iconst (v := 1) hx hb dX10_product_40 (by decide) ?_
  refine lv_iadd hx hb dX10_product_41 ?_
  refine rpI C hH fp_RX10_157_58 rfl rfl dX10_product_42 (fun H locs hH => ?_)
  refine lv_aload_n hx hb dX10_product_45 rfl (lv_at hl 0 rfl) ?_
  obtain ⟨q46, e46, h⟩ := tB h
  refine rcI C hH hl.1 (hr_X10_one _ _ e46) cf_RX10_188 ro_58 (RR_of (by omega) (by decide)) rfl (rest := []) rfl (Nat.le_of_ble_eq_true rfl) dX10_product_46 ?_
  intro hz46 H locs hH
  refine lv_istore_n (lv' := [(3, .int q46.1), (0, .ref (ad 58)), (1, .int v1), (2, .int v2)]) hx hb dX10_product_49 rfl hl (by decide) rfl (fun ls hl => ?_)
  refine lv_iload_n hx hb dX10_product_50 rfl (lv_at hl 3 rfl) ?_
  refine lv_bipush (v := 42) hx hb dX10_product_51 (by decide) ?_
  refine lv_icmp_ne (tgt := 62) hx hb dX10_product_53 (by decide) (fun hc53 => ?_) (fun hc53 => ?_)
  · replace h := tF hc53 h
    refine lv_iload_n hx hb dX10_product_62 rfl (lv_at hl 0 rfl) ?_
    refine lv_if_ne (tgt := 70) hx hb dX10_product_63 (by decide) (fun hc63 => ?_) (fun hc63 => ?_)
    · replace h := tF hc63 h
      refine lv_iload_n hx hb dX10_product_70 rfl (lv_at hl 3 rfl) ?_
      refine lv_bipush (v := 47) hx hb dX10_product_71 (by decide) ?_
      refine lv_icmp_ne (tgt := 82) hx hb dX10_product_73 (by decide) (fun hc73 => ?_) (fun hc73 => ?_)
      · replace h := tF hc73 h
        refine lv_iload_n hx hb dX10_product_82 rfl (lv_at hl 2 rfl) ?_
        refine lv_iload_n hx hb dX10_product_83 rfl (lv_at hl 0 rfl) ?_
        obtain ⟨hz84, h⟩ := tN h
        refine lv_irem' hx hb dX10_product_84 hz84 ?_
        exact wX10_product_85 C hlev hr_X10_either hr_X10_both hr_X10_compared hr_X10_sums hr_X10_product hr_X10_one hk10 h hH (lv_sub hl [1] rfl)
      · replace h := tT hc73 h
        refine lv_iload_n hx hb dX10_product_76 rfl (lv_at hl 2 rfl) ?_
        refine lv_iload_n hx hb dX10_product_77 rfl (lv_at hl 0 rfl) ?_
        obtain ⟨hz78, h⟩ := tN h
        refine lv_idiv hx hb dX10_product_78 hz78 ?_
        refine lv_goto (tgt := 85) hx hb dX10_product_79 (by decide) ?_
        exact wX10_product_85 C hlev hr_X10_either hr_X10_both hr_X10_compared hr_X10_sums hr_X10_product hr_X10_one hk10 h hH (lv_sub hl [1] rfl)
    · replace h := tT hc63 h
      refine lv_iconst (v := 0) hx hb dX10_product_66 (by decide) ?_
      refine lv_goto (tgt := 85) hx hb dX10_product_67 (by decide) ?_
      exact wX10_product_85 C hlev hr_X10_either hr_X10_both hr_X10_compared hr_X10_sums hr_X10_product hr_X10_one hk10 h hH (lv_sub hl [1] rfl)
  · replace h := tT hc53 h
    refine lv_iload_n hx hb dX10_product_56 rfl (lv_at hl 2 rfl) ?_
    refine lv_iload_n hx hb dX10_product_57 rfl (lv_at hl 0 rfl) ?_
    refine lv_imul hx hb dX10_product_58 ?_
    refine lv_goto (tgt := 85) hx hb dX10_product_59 (by decide) ?_
    exact wX10_product_85 C hlev hr_X10_either hr_X10_both hr_X10_compared hr_X10_sums hr_X10_product hr_X10_one hk10 h hH (lv_sub hl [1] rfl)
set_option maxHeartbeats 2000000 in
set_option maxRecDepth 20000 in
theorem wbX10_product_10 (C : Cx D ca A p s m args meth c cX10_product RX10 4 (some .int)) {q : Int32 × Mm} {lev : Nat} (hlev : 3 ≤ lev + 1) {r_X10_either : Mm → Option (Int32 × Mm)} {r_X10_both : Mm → Option (Int32 × Mm)} {r_X10_compared : Mm → Option (Int32 × Mm)} {r_X10_sums : Mm → Option (Int32 × Mm)} {r_X10_product : Mm → Option (Int32 × Mm)} {r_X10_one : Mm → Option (Int32 × Mm)} (hr_X10_either : ∀ (mm : Mm) (q : Int32 × Mm), r_X10_either mm = some q → Met l yX10_either (wsOf yX10_either cX10_either 3 (some .int)) (rmk lev) (PcX WN ad ca WS D A [.ref (ad 58)] mm) (QcI WN ad ca WS D A pzT q) 0 0 A) (hr_X10_both : ∀ (mm : Mm) (q : Int32 × Mm), r_X10_both mm = some q → Met l yX10_both (wsOf yX10_both cX10_both 3 (some .int)) (rmk lev) (PcX WN ad ca WS D A [.ref (ad 58)] mm) (QcI WN ad ca WS D A pzT q) 0 0 A) (hr_X10_compared : ∀ (mm : Mm) (q : Int32 × Mm), r_X10_compared mm = some q → Met l yX10_compared (wsOf yX10_compared cX10_compared 4 (some .int)) (rmk lev) (PcX WN ad ca WS D A [.ref (ad 58)] mm) (QcI WN ad ca WS D A pzT q) 0 0 A) (hr_X10_sums : ∀ (mm : Mm) (q : Int32 × Mm), r_X10_sums mm = some q → Met l yX10_sums (wsOf yX10_sums cX10_sums 4 (some .int)) (rmk lev) (PcX WN ad ca WS D A [.ref (ad 58)] mm) (QcI WN ad ca WS D A pzT q) 0 0 A) (hr_X10_product : ∀ (mm : Mm) (q : Int32 × Mm), r_X10_product mm = some q → Met l yX10_product (wsOf yX10_product cX10_product 4 (some .int)) (rmk lev) (PcX WN ad ca WS D A [.ref (ad 58)] mm) (QcI WN ad ca WS D A pzT q) 0 0 A) (hr_X10_one : ∀ (mm : Mm) (q : Int32 × Mm), r_X10_one mm = some q → Met l yX10_one (wsOf yX10_one cX10_one 5 (some .int)) (rmk lev) (PcX WN ad ca WS D A [.ref (ad 58)] mm) (QcI WN ad ca WS D A pzT q) 0 0 A) {k10 : Int32 → Int32 → Mm → Option (Int32 × Mm)} (hk10 : ∀ (v1 : Int32) (v2 : Int32) (mm : Mm), k10 v1 v2 mm = some q → ∀ (H : Heap) (locs : List Loc) (ls : Array Slot), Hx WN ad ca WS D A s.heap mm H locs → lv_has ls 4 [(0, .ref (ad 58)), (1, .int v1), (2, .int v2)] → W p l e (rmk (lev + 1)) s m args below meth c H locs 0 0 (MQ below (QcI WN ad ca WS D A pzT q) args s 0 0 A) (F0 m 10 ls [])) {v1 : Int32} {v2 : Int32} {mm : Mm} (h : BX10_product_10 r_X10_either r_X10_both r_X10_compared r_X10_sums r_X10_product r_X10_one k10 v1 v2 mm = some q) (hH : Hx WN ad ca WS D A s.heap mm H locs) (hl : lv_has ls 4 [(0, .ref (ad 58)), (1, .int v1), (2, .int v2)]) : W p l e (rmk (lev + 1)) s m args below meth c H locs 0 0 (MQ below (QcI WN ad ca WS D A pzT q) args s 0 0 A) (F0 m 10 ls []) := by
  unfold BX10_product_10 at h
  have hx := C.1
  have hb := C.2.1
  refine lv_aload_n hx hb dX10_product_10 rfl (lv_at hl 0 rfl) ?_
  refine rgI C hH fi_RX10_166_58 dX10_product_11 ?_
  refine lv_if_ge (tgt := 94) hx hb dX10_product_14 (by decide) (fun hc14 => ?_) (fun hc14 => ?_)
  · replace h := tT hc14 h
    exact wX10_product_94 C hlev hr_X10_either hr_X10_both hr_X10_compared hr_X10_sums hr_X10_product hr_X10_one h hH (lv_sub hl [1] rfl)
  · replace h := tF hc14 h
    refine lv_iload_n hx hb dX10_product_17 rfl (lv_at hl 2 rfl) ?_
    refine lv_bipush (v := 42) hx hb dX10_product_18 (by decide) ?_
    refine lv_icmp_eq (tgt := 35) hx hb dX10_product_20 (by decide) (fun hc20 => ?_) (fun hc20 => ?_)
    · replace h := tT hc20 h
      exact wX10_product_35 C hlev hr_X10_either hr_X10_both hr_X10_compared hr_X10_sums hr_X10_product hr_X10_one hk10 h hH (lv_sub hl [0, 1, 2] rfl)
    · replace h := tF hc20 h
      refine lv_iload_n hx hb dX10_product_23 rfl (lv_at hl 2 rfl) ?_
      refine lv_bipush (v := 47) hx hb dX10_product_24 (by decide) ?_
      refine lv_icmp_eq (tgt := 35) hx hb dX10_product_26 (by decide) (fun hc26 => ?_) (fun hc26 => ?_)
      · replace h := tT hc26 h
        exact wX10_product_35 C hlev hr_X10_either hr_X10_both hr_X10_compared hr_X10_sums hr_X10_product hr_X10_one hk10 h hH (lv_sub hl [0, 1, 2] rfl)
      · replace h := tF hc26 h
        refine lv_iload_n hx hb dX10_product_29 rfl (lv_at hl 2 rfl) ?_
        refine lv_bipush (v := 37) hx hb dX10_product_30 (by decide) ?_
        refine lv_icmp_ne (tgt := 94) hx hb dX10_product_32 (by decide) (fun hc32 => ?_) (fun hc32 => ?_)
        · replace h := tF hc32 h
          exact wX10_product_94 C hlev hr_X10_either hr_X10_both hr_X10_compared hr_X10_sums hr_X10_product hr_X10_one h hH (lv_sub hl [1] rfl)
        · replace h := tT hc32 h
          exact wX10_product_35 C hlev hr_X10_either hr_X10_both hr_X10_compared hr_X10_sums hr_X10_product hr_X10_one hk10 h hH (lv_sub hl [0, 1, 2] rfl)
set_option maxHeartbeats 2000000 in
set_option maxRecDepth 20000 in
theorem wX10_product_10 (C : Cx D ca A p s m args meth c cX10_product RX10 4 (some .int)) {q : Int32 × Mm} {lev : Nat} (hlev : 3 ≤ lev + 1) {r_X10_either : Mm → Option (Int32 × Mm)} {r_X10_both : Mm → Option (Int32 × Mm)} {r_X10_compared : Mm → Option (Int32 × Mm)} {r_X10_sums : Mm → Option (Int32 × Mm)} {r_X10_product : Mm → Option (Int32 × Mm)} {r_X10_one : Mm → Option (Int32 × Mm)} (hr_X10_either : ∀ (mm : Mm) (q : Int32 × Mm), r_X10_either mm = some q → Met l yX10_either (wsOf yX10_either cX10_either 3 (some .int)) (rmk lev) (PcX WN ad ca WS D A [.ref (ad 58)] mm) (QcI WN ad ca WS D A pzT q) 0 0 A) (hr_X10_both : ∀ (mm : Mm) (q : Int32 × Mm), r_X10_both mm = some q → Met l yX10_both (wsOf yX10_both cX10_both 3 (some .int)) (rmk lev) (PcX WN ad ca WS D A [.ref (ad 58)] mm) (QcI WN ad ca WS D A pzT q) 0 0 A) (hr_X10_compared : ∀ (mm : Mm) (q : Int32 × Mm), r_X10_compared mm = some q → Met l yX10_compared (wsOf yX10_compared cX10_compared 4 (some .int)) (rmk lev) (PcX WN ad ca WS D A [.ref (ad 58)] mm) (QcI WN ad ca WS D A pzT q) 0 0 A) (hr_X10_sums : ∀ (mm : Mm) (q : Int32 × Mm), r_X10_sums mm = some q → Met l yX10_sums (wsOf yX10_sums cX10_sums 4 (some .int)) (rmk lev) (PcX WN ad ca WS D A [.ref (ad 58)] mm) (QcI WN ad ca WS D A pzT q) 0 0 A) (hr_X10_product : ∀ (mm : Mm) (q : Int32 × Mm), r_X10_product mm = some q → Met l yX10_product (wsOf yX10_product cX10_product 4 (some .int)) (rmk lev) (PcX WN ad ca WS D A [.ref (ad 58)] mm) (QcI WN ad ca WS D A pzT q) 0 0 A) (hr_X10_one : ∀ (mm : Mm) (q : Int32 × Mm), r_X10_one mm = some q → Met l yX10_one (wsOf yX10_one cX10_one 5 (some .int)) (rmk lev) (PcX WN ad ca WS D A [.ref (ad 58)] mm) (QcI WN ad ca WS D A pzT q) 0 0 A) : ∀ (N : Nat) (v1 : Int32) (v2 : Int32) (mm : Mm), DX10_product_10 r_X10_either r_X10_both r_X10_compared r_X10_sums r_X10_product r_X10_one N v1 v2 mm = some q → ∀ (H : Heap) (locs : List Loc) (ls : Array Slot), Hx WN ad ca WS D A s.heap mm H locs → lv_has ls 4 [(0, .ref (ad 58)), (1, .int v1), (2, .int v2)] → W p l e (rmk (lev + 1)) s m args below meth c H locs 0 0 (MQ below (QcI WN ad ca WS D A pzT q) args s 0 0 A) (F0 m 10 ls []) := by
  intro N
  induction N with
  | zero =>
    intro v1 v2 mm h
    have h2 : (none : Option (Int32 × Mm)) = some q := h
    cases h2
  | succ N ih =>
    intro v1 v2 mm h H locs ls hH hl
    exact wbX10_product_10 C hlev hr_X10_either hr_X10_both hr_X10_compared hr_X10_sums hr_X10_product hr_X10_one ih h hH hl
set_option maxHeartbeats 2000000 in
set_option maxRecDepth 20000 in
theorem mbX10_product (l : Launch) {D : va_G} {ca : Nat → ClassId} {A : Nat → Prop} {ad : Nat → Nat} {lev : Nat} (hlev : 3 ≤ lev + 1) {r_X10_either : Mm → Option (Int32 × Mm)} {r_X10_both : Mm → Option (Int32 × Mm)} {r_X10_compared : Mm → Option (Int32 × Mm)} {r_X10_sums : Mm → Option (Int32 × Mm)} {r_X10_product : Mm → Option (Int32 × Mm)} {r_X10_one : Mm → Option (Int32 × Mm)} (hr_X10_either : ∀ (mm : Mm) (q : Int32 × Mm), r_X10_either mm = some q → Met l yX10_either (wsOf yX10_either cX10_either 3 (some .int)) (rmk lev) (PcX WN ad ca WS D A [.ref (ad 58)] mm) (QcI WN ad ca WS D A pzT q) 0 0 A) (hr_X10_both : ∀ (mm : Mm) (q : Int32 × Mm), r_X10_both mm = some q → Met l yX10_both (wsOf yX10_both cX10_both 3 (some .int)) (rmk lev) (PcX WN ad ca WS D A [.ref (ad 58)] mm) (QcI WN ad ca WS D A pzT q) 0 0 A) (hr_X10_compared : ∀ (mm : Mm) (q : Int32 × Mm), r_X10_compared mm = some q → Met l yX10_compared (wsOf yX10_compared cX10_compared 4 (some .int)) (rmk lev) (PcX WN ad ca WS D A [.ref (ad 58)] mm) (QcI WN ad ca WS D A pzT q) 0 0 A) (hr_X10_sums : ∀ (mm : Mm) (q : Int32 × Mm), r_X10_sums mm = some q → Met l yX10_sums (wsOf yX10_sums cX10_sums 4 (some .int)) (rmk lev) (PcX WN ad ca WS D A [.ref (ad 58)] mm) (QcI WN ad ca WS D A pzT q) 0 0 A) (hr_X10_product : ∀ (mm : Mm) (q : Int32 × Mm), r_X10_product mm = some q → Met l yX10_product (wsOf yX10_product cX10_product 4 (some .int)) (rmk lev) (PcX WN ad ca WS D A [.ref (ad 58)] mm) (QcI WN ad ca WS D A pzT q) 0 0 A) (hr_X10_one : ∀ (mm : Mm) (q : Int32 × Mm), r_X10_one mm = some q → Met l yX10_one (wsOf yX10_one cX10_one 5 (some .int)) (rmk lev) (PcX WN ad ca WS D A [.ref (ad 58)] mm) (QcI WN ad ca WS D A pzT q) 0 0 A) {mm : Mm} {q : Int32 × Mm} (h : bX10_product r_X10_either r_X10_both r_X10_compared r_X10_sums r_X10_product r_X10_one mm = some q) : Met l yX10_product (wsOf yX10_product cX10_product 4 (some .int)) (rmk (lev + 1)) (PcX WN ad ca WS D A [.ref (ad 58)] mm) (QcI WN ad ca WS D A pzT q) 0 0 A := by
  unfold bX10_product at h
  refine ent (by decide) (Nat.le_of_ble_eq_true rfl) (fun p e s m args below meth c hargs C hH ls hl => ?_)
  have hx := C.1
  have hb := C.2.1
  have hl : lv_has ls 4 [(0, .ref (ad 58))] := hl
  refine lv_aload_n hx hb dX10_product_0 rfl (lv_at hl 0 rfl) ?_
  obtain ⟨q1, e1, h⟩ := tB h
  refine rcI C hH hl.1 (hr_X10_one _ _ e1) cf_RX10_188 ro_58 (RR_of (by omega) (by decide)) rfl (rest := []) rfl (Nat.le_of_ble_eq_true rfl) dX10_product_1 ?_
  intro hz1 H locs hH
  refine lv_istore_n (lv' := [(1, .int q1.1), (0, .ref (ad 58))]) hx hb dX10_product_4 rfl hl (by decide) rfl (fun ls hl => ?_)
  refine lv_aload_n hx hb dX10_product_5 rfl (lv_at hl 1 rfl) ?_
  obtain ⟨q6, e6, h⟩ := tB h
  refine rcI C hH hl.1 (mX10_byteAt l e6) cf_RX10_169 ro_58 (RR_of (by omega) (by decide)) rfl (rest := []) rfl (Nat.le_of_ble_eq_true rfl) dX10_product_6 ?_
  intro hz6 H locs hH
  refine lv_istore_n (lv' := [(2, .int q6.1), (1, .int q1.1), (0, .ref (ad 58))]) hx hb dX10_product_9 rfl hl (by decide) rfl (fun ls hl => ?_)
  exact wX10_product_10 C hlev hr_X10_either hr_X10_both hr_X10_compared hr_X10_sums hr_X10_product hr_X10_one FU _ _ _ h _ _ _ hH (lv_sub hl [2, 1, 0] rfl)
set_option maxHeartbeats 2000000 in
set_option maxRecDepth 20000 in
theorem wX10_one_104 (C : Cx D ca A p s m args meth c cX10_one RX10 5 (some .int)) {q : Int32 × Mm} {lev : Nat} (hlev : 3 ≤ lev + 1) {r_X10_either : Mm → Option (Int32 × Mm)} {r_X10_both : Mm → Option (Int32 × Mm)} {r_X10_compared : Mm → Option (Int32 × Mm)} {r_X10_sums : Mm → Option (Int32 × Mm)} {r_X10_product : Mm → Option (Int32 × Mm)} {r_X10_one : Mm → Option (Int32 × Mm)} (hr_X10_either : ∀ (mm : Mm) (q : Int32 × Mm), r_X10_either mm = some q → Met l yX10_either (wsOf yX10_either cX10_either 3 (some .int)) (rmk lev) (PcX WN ad ca WS D A [.ref (ad 58)] mm) (QcI WN ad ca WS D A pzT q) 0 0 A) (hr_X10_both : ∀ (mm : Mm) (q : Int32 × Mm), r_X10_both mm = some q → Met l yX10_both (wsOf yX10_both cX10_both 3 (some .int)) (rmk lev) (PcX WN ad ca WS D A [.ref (ad 58)] mm) (QcI WN ad ca WS D A pzT q) 0 0 A) (hr_X10_compared : ∀ (mm : Mm) (q : Int32 × Mm), r_X10_compared mm = some q → Met l yX10_compared (wsOf yX10_compared cX10_compared 4 (some .int)) (rmk lev) (PcX WN ad ca WS D A [.ref (ad 58)] mm) (QcI WN ad ca WS D A pzT q) 0 0 A) (hr_X10_sums : ∀ (mm : Mm) (q : Int32 × Mm), r_X10_sums mm = some q → Met l yX10_sums (wsOf yX10_sums cX10_sums 4 (some .int)) (rmk lev) (PcX WN ad ca WS D A [.ref (ad 58)] mm) (QcI WN ad ca WS D A pzT q) 0 0 A) (hr_X10_product : ∀ (mm : Mm) (q : Int32 × Mm), r_X10_product mm = some q → Met l yX10_product (wsOf yX10_product cX10_product 4 (some .int)) (rmk lev) (PcX WN ad ca WS D A [.ref (ad 58)] mm) (QcI WN ad ca WS D A pzT q) 0 0 A) (hr_X10_one : ∀ (mm : Mm) (q : Int32 × Mm), r_X10_one mm = some q → Met l yX10_one (wsOf yX10_one cX10_one 5 (some .int)) (rmk lev) (PcX WN ad ca WS D A [.ref (ad 58)] mm) (QcI WN ad ca WS D A pzT q) 0 0 A) {v1 : Int32} {v2 : Int32} {mm : Mm} (h : DX10_one_104 r_X10_either r_X10_both r_X10_compared r_X10_sums r_X10_product r_X10_one v1 v2 mm = some q) (hH : Hx WN ad ca WS D A s.heap mm H locs) (hl : lv_has ls 5 [(0, .ref (ad 58)), (1, .int v1), (2, .int v2)]) : W p l e (rmk (lev + 1)) s m args below meth c H locs 0 0 (MQ below (QcI WN ad ca WS D A pzT q) args s 0 0 A) (F0 m 104 ls []) := by
  unfold DX10_one_104 at h
  have hx := C.1
  have hb := C.2.1
  refine lv_aload_n hx hb dX10_one_104 rfl (lv_at hl 0 rfl) ?_
  refine lv_dup hx hb dX10_one_105 rfl ?_
  refine rgI C hH fi_RX10_191_58 dX10_one_106 ?_
  refine lv_iconst (v := 1) hx hb dX10_one_109 (by decide) ?_
  refine lv_isub hx hb dX10_one_110 ?_
  refine rpI C hH fp_RX10_191_58 rfl rfl dX10_one_111 (fun H locs hH => ?_)
  refine lv_iload_n hx hb dX10_one_114 rfl (lv_at hl 1 rfl) ?_
  refine lv_bipush (v := 40) hx hb dX10_one_115 (by decide) ?_
  refine lv_icmp_ne (tgt := 124) hx hb dX10_one_117 (by decide) (fun hc117 => ?_) (fun hc117 => ?_)
  · replace h := tF hc117 h
    refine lv_iload_n hx hb dX10_one_124 rfl (lv_at hl 1 rfl) ?_
    refine lv_bipush (v := 45) hx hb dX10_one_125 (by decide) ?_
    refine lv_icmp_ne (tgt := 135) hx hb dX10_one_127 (by decide) (fun hc127 => ?_) (fun hc127 => ?_)
    · replace h := tF hc127 h
      refine lv_iload_n hx hb dX10_one_135 rfl (lv_at hl 2 rfl) ?_
      refine lv_if_ne (tgt := 143) hx hb dX10_one_136 (by decide) (fun hc136 => ?_) (fun hc136 => ?_)
      · replace h := tF hc136 h
        refine lv_iconst (v := 0) hx hb dX10_one_143 (by decide) ?_
        have h := Option.some.inj h
        subst h
        exact retI C hH trivial dX10_one_144
      · replace h := tT hc136 h
        refine lv_iconst (v := 1) hx hb dX10_one_139 (by decide) ?_
        refine lv_goto (tgt := 144) hx hb dX10_one_140 (by decide) ?_
        have h := Option.some.inj h
        subst h
        exact retI C hH trivial dX10_one_144
    · replace h := tT hc127 h
      refine lv_iload_n hx hb dX10_one_130 rfl (lv_at hl 2 rfl) ?_
      refine lv_ineg hx hb dX10_one_131 ?_
      refine lv_goto (tgt := 144) hx hb dX10_one_132 (by decide) ?_
      have h := Option.some.inj h
      subst h
      exact retI C hH trivial dX10_one_144
  · replace h := tT hc117 h
    refine lv_iload_n hx hb dX10_one_120 rfl (lv_at hl 2 rfl) ?_
    refine lv_goto (tgt := 144) hx hb dX10_one_121 (by decide) ?_
    have h := Option.some.inj h
    subst h
    exact retI C hH trivial dX10_one_144
set_option maxHeartbeats 2000000 in
set_option maxRecDepth 20000 in
theorem wX10_one_83 (C : Cx D ca A p s m args meth c cX10_one RX10 5 (some .int)) {q : Int32 × Mm} {lev : Nat} (hlev : 3 ≤ lev + 1) {r_X10_either : Mm → Option (Int32 × Mm)} {r_X10_both : Mm → Option (Int32 × Mm)} {r_X10_compared : Mm → Option (Int32 × Mm)} {r_X10_sums : Mm → Option (Int32 × Mm)} {r_X10_product : Mm → Option (Int32 × Mm)} {r_X10_one : Mm → Option (Int32 × Mm)} (hr_X10_either : ∀ (mm : Mm) (q : Int32 × Mm), r_X10_either mm = some q → Met l yX10_either (wsOf yX10_either cX10_either 3 (some .int)) (rmk lev) (PcX WN ad ca WS D A [.ref (ad 58)] mm) (QcI WN ad ca WS D A pzT q) 0 0 A) (hr_X10_both : ∀ (mm : Mm) (q : Int32 × Mm), r_X10_both mm = some q → Met l yX10_both (wsOf yX10_both cX10_both 3 (some .int)) (rmk lev) (PcX WN ad ca WS D A [.ref (ad 58)] mm) (QcI WN ad ca WS D A pzT q) 0 0 A) (hr_X10_compared : ∀ (mm : Mm) (q : Int32 × Mm), r_X10_compared mm = some q → Met l yX10_compared (wsOf yX10_compared cX10_compared 4 (some .int)) (rmk lev) (PcX WN ad ca WS D A [.ref (ad 58)] mm) (QcI WN ad ca WS D A pzT q) 0 0 A) (hr_X10_sums : ∀ (mm : Mm) (q : Int32 × Mm), r_X10_sums mm = some q → Met l yX10_sums (wsOf yX10_sums cX10_sums 4 (some .int)) (rmk lev) (PcX WN ad ca WS D A [.ref (ad 58)] mm) (QcI WN ad ca WS D A pzT q) 0 0 A) (hr_X10_product : ∀ (mm : Mm) (q : Int32 × Mm), r_X10_product mm = some q → Met l yX10_product (wsOf yX10_product cX10_product 4 (some .int)) (rmk lev) (PcX WN ad ca WS D A [.ref (ad 58)] mm) (QcI WN ad ca WS D A pzT q) 0 0 A) (hr_X10_one : ∀ (mm : Mm) (q : Int32 × Mm), r_X10_one mm = some q → Met l yX10_one (wsOf yX10_one cX10_one 5 (some .int)) (rmk lev) (PcX WN ad ca WS D A [.ref (ad 58)] mm) (QcI WN ad ca WS D A pzT q) 0 0 A) {v1 : Int32} {s0 : Int32} {mm : Mm} (h : DX10_one_83 r_X10_either r_X10_both r_X10_compared r_X10_sums r_X10_product r_X10_one v1 s0 mm = some q) (hH : Hx WN ad ca WS D A s.heap mm H locs) (hl : lv_has ls 5 [(0, .ref (ad 58)), (1, .int v1)]) : W p l e (rmk (lev + 1)) s m args below meth c H locs 0 0 (MQ below (QcI WN ad ca WS D A pzT q) args s 0 0 A) (F0 m 83 ls [.int s0]) := by
  unfold DX10_one_83 at h
  have hx := C.1
  have hb := C.2.1
  refine lv_istore_n (lv' := [(2, .int s0), (0, .ref (ad 58)), (1, .int v1)]) hx hb dX10_one_83 rfl hl (by decide) rfl (fun ls hl => ?_)
  refine lv_iload_n hx hb dX10_one_84 rfl (lv_at hl 2 rfl) ?_
  refine lv_bipush (v := 40) hx hb dX10_one_85 (by decide) ?_
  refine lv_icmp_ne (tgt := 104) hx hb dX10_one_87 (by decide) (fun hc87 => ?_) (fun hc87 => ?_)
  · replace h := tF hc87 h
    exact wX10_one_104 C hlev hr_X10_either hr_X10_both hr_X10_compared hr_X10_sums hr_X10_product hr_X10_one h hH (lv_sub hl [1, 2, 0] rfl)
  · replace h := tT hc87 h
    refine lv_aload_n hx hb dX10_one_90 rfl (lv_at hl 1 rfl) ?_
    refine lv_bipush (v := 41) hx hb dX10_one_91 (by decide) ?_
    obtain ⟨q93, e93, h⟩ := tB h
    refine rcI C hH hl.1 (mX10_takes l e93) cf_RX10_176 ro_58 (RR_of (by omega) (by decide)) rfl (rest := []) rfl (Nat.le_of_ble_eq_true rfl) dX10_one_93 ?_
    intro hz93 H locs hH
    refine lv_if_ne (tgt := 104) hx hb dX10_one_96 (by decide) (fun hc96 => ?_) (fun hc96 => ?_)
    · replace h := tF hc96 h
      exact wX10_one_104 C hlev hr_X10_either hr_X10_both hr_X10_compared hr_X10_sums hr_X10_product hr_X10_one h hH (lv_sub hl [1, 2, 0] rfl)
    · replace h := tT hc96 h
      refine lv_aload_n hx hb dX10_one_99 rfl (lv_at hl 1 rfl) ?_
      obtain ⟨q100, e100, h⟩ := tB h
      refine rcI C hH hl.1 (mX10_wrong l e100) cf_RX10_194 ro_58 (RR_of (by omega) (by decide)) rfl (rest := []) rfl (Nat.le_of_ble_eq_true rfl) dX10_one_100 ?_
      intro hz100 H locs hH
      have h := Option.some.inj h
      subst h
      exact retI C hH trivial dX10_one_103
set_option maxHeartbeats 2000000 in
set_option maxRecDepth 20000 in
theorem wX10_one_32 (C : Cx D ca A p s m args meth c cX10_one RX10 5 (some .int)) {q : Int32 × Mm} {lev : Nat} (hlev : 3 ≤ lev + 1) {r_X10_either : Mm → Option (Int32 × Mm)} {r_X10_both : Mm → Option (Int32 × Mm)} {r_X10_compared : Mm → Option (Int32 × Mm)} {r_X10_sums : Mm → Option (Int32 × Mm)} {r_X10_product : Mm → Option (Int32 × Mm)} {r_X10_one : Mm → Option (Int32 × Mm)} (hr_X10_either : ∀ (mm : Mm) (q : Int32 × Mm), r_X10_either mm = some q → Met l yX10_either (wsOf yX10_either cX10_either 3 (some .int)) (rmk lev) (PcX WN ad ca WS D A [.ref (ad 58)] mm) (QcI WN ad ca WS D A pzT q) 0 0 A) (hr_X10_both : ∀ (mm : Mm) (q : Int32 × Mm), r_X10_both mm = some q → Met l yX10_both (wsOf yX10_both cX10_both 3 (some .int)) (rmk lev) (PcX WN ad ca WS D A [.ref (ad 58)] mm) (QcI WN ad ca WS D A pzT q) 0 0 A) (hr_X10_compared : ∀ (mm : Mm) (q : Int32 × Mm), r_X10_compared mm = some q → Met l yX10_compared (wsOf yX10_compared cX10_compared 4 (some .int)) (rmk lev) (PcX WN ad ca WS D A [.ref (ad 58)] mm) (QcI WN ad ca WS D A pzT q) 0 0 A) (hr_X10_sums : ∀ (mm : Mm) (q : Int32 × Mm), r_X10_sums mm = some q → Met l yX10_sums (wsOf yX10_sums cX10_sums 4 (some .int)) (rmk lev) (PcX WN ad ca WS D A [.ref (ad 58)] mm) (QcI WN ad ca WS D A pzT q) 0 0 A) (hr_X10_product : ∀ (mm : Mm) (q : Int32 × Mm), r_X10_product mm = some q → Met l yX10_product (wsOf yX10_product cX10_product 4 (some .int)) (rmk lev) (PcX WN ad ca WS D A [.ref (ad 58)] mm) (QcI WN ad ca WS D A pzT q) 0 0 A) (hr_X10_one : ∀ (mm : Mm) (q : Int32 × Mm), r_X10_one mm = some q → Met l yX10_one (wsOf yX10_one cX10_one 5 (some .int)) (rmk lev) (PcX WN ad ca WS D A [.ref (ad 58)] mm) (QcI WN ad ca WS D A pzT q) 0 0 A) {v1 : Int32} {mm : Mm} (h : DX10_one_32 r_X10_either r_X10_both r_X10_compared r_X10_sums r_X10_product r_X10_one v1 mm = some q) (hH : Hx WN ad ca WS D A s.heap mm H locs) (hl : lv_has ls 5 [(0, .ref (ad 58)), (1, .int v1)]) : W p l e (rmk (lev + 1)) s m args below meth c H locs 0 0 (MQ below (QcI WN ad ca WS D A pzT q) args s 0 0 A) (F0 m 32 ls []) := by
  unfold DX10_one_32 at h
  have hx := C.1
  have hb := C.2.1
  refine lv_aload_n hx hb dX10_one_32 rfl (lv_at hl 0 rfl) ?_
  refine rgI C hH fi_RX10_191_58 dX10_one_33 ?_
  refine lv_bipush (v := 6) hx hb dX10_one_36 (by decide) ?_
  refine lv_icmp_ne (tgt := 46) hx hb dX10_one_38 (by decide) (fun hc38 => ?_) (fun hc38 => ?_)
  · replace h := tF hc38 h
    refine lv_aload_n hx hb dX10_one_46 rfl (lv_at hl 0 rfl) ?_
    refine lv_dup hx hb dX10_one_47 rfl ?_
    refine rgI C hH fi_RX10_191_58 dX10_one_48 ?_
    refine lv_iconst (v := 1) hx hb dX10_one_51 (by decide) ?_
    refine lv_iadd hx hb dX10_one_52 ?_
    refine rpI C hH fp_RX10_191_58 rfl rfl dX10_one_53 (fun H locs hH => ?_)
    refine lv_aload_n hx hb dX10_one_56 rfl (lv_at hl 0 rfl) ?_
    refine lv_dup hx hb dX10_one_57 rfl ?_
    refine rgI C hH fi_RX10_157_58 dX10_one_58 ?_
    refine lv_iconst (v := 1) hx hb dX10_one_61 (by decide) ?_
    refine lv_iadd hx hb dX10_one_62 ?_
    refine rpI C hH fp_RX10_157_58 rfl rfl dX10_one_63 (fun H locs hH => ?_)
    refine lv_iload_n hx hb dX10_one_66 rfl (lv_at hl 1 rfl) ?_
    refine lv_bipush (v := 40) hx hb dX10_one_67 (by decide) ?_
    refine lv_icmp_ne (tgt := 79) hx hb dX10_one_69 (by decide) (fun hc69 => ?_) (fun hc69 => ?_)
    · replace h := tF hc69 h
      refine lv_aload_n hx hb dX10_one_79 rfl (lv_at hl 0 rfl) ?_
      obtain ⟨q80, e80, h⟩ := tB h
      refine rcI C hH hl.1 (hr_X10_one _ _ e80) cf_RX10_188 ro_58 (RR_of (by omega) (by decide)) rfl (rest := []) rfl (Nat.le_of_ble_eq_true rfl) dX10_one_80 ?_
      intro hz80 H locs hH
      exact wX10_one_83 C hlev hr_X10_either hr_X10_both hr_X10_compared hr_X10_sums hr_X10_product hr_X10_one h hH (lv_sub hl [0, 1] rfl)
    · replace h := tT hc69 h
      refine lv_aload_n hx hb dX10_one_72 rfl (lv_at hl 0 rfl) ?_
      obtain ⟨q73, e73, h⟩ := tB h
      refine rcI C hH hl.1 (hr_X10_either _ _ e73) cf_RX10_197 ro_58 (RR_of (by omega) (by decide)) rfl (rest := []) rfl (Nat.le_of_ble_eq_true rfl) dX10_one_73 ?_
      intro hz73 H locs hH
      refine lv_goto (tgt := 83) hx hb dX10_one_76 (by decide) ?_
      exact wX10_one_83 C hlev hr_X10_either hr_X10_both hr_X10_compared hr_X10_sums hr_X10_product hr_X10_one h hH (lv_sub hl [0, 1] rfl)
  · replace h := tT hc38 h
    refine lv_aload_n hx hb dX10_one_41 rfl (lv_at hl 0 rfl) ?_
    obtain ⟨q42, e42, h⟩ := tB h
    refine rcI C hH hl.1 (mX10_wrong l e42) cf_RX10_194 ro_58 (RR_of (by omega) (by decide)) rfl (rest := []) rfl (Nat.le_of_ble_eq_true rfl) dX10_one_42 ?_
    intro hz42 H locs hH
    have h := Option.some.inj h
    subst h
    exact retI C hH trivial dX10_one_45
set_option maxHeartbeats 2000000 in
set_option maxRecDepth 20000 in
theorem wX10_one_229 (C : Cx D ca A p s m args meth c cX10_one RX10 5 (some .int)) {q : Int32 × Mm} {lev : Nat} (hlev : 3 ≤ lev + 1) {r_X10_either : Mm → Option (Int32 × Mm)} {r_X10_both : Mm → Option (Int32 × Mm)} {r_X10_compared : Mm → Option (Int32 × Mm)} {r_X10_sums : Mm → Option (Int32 × Mm)} {r_X10_product : Mm → Option (Int32 × Mm)} {r_X10_one : Mm → Option (Int32 × Mm)} (hr_X10_either : ∀ (mm : Mm) (q : Int32 × Mm), r_X10_either mm = some q → Met l yX10_either (wsOf yX10_either cX10_either 3 (some .int)) (rmk lev) (PcX WN ad ca WS D A [.ref (ad 58)] mm) (QcI WN ad ca WS D A pzT q) 0 0 A) (hr_X10_both : ∀ (mm : Mm) (q : Int32 × Mm), r_X10_both mm = some q → Met l yX10_both (wsOf yX10_both cX10_both 3 (some .int)) (rmk lev) (PcX WN ad ca WS D A [.ref (ad 58)] mm) (QcI WN ad ca WS D A pzT q) 0 0 A) (hr_X10_compared : ∀ (mm : Mm) (q : Int32 × Mm), r_X10_compared mm = some q → Met l yX10_compared (wsOf yX10_compared cX10_compared 4 (some .int)) (rmk lev) (PcX WN ad ca WS D A [.ref (ad 58)] mm) (QcI WN ad ca WS D A pzT q) 0 0 A) (hr_X10_sums : ∀ (mm : Mm) (q : Int32 × Mm), r_X10_sums mm = some q → Met l yX10_sums (wsOf yX10_sums cX10_sums 4 (some .int)) (rmk lev) (PcX WN ad ca WS D A [.ref (ad 58)] mm) (QcI WN ad ca WS D A pzT q) 0 0 A) (hr_X10_product : ∀ (mm : Mm) (q : Int32 × Mm), r_X10_product mm = some q → Met l yX10_product (wsOf yX10_product cX10_product 4 (some .int)) (rmk lev) (PcX WN ad ca WS D A [.ref (ad 58)] mm) (QcI WN ad ca WS D A pzT q) 0 0 A) (hr_X10_one : ∀ (mm : Mm) (q : Int32 × Mm), r_X10_one mm = some q → Met l yX10_one (wsOf yX10_one cX10_one 5 (some .int)) (rmk lev) (PcX WN ad ca WS D A [.ref (ad 58)] mm) (QcI WN ad ca WS D A pzT q) 0 0 A) {v3 : Int32} {v4 : Int32} {mm : Mm} (h : DX10_one_229 r_X10_either r_X10_both r_X10_compared r_X10_sums r_X10_product r_X10_one v3 v4 mm = some q) (hH : Hx WN ad ca WS D A s.heap mm H locs) (hl : lv_has ls 5 [(0, .ref (ad 58)), (3, .int v3), (4, .int v4)]) : W p l e (rmk (lev + 1)) s m args below meth c H locs 0 0 (MQ below (QcI WN ad ca WS D A pzT q) args s 0 0 A) (F0 m 229 ls []) := by
  unfold DX10_one_229 at h
  have hx := C.1
  have hb := C.2.1
  refine lv_iload hx hb dX10_one_229 (lv_at hl 2 rfl) ?_
  refine lv_if_ne (tgt := 241) hx hb dX10_one_231 (by decide) (fun hc231 => ?_) (fun hc231 => ?_)
  · replace h := tF hc231 h
    refine lv_iload_n hx hb dX10_one_241 rfl (lv_at hl 1 rfl) ?_
    have h := Option.some.inj h
    subst h
    exact retI C hH trivial dX10_one_242
  · replace h := tT hc231 h
    refine lv_aload_n hx hb dX10_one_234 rfl (lv_at hl 0 rfl) ?_
    obtain ⟨q235, e235, h⟩ := tB h
    refine rcI C hH hl.1 (mX10_wrong l e235) cf_RX10_194 ro_58 (RR_of (by omega) (by decide)) rfl (rest := []) rfl (Nat.le_of_ble_eq_true rfl) dX10_one_235 ?_
    intro hz235 H locs hH
    refine lv_goto (tgt := 242) hx hb dX10_one_238 (by decide) ?_
    have h := Option.some.inj h
    subst h
    exact retI C hH trivial dX10_one_242
set_option maxHeartbeats 2000000 in
set_option maxRecDepth 20000 in
theorem wbX10_one_176 (C : Cx D ca A p s m args meth c cX10_one RX10 5 (some .int)) {q : Int32 × Mm} {lev : Nat} (hlev : 3 ≤ lev + 1) {r_X10_either : Mm → Option (Int32 × Mm)} {r_X10_both : Mm → Option (Int32 × Mm)} {r_X10_compared : Mm → Option (Int32 × Mm)} {r_X10_sums : Mm → Option (Int32 × Mm)} {r_X10_product : Mm → Option (Int32 × Mm)} {r_X10_one : Mm → Option (Int32 × Mm)} (hr_X10_either : ∀ (mm : Mm) (q : Int32 × Mm), r_X10_either mm = some q → Met l yX10_either (wsOf yX10_either cX10_either 3 (some .int)) (rmk lev) (PcX WN ad ca WS D A [.ref (ad 58)] mm) (QcI WN ad ca WS D A pzT q) 0 0 A) (hr_X10_both : ∀ (mm : Mm) (q : Int32 × Mm), r_X10_both mm = some q → Met l yX10_both (wsOf yX10_both cX10_both 3 (some .int)) (rmk lev) (PcX WN ad ca WS D A [.ref (ad 58)] mm) (QcI WN ad ca WS D A pzT q) 0 0 A) (hr_X10_compared : ∀ (mm : Mm) (q : Int32 × Mm), r_X10_compared mm = some q → Met l yX10_compared (wsOf yX10_compared cX10_compared 4 (some .int)) (rmk lev) (PcX WN ad ca WS D A [.ref (ad 58)] mm) (QcI WN ad ca WS D A pzT q) 0 0 A) (hr_X10_sums : ∀ (mm : Mm) (q : Int32 × Mm), r_X10_sums mm = some q → Met l yX10_sums (wsOf yX10_sums cX10_sums 4 (some .int)) (rmk lev) (PcX WN ad ca WS D A [.ref (ad 58)] mm) (QcI WN ad ca WS D A pzT q) 0 0 A) (hr_X10_product : ∀ (mm : Mm) (q : Int32 × Mm), r_X10_product mm = some q → Met l yX10_product (wsOf yX10_product cX10_product 4 (some .int)) (rmk lev) (PcX WN ad ca WS D A [.ref (ad 58)] mm) (QcI WN ad ca WS D A pzT q) 0 0 A) (hr_X10_one : ∀ (mm : Mm) (q : Int32 × Mm), r_X10_one mm = some q → Met l yX10_one (wsOf yX10_one cX10_one 5 (some .int)) (rmk lev) (PcX WN ad ca WS D A [.ref (ad 58)] mm) (QcI WN ad ca WS D A pzT q) 0 0 A) {k176 : Int32 → Int32 → Mm → Option (Int32 × Mm)} (hk176 : ∀ (v3 : Int32) (v4 : Int32) (mm : Mm), k176 v3 v4 mm = some q → ∀ (H : Heap) (locs : List Loc) (ls : Array Slot), Hx WN ad ca WS D A s.heap mm H locs → lv_has ls 5 [(0, .ref (ad 58)), (3, .int v3), (4, .int v4)] → W p l e (rmk (lev + 1)) s m args below meth c H locs 0 0 (MQ below (QcI WN ad ca WS D A pzT q) args s 0 0 A) (F0 m 176 ls [])) {v3 : Int32} {v4 : Int32} {mm : Mm} (h : BX10_one_176 r_X10_either r_X10_both r_X10_compared r_X10_sums r_X10_product r_X10_one k176 v3 v4 mm = some q) (hH : Hx WN ad ca WS D A s.heap mm H locs) (hl : lv_has ls 5 [(0, .ref (ad 58)), (3, .int v3), (4, .int v4)]) : W p l e (rmk (lev + 1)) s m args below meth c H locs 0 0 (MQ below (QcI WN ad ca WS D A pzT q) args s 0 0 A) (F0 m 176 ls []) := by
  unfold BX10_one_176 at h
  have hx := C.1
  have hb := C.2.1
  refine lv_iload hx hb dX10_one_176 (lv_at hl 2 rfl) ?_
  refine lv_iconst (v := 4) hx hb dX10_one_178 (by decide) ?_
  refine lv_icmp_ge (tgt := 229) hx hb dX10_one_179 (by decide) (fun hc179 => ?_) (fun hc179 => ?_)
  · replace h := tT hc179 h
    exact wX10_one_229 C hlev hr_X10_either hr_X10_both hr_X10_compared hr_X10_sums hr_X10_product hr_X10_one h hH (lv_sub hl [0, 1, 2] rfl)
  · replace h := tF hc179 h
    refine lv_aload_n hx hb dX10_one_182 rfl (lv_at hl 0 rfl) ?_
    obtain ⟨q183, e183, h⟩ := tB h
    refine rcI C hH hl.1 (mX10_byteAt l e183) cf_RX10_169 ro_58 (RR_of (by omega) (by decide)) rfl (rest := []) rfl (Nat.le_of_ble_eq_true rfl) dX10_one_183 ?_
    intro hz183 H locs hH
    refine lv_bipush (v := 48) hx hb dX10_one_186 (by decide) ?_
    refine lv_icmp_lt (tgt := 229) hx hb dX10_one_188 (by decide) (fun hc188 => ?_) (fun hc188 => ?_)
    · replace h := tT hc188 h
      exact wX10_one_229 C hlev hr_X10_either hr_X10_both hr_X10_compared hr_X10_sums hr_X10_product hr_X10_one h hH (lv_sub hl [0, 1, 2] rfl)
    · replace h := tF hc188 h
      refine lv_aload_n hx hb dX10_one_191 rfl (lv_at hl 0 rfl) ?_
      obtain ⟨q192, e192, h⟩ := tB h
      refine rcI C hH hl.1 (mX10_byteAt l e192) cf_RX10_169 ro_58 (RR_of (by omega) (by decide)) rfl (rest := []) rfl (Nat.le_of_ble_eq_true rfl) dX10_one_192 ?_
      intro hz192 H locs hH
      refine lv_bipush (v := 57) hx hb dX10_one_195 (by decide) ?_
      refine lv_icmp_gt (tgt := 229) hx hb dX10_one_197 (by decide) (fun hc197 => ?_) (fun hc197 => ?_)
      · replace h := tT hc197 h
        exact wX10_one_229 C hlev hr_X10_either hr_X10_both hr_X10_compared hr_X10_sums hr_X10_product hr_X10_one h hH (lv_sub hl [0, 1, 2] rfl)
      · replace h := tF hc197 h
        refine lv_bipush (v := 10) hx hb dX10_one_200 (by decide) ?_
        refine lv_iload_n hx hb dX10_one_202 rfl (lv_at hl 1 rfl) ?_
        refine lv_imul hx hb dX10_one_203 ?_
        refine lv_aload_n hx hb dX10_one_204 rfl (lv_at hl 0 rfl) ?_
        obtain ⟨q205, e205, h⟩ := tB h
        refine rcI C hH hl.1 (mX10_byteAt l e205) cf_RX10_169 ro_58 (RR_of (by omega) (by decide)) rfl (rest := [.int (10 * v3)]) rfl (Nat.le_of_ble_eq_true rfl) dX10_one_205 ?_
        intro hz205 H locs hH
        refine lv_iadd hx hb dX10_one_208 ?_
        refine lv_bipush (v := 48) hx hb dX10_one_209 (by decide) ?_
        refine lv_isub hx hb dX10_one_211 ?_
        refine lv_istore_n (lv' := [(3, .int (((10 * v3) + q205.1) - 48)), (0, .ref (ad 58)), (4, .int v4)]) hx hb dX10_one_212 rfl hl (by decide) rfl (fun ls hl => ?_)
        refine lv_iinc (v := (v4 + 1)) (lv' := [(4, .int (v4 + 1)), (3, .int (((10 * v3) + q205.1) - 48)), (0, .ref (ad 58))]) hx hb dX10_one_213 hl (k := 2) rfl rfl (by decide) rfl (fun ls hl => ?_)
        refine lv_aload_n hx hb dX10_one_216 rfl (lv_at hl 2 rfl) ?_
        refine lv_dup hx hb dX10_one_217 rfl ?_
        refine rgI C hH fi_RX10_157_58 dX10_one_218 ?_
        refine lv_iconst (v := 1) hx hb dX10_one_221 (by decide) ?_
        refine lv_iadd hx hb dX10_one_222 ?_
        refine rpI C hH fp_RX10_157_58 rfl rfl dX10_one_223 (fun H locs hH => ?_)
        refine lv_goto (tgt := 176) hx hb dX10_one_226 (by decide) ?_
        exact hk176 _ _ _ h _ _ _ hH (lv_sub hl [2, 1, 0] rfl)
set_option maxHeartbeats 2000000 in
set_option maxRecDepth 20000 in
theorem wX10_one_176 (C : Cx D ca A p s m args meth c cX10_one RX10 5 (some .int)) {q : Int32 × Mm} {lev : Nat} (hlev : 3 ≤ lev + 1) {r_X10_either : Mm → Option (Int32 × Mm)} {r_X10_both : Mm → Option (Int32 × Mm)} {r_X10_compared : Mm → Option (Int32 × Mm)} {r_X10_sums : Mm → Option (Int32 × Mm)} {r_X10_product : Mm → Option (Int32 × Mm)} {r_X10_one : Mm → Option (Int32 × Mm)} (hr_X10_either : ∀ (mm : Mm) (q : Int32 × Mm), r_X10_either mm = some q → Met l yX10_either (wsOf yX10_either cX10_either 3 (some .int)) (rmk lev) (PcX WN ad ca WS D A [.ref (ad 58)] mm) (QcI WN ad ca WS D A pzT q) 0 0 A) (hr_X10_both : ∀ (mm : Mm) (q : Int32 × Mm), r_X10_both mm = some q → Met l yX10_both (wsOf yX10_both cX10_both 3 (some .int)) (rmk lev) (PcX WN ad ca WS D A [.ref (ad 58)] mm) (QcI WN ad ca WS D A pzT q) 0 0 A) (hr_X10_compared : ∀ (mm : Mm) (q : Int32 × Mm), r_X10_compared mm = some q → Met l yX10_compared (wsOf yX10_compared cX10_compared 4 (some .int)) (rmk lev) (PcX WN ad ca WS D A [.ref (ad 58)] mm) (QcI WN ad ca WS D A pzT q) 0 0 A) (hr_X10_sums : ∀ (mm : Mm) (q : Int32 × Mm), r_X10_sums mm = some q → Met l yX10_sums (wsOf yX10_sums cX10_sums 4 (some .int)) (rmk lev) (PcX WN ad ca WS D A [.ref (ad 58)] mm) (QcI WN ad ca WS D A pzT q) 0 0 A) (hr_X10_product : ∀ (mm : Mm) (q : Int32 × Mm), r_X10_product mm = some q → Met l yX10_product (wsOf yX10_product cX10_product 4 (some .int)) (rmk lev) (PcX WN ad ca WS D A [.ref (ad 58)] mm) (QcI WN ad ca WS D A pzT q) 0 0 A) (hr_X10_one : ∀ (mm : Mm) (q : Int32 × Mm), r_X10_one mm = some q → Met l yX10_one (wsOf yX10_one cX10_one 5 (some .int)) (rmk lev) (PcX WN ad ca WS D A [.ref (ad 58)] mm) (QcI WN ad ca WS D A pzT q) 0 0 A) : ∀ (N : Nat) (v3 : Int32) (v4 : Int32) (mm : Mm), DX10_one_176 r_X10_either r_X10_both r_X10_compared r_X10_sums r_X10_product r_X10_one N v3 v4 mm = some q → ∀ (H : Heap) (locs : List Loc) (ls : Array Slot), Hx WN ad ca WS D A s.heap mm H locs → lv_has ls 5 [(0, .ref (ad 58)), (3, .int v3), (4, .int v4)] → W p l e (rmk (lev + 1)) s m args below meth c H locs 0 0 (MQ below (QcI WN ad ca WS D A pzT q) args s 0 0 A) (F0 m 176 ls []) := by
  intro N
  induction N with
  | zero =>
    intro v3 v4 mm h
    have h2 : (none : Option (Int32 × Mm)) = some q := h
    cases h2
  | succ N ih =>
    intro v3 v4 mm h H locs ls hH hl
    exact wbX10_one_176 C hlev hr_X10_either hr_X10_both hr_X10_compared hr_X10_sums hr_X10_product hr_X10_one ih h hH hl
set_option maxHeartbeats 2000000 in
set_option maxRecDepth 20000 in
theorem mbX10_one (l : Launch) {D : va_G} {ca : Nat → ClassId} {A : Nat → Prop} {ad : Nat → Nat} {lev : Nat} (hlev : 3 ≤ lev + 1) {r_X10_either : Mm → Option (Int32 × Mm)} {r_X10_both : Mm → Option (Int32 × Mm)} {r_X10_compared : Mm → Option (Int32 × Mm)} {r_X10_sums : Mm → Option (Int32 × Mm)} {r_X10_product : Mm → Option (Int32 × Mm)} {r_X10_one : Mm → Option (Int32 × Mm)} (hr_X10_either : ∀ (mm : Mm) (q : Int32 × Mm), r_X10_either mm = some q → Met l yX10_either (wsOf yX10_either cX10_either 3 (some .int)) (rmk lev) (PcX WN ad ca WS D A [.ref (ad 58)] mm) (QcI WN ad ca WS D A pzT q) 0 0 A) (hr_X10_both : ∀ (mm : Mm) (q : Int32 × Mm), r_X10_both mm = some q → Met l yX10_both (wsOf yX10_both cX10_both 3 (some .int)) (rmk lev) (PcX WN ad ca WS D A [.ref (ad 58)] mm) (QcI WN ad ca WS D A pzT q) 0 0 A) (hr_X10_compared : ∀ (mm : Mm) (q : Int32 × Mm), r_X10_compared mm = some q → Met l yX10_compared (wsOf yX10_compared cX10_compared 4 (some .int)) (rmk lev) (PcX WN ad ca WS D A [.ref (ad 58)] mm) (QcI WN ad ca WS D A pzT q) 0 0 A) (hr_X10_sums : ∀ (mm : Mm) (q : Int32 × Mm), r_X10_sums mm = some q → Met l yX10_sums (wsOf yX10_sums cX10_sums 4 (some .int)) (rmk lev) (PcX WN ad ca WS D A [.ref (ad 58)] mm) (QcI WN ad ca WS D A pzT q) 0 0 A) (hr_X10_product : ∀ (mm : Mm) (q : Int32 × Mm), r_X10_product mm = some q → Met l yX10_product (wsOf yX10_product cX10_product 4 (some .int)) (rmk lev) (PcX WN ad ca WS D A [.ref (ad 58)] mm) (QcI WN ad ca WS D A pzT q) 0 0 A) (hr_X10_one : ∀ (mm : Mm) (q : Int32 × Mm), r_X10_one mm = some q → Met l yX10_one (wsOf yX10_one cX10_one 5 (some .int)) (rmk lev) (PcX WN ad ca WS D A [.ref (ad 58)] mm) (QcI WN ad ca WS D A pzT q) 0 0 A) {mm : Mm} {q : Int32 × Mm} (h : bX10_one r_X10_either r_X10_both r_X10_compared r_X10_sums r_X10_product r_X10_one mm = some q) : Met l yX10_one (wsOf yX10_one cX10_one 5 (some .int)) (rmk (lev + 1)) (PcX WN ad ca WS D A [.ref (ad 58)] mm) (QcI WN ad ca WS D A pzT q) 0 0 A := by
  unfold bX10_one at h
  refine ent (by decide) (Nat.le_of_ble_eq_true rfl) (fun p e s m args below meth c hargs C hH ls hl => ?_)
  have hx := C.1
  have hb := C.2.1
  have hl : lv_has ls 5 [(0, .ref (ad 58))] := hl
  refine lv_aload_n hx hb dX10_one_0 rfl (lv_at hl 0 rfl) ?_
  refine rgI C hH fi_RX10_166_58 dX10_one_1 ?_
  refine lv_if_lt (tgt := 9) hx hb dX10_one_4 (by decide) (fun hc4 => ?_) (fun hc4 => ?_)
  · replace h := tT hc4 h
    refine lv_aload_n hx hb dX10_one_9 rfl (lv_at hl 0 rfl) ?_
    obtain ⟨q10, e10, h⟩ := tB h
    refine rcI C hH hl.1 (mX10_byteAt l e10) cf_RX10_169 ro_58 (RR_of (by omega) (by decide)) rfl (rest := []) rfl (Nat.le_of_ble_eq_true rfl) dX10_one_10 ?_
    intro hz10 H locs hH
    refine lv_istore_n (lv' := [(1, .int q10.1), (0, .ref (ad 58))]) hx hb dX10_one_13 rfl hl (by decide) rfl (fun ls hl => ?_)
    refine lv_iload_n hx hb dX10_one_14 rfl (lv_at hl 0 rfl) ?_
    refine lv_bipush (v := 33) hx hb dX10_one_15 (by decide) ?_
    refine lv_icmp_eq (tgt := 32) hx hb dX10_one_17 (by decide) (fun hc17 => ?_) (fun hc17 => ?_)
    · replace h := tT hc17 h
      exact wX10_one_32 C hlev hr_X10_either hr_X10_both hr_X10_compared hr_X10_sums hr_X10_product hr_X10_one h hH (lv_sub hl [1, 0] rfl)
    · replace h := tF hc17 h
      refine lv_iload_n hx hb dX10_one_20 rfl (lv_at hl 0 rfl) ?_
      refine lv_bipush (v := 45) hx hb dX10_one_21 (by decide) ?_
      refine lv_icmp_eq (tgt := 32) hx hb dX10_one_23 (by decide) (fun hc23 => ?_) (fun hc23 => ?_)
      · replace h := tT hc23 h
        exact wX10_one_32 C hlev hr_X10_either hr_X10_both hr_X10_compared hr_X10_sums hr_X10_product hr_X10_one h hH (lv_sub hl [1, 0] rfl)
      · replace h := tF hc23 h
        refine lv_iload_n hx hb dX10_one_26 rfl (lv_at hl 0 rfl) ?_
        refine lv_bipush (v := 40) hx hb dX10_one_27 (by decide) ?_
        refine lv_icmp_ne (tgt := 145) hx hb dX10_one_29 (by decide) (fun hc29 => ?_) (fun hc29 => ?_)
        · replace h := tF hc29 h
          refine lv_iload_n hx hb dX10_one_145 rfl (lv_at hl 0 rfl) ?_
          obtain ⟨q146, e146, h⟩ := tB h
          refine rsI C hH hl.1 (mX10_nameOf l e146) cs_RX10_200 (RR_of (by omega) (by decide)) rfl (rest := []) rfl (Nat.le_of_ble_eq_true rfl) dX10_one_146 ?_
          intro hz146 H locs hH
          refine lv_istore_n (lv' := [(2, .int q146.1), (1, .int q10.1), (0, .ref (ad 58))]) hx hb dX10_one_149 rfl hl (by decide) rfl (fun ls hl => ?_)
          refine lv_iload_n hx hb dX10_one_150 rfl (lv_at hl 0 rfl) ?_
          refine lv_if_lt (tgt := 171) hx hb dX10_one_151 (by decide) (fun hc151 => ?_) (fun hc151 => ?_)
          · replace h := tT hc151 h
            refine lv_iconst (v := 0) hx hb dX10_one_171 (by decide) ?_
            refine lv_istore_n (lv' := [(3, .int 0), (2, .int q146.1), (1, .int q10.1), (0, .ref (ad 58))]) hx hb dX10_one_172 rfl hl (by decide) rfl (fun ls hl => ?_)
            refine lv_iconst (v := 0) hx hb dX10_one_173 (by decide) ?_
            refine lv_istore (lv' := [(4, .int 0), (3, .int 0), (2, .int q146.1), (1, .int q10.1), (0, .ref (ad 58))]) hx hb dX10_one_174 hl (by decide) rfl (fun ls hl => ?_)
            exact wX10_one_176 C hlev hr_X10_either hr_X10_both hr_X10_compared hr_X10_sums hr_X10_product hr_X10_one FU _ _ _ h _ _ _ hH (lv_sub hl [4, 1, 0] rfl)
          · replace h := tF hc151 h
            refine lv_aload_n hx hb dX10_one_154 rfl (lv_at hl 2 rfl) ?_
            refine lv_dup hx hb dX10_one_155 rfl ?_
            refine rgI C hH fi_RX10_157_58 dX10_one_156 ?_
            refine lv_iconst (v := 1) hx hb dX10_one_159 (by decide) ?_
            refine lv_iadd hx hb dX10_one_160 ?_
            refine rpI C hH fp_RX10_157_58 rfl rfl dX10_one_161 (fun H locs hH => ?_)
            refine lv_aload_n hx hb dX10_one_164 rfl (lv_at hl 2 rfl) ?_
            refine rgS C hH fs_RX10_35_58 dX10_one_165 ?_
            refine lv_iload_n hx hb dX10_one_168 rfl (lv_at hl 0 rfl) ?_
            obtain ⟨hi169, h⟩ := tC h
            refine raI C hH (k := (Int32.toNatClampNeg q146.1)) (by decide) (show WS 67 = .inr (0, 6, 0) from rfl) hi169 rfl dX10_one_169 ?_
            have h := Option.some.inj h
            subst h
            exact retI C hH trivial dX10_one_170
        · replace h := tT hc29 h
          exact wX10_one_32 C hlev hr_X10_either hr_X10_both hr_X10_compared hr_X10_sums hr_X10_product hr_X10_one h hH (lv_sub hl [1, 0] rfl)
  · replace h := tF hc4 h
    refine lv_iconst (v := 0) hx hb dX10_one_7 (by decide) ?_
    have h := Option.some.inj h
    subst h
    exact retI C hH trivial dX10_one_8
set_option maxHeartbeats 2000000 in
set_option maxRecDepth 20000 in
theorem mgX10_either (l : Launch) {D : va_G} {ca : Nat → ClassId} {A : Nat → Prop} {ad : Nat → Nat} : ∀ n : Nat, (∀ (mm : Mm) (q : Int32 × Mm), dX10_either n mm = some q → Met l yX10_either (wsOf yX10_either cX10_either 3 (some .int)) (rmk (3 + n)) (PcX WN ad ca WS D A [.ref (ad 58)] mm) (QcI WN ad ca WS D A pzT q) 0 0 A) ∧ (∀ (mm : Mm) (q : Int32 × Mm), dX10_both n mm = some q → Met l yX10_both (wsOf yX10_both cX10_both 3 (some .int)) (rmk (3 + n)) (PcX WN ad ca WS D A [.ref (ad 58)] mm) (QcI WN ad ca WS D A pzT q) 0 0 A) ∧ (∀ (mm : Mm) (q : Int32 × Mm), dX10_compared n mm = some q → Met l yX10_compared (wsOf yX10_compared cX10_compared 4 (some .int)) (rmk (3 + n)) (PcX WN ad ca WS D A [.ref (ad 58)] mm) (QcI WN ad ca WS D A pzT q) 0 0 A) ∧ (∀ (mm : Mm) (q : Int32 × Mm), dX10_sums n mm = some q → Met l yX10_sums (wsOf yX10_sums cX10_sums 4 (some .int)) (rmk (3 + n)) (PcX WN ad ca WS D A [.ref (ad 58)] mm) (QcI WN ad ca WS D A pzT q) 0 0 A) ∧ (∀ (mm : Mm) (q : Int32 × Mm), dX10_product n mm = some q → Met l yX10_product (wsOf yX10_product cX10_product 4 (some .int)) (rmk (3 + n)) (PcX WN ad ca WS D A [.ref (ad 58)] mm) (QcI WN ad ca WS D A pzT q) 0 0 A) ∧ (∀ (mm : Mm) (q : Int32 × Mm), dX10_one n mm = some q → Met l yX10_one (wsOf yX10_one cX10_one 5 (some .int)) (rmk (3 + n)) (PcX WN ad ca WS D A [.ref (ad 58)] mm) (QcI WN ad ca WS D A pzT q) 0 0 A) := by
  intro n
  induction n with
  | zero => exact ⟨(fun  mm q h => none_ne (show (none : Option (Int32 × Mm)) = some q from h)), (fun  mm q h => none_ne (show (none : Option (Int32 × Mm)) = some q from h)), (fun  mm q h => none_ne (show (none : Option (Int32 × Mm)) = some q from h)), (fun  mm q h => none_ne (show (none : Option (Int32 × Mm)) = some q from h)), (fun  mm q h => none_ne (show (none : Option (Int32 × Mm)) = some q from h)), (fun  mm q h => none_ne (show (none : Option (Int32 × Mm)) = some q from h))⟩
  | succ n ih => exact ⟨(fun  mm q h => mbX10_either l (by omega) ih.1 ih.2.1 ih.2.2.1 ih.2.2.2.1 ih.2.2.2.2.1 ih.2.2.2.2.2 h), (fun  mm q h => mbX10_both l (by omega) ih.1 ih.2.1 ih.2.2.1 ih.2.2.2.1 ih.2.2.2.2.1 ih.2.2.2.2.2 h), (fun  mm q h => mbX10_compared l (by omega) ih.1 ih.2.1 ih.2.2.1 ih.2.2.2.1 ih.2.2.2.2.1 ih.2.2.2.2.2 h), (fun  mm q h => mbX10_sums l (by omega) ih.1 ih.2.1 ih.2.2.1 ih.2.2.2.1 ih.2.2.2.2.1 ih.2.2.2.2.2 h), (fun  mm q h => mbX10_product l (by omega) ih.1 ih.2.1 ih.2.2.1 ih.2.2.2.1 ih.2.2.2.2.1 ih.2.2.2.2.2 h), (fun  mm q h => mbX10_one l (by omega) ih.1 ih.2.1 ih.2.2.1 ih.2.2.2.1 ih.2.2.2.2.1 ih.2.2.2.2.2 h)⟩
set_option maxHeartbeats 2000000 in
set_option maxRecDepth 20000 in
theorem mX10_either (l : Launch) {D : va_G} {ca : Nat → ClassId} {A : Nat → Prop} {ad : Nat → Nat} (n : Nat) (mm : Mm) (q : Int32 × Mm) (h : dX10_either n mm = some q) : Met l yX10_either (wsOf yX10_either cX10_either 3 (some .int)) (rmk (3 + n)) (PcX WN ad ca WS D A [.ref (ad 58)] mm) (QcI WN ad ca WS D A pzT q) 0 0 A := (mgX10_either l n).1 mm q h
set_option maxHeartbeats 2000000 in
set_option maxRecDepth 20000 in
theorem mX10_both (l : Launch) {D : va_G} {ca : Nat → ClassId} {A : Nat → Prop} {ad : Nat → Nat} (n : Nat) (mm : Mm) (q : Int32 × Mm) (h : dX10_both n mm = some q) : Met l yX10_both (wsOf yX10_both cX10_both 3 (some .int)) (rmk (3 + n)) (PcX WN ad ca WS D A [.ref (ad 58)] mm) (QcI WN ad ca WS D A pzT q) 0 0 A := (mgX10_either l n).2.1 mm q h
set_option maxHeartbeats 2000000 in
set_option maxRecDepth 20000 in
theorem mX10_compared (l : Launch) {D : va_G} {ca : Nat → ClassId} {A : Nat → Prop} {ad : Nat → Nat} (n : Nat) (mm : Mm) (q : Int32 × Mm) (h : dX10_compared n mm = some q) : Met l yX10_compared (wsOf yX10_compared cX10_compared 4 (some .int)) (rmk (3 + n)) (PcX WN ad ca WS D A [.ref (ad 58)] mm) (QcI WN ad ca WS D A pzT q) 0 0 A := (mgX10_either l n).2.2.1 mm q h
set_option maxHeartbeats 2000000 in
set_option maxRecDepth 20000 in
theorem mX10_sums (l : Launch) {D : va_G} {ca : Nat → ClassId} {A : Nat → Prop} {ad : Nat → Nat} (n : Nat) (mm : Mm) (q : Int32 × Mm) (h : dX10_sums n mm = some q) : Met l yX10_sums (wsOf yX10_sums cX10_sums 4 (some .int)) (rmk (3 + n)) (PcX WN ad ca WS D A [.ref (ad 58)] mm) (QcI WN ad ca WS D A pzT q) 0 0 A := (mgX10_either l n).2.2.2.1 mm q h
set_option maxHeartbeats 2000000 in
set_option maxRecDepth 20000 in
theorem mX10_product (l : Launch) {D : va_G} {ca : Nat → ClassId} {A : Nat → Prop} {ad : Nat → Nat} (n : Nat) (mm : Mm) (q : Int32 × Mm) (h : dX10_product n mm = some q) : Met l yX10_product (wsOf yX10_product cX10_product 4 (some .int)) (rmk (3 + n)) (PcX WN ad ca WS D A [.ref (ad 58)] mm) (QcI WN ad ca WS D A pzT q) 0 0 A := (mgX10_either l n).2.2.2.2.1 mm q h
set_option maxHeartbeats 2000000 in
set_option maxRecDepth 20000 in
theorem mX10_one (l : Launch) {D : va_G} {ca : Nat → ClassId} {A : Nat → Prop} {ad : Nat → Nat} (n : Nat) (mm : Mm) (q : Int32 × Mm) (h : dX10_one n mm = some q) : Met l yX10_one (wsOf yX10_one cX10_one 5 (some .int)) (rmk (3 + n)) (PcX WN ad ca WS D A [.ref (ad 58)] mm) (QcI WN ad ca WS D A pzT q) 0 0 A := (mgX10_either l n).2.2.2.2.2 mm q h
set_option maxHeartbeats 2000000 in
set_option maxRecDepth 20000 in
theorem wX10_workOut_130 (C : Cx D ca A p s m args meth c cX10_workOut RX10 8 (some .int)) {q : Int32 × Mm} {v4 : Int32} {mm : Mm} (h : DX10_workOut_130 v4 mm = some q) (hH : Hx WN ad ca WS D A s.heap mm H locs) (hl : lv_has ls 8 [(4, .int v4)]) : W p l e (rmk 104) s m args below meth c H locs 0 0 (MQ below (QcI WN ad ca WS D A pzT q) args s 0 0 A) (F0 m 130 ls []) := by
  unfold DX10_workOut_130 at h
  have hx := C.1
  have hb := C.2.1
  refine lv_iload hx hb dX10_workOut_130 (lv_at hl 0 rfl) ?_
  have h := Option.some.inj h
  subst h
  exact retI C hH trivial dX10_workOut_132
set_option maxHeartbeats 2000000 in
set_option maxRecDepth 20000 in
theorem wX10_workOut_96 (C : Cx D ca A p s m args meth c cX10_workOut RX10 8 (some .int)) {q : Int32 × Mm} {k33 : Int32 → Int32 → Int32 → Mm → Option (Int32 × Mm)} (hk33 : ∀ (v3 : Int32) (v4 : Int32) (v5 : Int32) (mm : Mm), k33 v3 v4 v5 mm = some q → ∀ (H : Heap) (locs : List Loc) (ls : Array Slot), Hx WN ad ca WS D A s.heap mm H locs → lv_has ls 8 [(0, .ref (ad 58)), (3, .int v3), (4, .int v4), (5, .int v5)] → W p l e (rmk 104) s m args below meth c H locs 0 0 (MQ below (QcI WN ad ca WS D A pzT q) args s 0 0 A) (F0 m 33 ls [])) {v3 : Int32} {v4 : Int32} {mm : Mm} (h : DX10_workOut_96 k33 v3 v4 mm = some q) (hH : Hx WN ad ca WS D A s.heap mm H locs) (hl : lv_has ls 8 [(0, .ref (ad 58)), (3, .int v3), (4, .int v4)]) : W p l e (rmk 104) s m args below meth c H locs 0 0 (MQ below (QcI WN ad ca WS D A pzT q) args s 0 0 A) (F0 m 96 ls []) := by
  unfold DX10_workOut_96 at h
  have hx := C.1
  have hb := C.2.1
  refine lv_aload_n hx hb dX10_workOut_96 rfl (lv_at hl 0 rfl) ?_
  refine lv_bipush (v := 59) hx hb dX10_workOut_97 (by decide) ?_
  obtain ⟨q99, e99, h⟩ := tB h
  refine rcI C hH hl.1 (mX10_takes l e99) cf_RX10_176 ro_58 (RR_of (by decide) (by decide)) rfl (rest := []) rfl (Nat.le_of_ble_eq_true rfl) dX10_workOut_99 ?_
  intro hz99 H locs hH
  refine lv_istore (lv' := [(5, .int q99.1), (0, .ref (ad 58)), (3, .int v3), (4, .int v4)]) hx hb dX10_workOut_102 hl (by decide) rfl (fun ls hl => ?_)
  refine lv_goto (tgt := 33) hx hb dX10_workOut_104 (by decide) ?_
  exact hk33 _ _ _ _ h _ _ _ hH (lv_sub hl [1, 2, 3, 0] rfl)
set_option maxHeartbeats 2000000 in
set_option maxRecDepth 20000 in
theorem wX10_workOut_74 (C : Cx D ca A p s m args meth c cX10_workOut RX10 8 (some .int)) {q : Int32 × Mm} {k33 : Int32 → Int32 → Int32 → Mm → Option (Int32 × Mm)} (hk33 : ∀ (v3 : Int32) (v4 : Int32) (v5 : Int32) (mm : Mm), k33 v3 v4 v5 mm = some q → ∀ (H : Heap) (locs : List Loc) (ls : Array Slot), Hx WN ad ca WS D A s.heap mm H locs → lv_has ls 8 [(0, .ref (ad 58)), (3, .int v3), (4, .int v4), (5, .int v5)] → W p l e (rmk 104) s m args below meth c H locs 0 0 (MQ below (QcI WN ad ca WS D A pzT q) args s 0 0 A) (F0 m 33 ls [])) {v3 : Int32} {v4 : Int32} {v6 : Int32} {v7 : Int32} {mm : Mm} (h : DX10_workOut_74 k33 v3 v4 v6 v7 mm = some q) (hH : Hx WN ad ca WS D A s.heap mm H locs) (hl : lv_has ls 8 [(0, .ref (ad 58)), (3, .int v3), (4, .int v4), (6, .int v6), (7, .int v7)]) : W p l e (rmk 104) s m args below meth c H locs 0 0 (MQ below (QcI WN ad ca WS D A pzT q) args s 0 0 A) (F0 m 74 ls []) := by
  unfold DX10_workOut_74 at h
  have hx := C.1
  have hb := C.2.1
  refine lv_aload_n hx hb dX10_workOut_74 rfl (lv_at hl 0 rfl) ?_
  refine rgI C hH fi_RX10_166_58 dX10_workOut_75 ?_
  refine lv_if_ge (tgt := 96) hx hb dX10_workOut_78 (by decide) (fun hc78 => ?_) (fun hc78 => ?_)
  · replace h := tT hc78 h
    exact wX10_workOut_96 C hk33 h hH (lv_sub hl [0, 1, 2] rfl)
  · replace h := tF hc78 h
    refine lv_iload hx hb dX10_workOut_81 (lv_at hl 4 rfl) ?_
    refine lv_if_eq (tgt := 96) hx hb dX10_workOut_83 (by decide) (fun hc83 => ?_) (fun hc83 => ?_)
    · replace h := tT hc83 h
      exact wX10_workOut_96 C hk33 h hH (lv_sub hl [0, 1, 2] rfl)
    · replace h := tF hc83 h
      refine lv_iload_n hx hb dX10_workOut_86 rfl (lv_at hl 1 rfl) ?_
      refine lv_if_ne (tgt := 96) hx hb dX10_workOut_87 (by decide) (fun hc87 => ?_) (fun hc87 => ?_)
      · replace h := tF hc87 h
        exact wX10_workOut_96 C hk33 h hH (lv_sub hl [0, 1, 2] rfl)
      · replace h := tT hc87 h
        refine lv_iconst (v := 1) hx hb dX10_workOut_90 (by decide) ?_
        refine lv_istore_n (lv' := [(3, .int 1), (0, .ref (ad 58)), (4, .int v4), (6, .int v6), (7, .int v7)]) hx hb dX10_workOut_91 rfl hl (by decide) rfl (fun ls hl => ?_)
        refine lv_iload hx hb dX10_workOut_92 (lv_at hl 3 rfl) ?_
        refine lv_istore (lv' := [(4, .int v6), (3, .int 1), (0, .ref (ad 58)), (6, .int v6), (7, .int v7)]) hx hb dX10_workOut_94 hl (by decide) rfl (fun ls hl => ?_)
        exact wX10_workOut_96 C hk33 h hH (lv_sub hl [2, 1, 0] rfl)
set_option maxHeartbeats 2000000 in
set_option maxRecDepth 20000 in
theorem wX10_workOut_66 (C : Cx D ca A p s m args meth c cX10_workOut RX10 8 (some .int)) {q : Int32 × Mm} {k33 : Int32 → Int32 → Int32 → Mm → Option (Int32 × Mm)} (hk33 : ∀ (v3 : Int32) (v4 : Int32) (v5 : Int32) (mm : Mm), k33 v3 v4 v5 mm = some q → ∀ (H : Heap) (locs : List Loc) (ls : Array Slot), Hx WN ad ca WS D A s.heap mm H locs → lv_has ls 8 [(0, .ref (ad 58)), (3, .int v3), (4, .int v4), (5, .int v5)] → W p l e (rmk 104) s m args below meth c H locs 0 0 (MQ below (QcI WN ad ca WS D A pzT q) args s 0 0 A) (F0 m 33 ls [])) {v3 : Int32} {v4 : Int32} {s0 : Int32} {mm : Mm} (h : DX10_workOut_66 k33 v3 v4 s0 mm = some q) (hH : Hx WN ad ca WS D A s.heap mm H locs) (hl : lv_has ls 8 [(0, .ref (ad 58)), (3, .int v3), (4, .int v4)]) : W p l e (rmk 104) s m args below meth c H locs 0 0 (MQ below (QcI WN ad ca WS D A pzT q) args s 0 0 A) (F0 m 66 ls [.int s0]) := by
  unfold DX10_workOut_66 at h
  have hx := C.1
  have hb := C.2.1
  refine lv_istore (lv' := [(7, .int s0), (0, .ref (ad 58)), (3, .int v3), (4, .int v4)]) hx hb dX10_workOut_66 hl (by decide) rfl (fun ls hl => ?_)
  refine lv_aload_n hx hb dX10_workOut_68 rfl (lv_at hl 1 rfl) ?_
  obtain ⟨q69, e69, h⟩ := tB h
  refine rcI C hH hl.1 (mX10_either l 100 _ _ e69) cf_RX10_197 ro_58 (RR_of (by decide) (by decide)) rfl (rest := []) rfl (Nat.le_of_ble_eq_true rfl) dX10_workOut_69 ?_
  intro hz69 H locs hH
  refine lv_istore (lv' := [(6, .int q69.1), (7, .int s0), (0, .ref (ad 58)), (3, .int v3), (4, .int v4)]) hx hb dX10_workOut_72 hl (by decide) rfl (fun ls hl => ?_)
  exact wX10_workOut_74 C hk33 h hH (lv_sub hl [2, 3, 4, 0, 1] rfl)
set_option maxHeartbeats 2000000 in
set_option maxRecDepth 20000 in
theorem wbX10_workOut_33 (C : Cx D ca A p s m args meth c cX10_workOut RX10 8 (some .int)) {q : Int32 × Mm} {k33 : Int32 → Int32 → Int32 → Mm → Option (Int32 × Mm)} (hk33 : ∀ (v3 : Int32) (v4 : Int32) (v5 : Int32) (mm : Mm), k33 v3 v4 v5 mm = some q → ∀ (H : Heap) (locs : List Loc) (ls : Array Slot), Hx WN ad ca WS D A s.heap mm H locs → lv_has ls 8 [(0, .ref (ad 58)), (3, .int v3), (4, .int v4), (5, .int v5)] → W p l e (rmk 104) s m args below meth c H locs 0 0 (MQ below (QcI WN ad ca WS D A pzT q) args s 0 0 A) (F0 m 33 ls [])) {v3 : Int32} {v4 : Int32} {v5 : Int32} {mm : Mm} (h : BX10_workOut_33 k33 v3 v4 v5 mm = some q) (hH : Hx WN ad ca WS D A s.heap mm H locs) (hl : lv_has ls 8 [(0, .ref (ad 58)), (3, .int v3), (4, .int v4), (5, .int v5)]) : W p l e (rmk 104) s m args below meth c H locs 0 0 (MQ below (QcI WN ad ca WS D A pzT q) args s 0 0 A) (F0 m 33 ls []) := by
  unfold BX10_workOut_33 at h
  have hx := C.1
  have hb := C.2.1
  refine lv_iload hx hb dX10_workOut_33 (lv_at hl 3 rfl) ?_
  refine lv_if_eq (tgt := 107) hx hb dX10_workOut_35 (by decide) (fun hc35 => ?_) (fun hc35 => ?_)
  · replace h := tT hc35 h
    refine lv_aload_n hx hb dX10_workOut_107 rfl (lv_at hl 0 rfl) ?_
    refine rgI C hH fi_RX10_166_58 dX10_workOut_108 ?_
    refine lv_if_ge (tgt := 130) hx hb dX10_workOut_111 (by decide) (fun hc111 => ?_) (fun hc111 => ?_)
    · replace h := tT hc111 h
      exact wX10_workOut_130 C h hH (lv_sub hl [2] rfl)
    · replace h := tF hc111 h
      refine lv_aload_n hx hb dX10_workOut_114 rfl (lv_at hl 0 rfl) ?_
      refine rgI C hH fi_RX10_157_58 dX10_workOut_115 ?_
      refine lv_aload_n hx hb dX10_workOut_118 rfl (lv_at hl 0 rfl) ?_
      refine rgI C hH fi_RX10_160_58 dX10_workOut_119 ?_
      refine lv_icmp_ge (tgt := 130) hx hb dX10_workOut_122 (by decide) (fun hc122 => ?_) (fun hc122 => ?_)
      · replace h := tT hc122 h
        exact wX10_workOut_130 C h hH (lv_sub hl [2] rfl)
      · replace h := tF hc122 h
        refine lv_aload_n hx hb dX10_workOut_125 rfl (lv_at hl 0 rfl) ?_
        obtain ⟨q126, e126, h⟩ := tB h
        refine rcI C hH hl.1 (mX10_wrong l e126) cf_RX10_194 ro_58 (RR_of (by decide) (by decide)) rfl (rest := []) rfl (Nat.le_of_ble_eq_true rfl) dX10_workOut_126 ?_
        intro hz126 H locs hH
        have h := Option.some.inj h
        subst h
        exact retI C hH trivial dX10_workOut_129
  · replace h := tF hc35 h
    refine lv_aload_n hx hb dX10_workOut_38 rfl (lv_at hl 0 rfl) ?_
    obtain ⟨q39, e39, h⟩ := tB h
    refine rcI C hH hl.1 (mX10_either l 100 _ _ e39) cf_RX10_197 ro_58 (RR_of (by decide) (by decide)) rfl (rest := []) rfl (Nat.le_of_ble_eq_true rfl) dX10_workOut_39 ?_
    intro hz39 H locs hH
    refine lv_istore (lv' := [(6, .int q39.1), (0, .ref (ad 58)), (3, .int v3), (4, .int v4), (5, .int v5)]) hx hb dX10_workOut_42 hl (by decide) rfl (fun ls hl => ?_)
    refine lv_iconst (v := 1) hx hb dX10_workOut_44 (by decide) ?_
    refine lv_istore (lv' := [(7, .int 1), (6, .int q39.1), (0, .ref (ad 58)), (3, .int v3), (4, .int v4), (5, .int v5)]) hx hb dX10_workOut_45 hl (by decide) rfl (fun ls hl => ?_)
    refine lv_aload_n hx hb dX10_workOut_47 rfl (lv_at hl 2 rfl) ?_
    refine lv_bipush (v := 63) hx hb dX10_workOut_48 (by decide) ?_
    obtain ⟨q50, e50, h⟩ := tB h
    refine rcI C hH hl.1 (mX10_takes l e50) cf_RX10_176 ro_58 (RR_of (by decide) (by decide)) rfl (rest := []) rfl (Nat.le_of_ble_eq_true rfl) dX10_workOut_50 ?_
    intro hz50 H locs hH
    refine lv_if_eq (tgt := 74) hx hb dX10_workOut_53 (by decide) (fun hc53 => ?_) (fun hc53 => ?_)
    · replace h := tT hc53 h
      exact wX10_workOut_74 C hk33 h hH (lv_sub hl [2, 3, 4, 1, 0] rfl)
    · replace h := tF hc53 h
      refine lv_iload hx hb dX10_workOut_56 (lv_at hl 1 rfl) ?_
      refine lv_if_eq (tgt := 65) hx hb dX10_workOut_58 (by decide) (fun hc58 => ?_) (fun hc58 => ?_)
      · replace h := tT hc58 h
        refine lv_iconst (v := 0) hx hb dX10_workOut_65 (by decide) ?_
        exact wX10_workOut_66 C hk33 h hH (lv_sub hl [2, 3, 4] rfl)
      · replace h := tF hc58 h
        refine lv_iconst (v := 1) hx hb dX10_workOut_61 (by decide) ?_
        refine lv_goto (tgt := 66) hx hb dX10_workOut_62 (by decide) ?_
        exact wX10_workOut_66 C hk33 h hH (lv_sub hl [2, 3, 4] rfl)
set_option maxHeartbeats 2000000 in
set_option maxRecDepth 20000 in
theorem wX10_workOut_33 (C : Cx D ca A p s m args meth c cX10_workOut RX10 8 (some .int)) {q : Int32 × Mm} : ∀ (N : Nat) (v3 : Int32) (v4 : Int32) (v5 : Int32) (mm : Mm), DX10_workOut_33 N v3 v4 v5 mm = some q → ∀ (H : Heap) (locs : List Loc) (ls : Array Slot), Hx WN ad ca WS D A s.heap mm H locs → lv_has ls 8 [(0, .ref (ad 58)), (3, .int v3), (4, .int v4), (5, .int v5)] → W p l e (rmk 104) s m args below meth c H locs 0 0 (MQ below (QcI WN ad ca WS D A pzT q) args s 0 0 A) (F0 m 33 ls []) := by
  intro N
  induction N with
  | zero =>
    intro v3 v4 v5 mm h
    have h2 : (none : Option (Int32 × Mm)) = some q := h
    cases h2
  | succ N ih =>
    intro v3 v4 v5 mm h H locs ls hH hl
    exact wbX10_workOut_33 C ih h hH hl
set_option maxHeartbeats 2000000 in
set_option maxRecDepth 20000 in
theorem mX10_workOut (l : Launch) {D : va_G} {ca : Nat → ClassId} {A : Nat → Prop} {ad : Nat → Nat} {v1 : Int32} {v2 : Int32} {mm : Mm} {q : Int32 × Mm} (h : dX10_workOut v1 v2 mm = some q) : Met l yX10_workOut (wsOf yX10_workOut cX10_workOut 8 (some .int)) (rmk 104) (PcX WN ad ca WS D A [.ref (ad 58), .int v1, .int v2] mm) (QcI WN ad ca WS D A pzT q) 0 0 A := by
  unfold dX10_workOut at h
  refine ent (by decide) (Nat.le_of_ble_eq_true rfl) (fun p e s m args below meth c hargs C hH ls hl => ?_)
  have hx := C.1
  have hb := C.2.1
  have hl : lv_has ls 8 [(0, .ref (ad 58)), (1, .int v1), (2, .int v2)] := hl
  refine lv_aload_n hx hb dX10_workOut_0 rfl (lv_at hl 0 rfl) ?_
  refine lv_iload_n hx hb dX10_workOut_1 rfl (lv_at hl 1 rfl) ?_
  refine rpI C hH fp_RX10_163_58 rfl rfl dX10_workOut_2 (fun H locs hH => ?_)
  refine lv_aload_n hx hb dX10_workOut_5 rfl (lv_at hl 0 rfl) ?_
  refine lv_iconst (v := 0) hx hb dX10_workOut_6 (by decide) ?_
  refine rpI C hH fp_RX10_157_58 rfl rfl dX10_workOut_7 (fun H locs hH => ?_)
  refine lv_aload_n hx hb dX10_workOut_10 rfl (lv_at hl 0 rfl) ?_
  refine lv_iload_n hx hb dX10_workOut_11 rfl (lv_at hl 2 rfl) ?_
  refine rpI C hH fp_RX10_160_58 rfl rfl dX10_workOut_12 (fun H locs hH => ?_)
  refine lv_aload_n hx hb dX10_workOut_15 rfl (lv_at hl 0 rfl) ?_
  refine lv_iconst (v := (-1)) hx hb dX10_workOut_16 (by decide) ?_
  refine rpI C hH fp_RX10_166_58 rfl rfl dX10_workOut_17 (fun H locs hH => ?_)
  refine lv_aload_n hx hb dX10_workOut_20 rfl (lv_at hl 0 rfl) ?_
  refine lv_iconst (v := 0) hx hb dX10_workOut_21 (by decide) ?_
  refine rpI C hH fp_RX10_191_58 rfl rfl dX10_workOut_22 (fun H locs hH => ?_)
  refine lv_iconst (v := 0) hx hb dX10_workOut_25 (by decide) ?_
  refine lv_istore_n (lv' := [(3, .int 0), (0, .ref (ad 58)), (1, .int v1), (2, .int v2)]) hx hb dX10_workOut_26 rfl hl (by decide) rfl (fun ls hl => ?_)
  refine lv_iconst (v := 0) hx hb dX10_workOut_27 (by decide) ?_
  refine lv_istore (lv' := [(4, .int 0), (3, .int 0), (0, .ref (ad 58)), (1, .int v1), (2, .int v2)]) hx hb dX10_workOut_28 hl (by decide) rfl (fun ls hl => ?_)
  refine lv_iconst (v := 1) hx hb dX10_workOut_30 (by decide) ?_
  refine lv_istore (lv' := [(5, .int 1), (4, .int 0), (3, .int 0), (0, .ref (ad 58)), (1, .int v1), (2, .int v2)]) hx hb dX10_workOut_31 hl (by decide) rfl (fun ls hl => ?_)
  exact wX10_workOut_33 C FU _ _ _ _ h _ _ _ hH (lv_sub hl [3, 2, 1, 0] rfl)
set_option maxHeartbeats 2000000 in
set_option maxRecDepth 20000 in
theorem wbX10_law_37 (C : Cx D ca A p s m args meth c cX10_law RX10 4 (some .int)) {q : Int32 × Mm} {k37 : Int32 → Int32 → Mm → Option (Int32 × Mm)} (hk37 : ∀ (v2 : Int32) (v3 : Int32) (mm : Mm), k37 v2 v3 mm = some q → ∀ (H : Heap) (locs : List Loc) (ls : Array Slot), Hx WN ad ca WS D A s.heap mm H locs → lv_has ls 4 [(0, .ref (ad 58)), (2, .int v2), (3, .int v3)] → W p l e (rmk 105) s m args below meth c H locs 0 0 (MQ below (QcI WN ad ca WS D A pzT q) args s 0 0 A) (F0 m 37 ls [])) {v2 : Int32} {v3 : Int32} {mm : Mm} (h : BX10_law_37 k37 v2 v3 mm = some q) (hH : Hx WN ad ca WS D A s.heap mm H locs) (hl : lv_has ls 4 [(0, .ref (ad 58)), (2, .int v2), (3, .int v3)]) : W p l e (rmk 105) s m args below meth c H locs 0 0 (MQ below (QcI WN ad ca WS D A pzT q) args s 0 0 A) (F0 m 37 ls []) := by
  unfold BX10_law_37 at h
  have hx := C.1
  have hb := C.2.1
  refine lv_iload_n hx hb dX10_law_37 rfl (lv_at hl 2 rfl) ?_
  refine lv_iload_n hx hb dX10_law_38 rfl (lv_at hl 1 rfl) ?_
  refine lv_icmp_ge (tgt := 60) hx hb dX10_law_39 (by decide) (fun hc39 => ?_) (fun hc39 => ?_)
  · replace h := tT hc39 h
    refine lv_aload_n hx hb dX10_law_60 rfl (lv_at hl 0 rfl) ?_
    refine lv_iload_n hx hb dX10_law_61 rfl (lv_at hl 1 rfl) ?_
    refine rpI C hH fp_RX10_84_58 rfl rfl dX10_law_62 (fun H locs hH => ?_)
    refine lv_iconst (v := 1) hx hb dX10_law_65 (by decide) ?_
    have h := Option.some.inj h
    subst h
    exact retI C hH trivial dX10_law_66
  · replace h := tF hc39 h
    refine lv_aload_n hx hb dX10_law_42 rfl (lv_at hl 0 rfl) ?_
    refine rgS C hH fs_RX10_32_58 dX10_law_43 ?_
    refine lv_iload_n hx hb dX10_law_46 rfl (lv_at hl 2 rfl) ?_
    refine lv_aload_n hx hb dX10_law_47 rfl (lv_at hl 0 rfl) ?_
    refine rgS C hH fs_RX10_29_58 dX10_law_48 ?_
    refine lv_iload_n hx hb dX10_law_51 rfl (lv_at hl 2 rfl) ?_
    obtain ⟨hi52, h⟩ := tC h
    refine raI C hH (k := (Int32.toNatClampNeg v3)) (by decide) (show WS 65 = .inr (0, 120, 0) from rfl) hi52 rfl dX10_law_52 ?_
    obtain ⟨hi53, h⟩ := tC h
    refine rwI C hH (k := (Int32.toNatClampNeg v3)) (by decide) (show WS 66 = .inr (0, 120, 0) from rfl) hi53 rfl dX10_law_53 (fun H locs hH => ?_)
    refine lv_iinc (v := (v3 + 1)) (lv' := [(3, .int (v3 + 1)), (0, .ref (ad 58)), (2, .int v2)]) hx hb dX10_law_54 hl (k := 2) rfl rfl (by decide) rfl (fun ls hl => ?_)
    refine lv_goto (tgt := 37) hx hb dX10_law_57 (by decide) ?_
    exact hk37 _ _ _ h _ _ _ hH (lv_sub hl [1, 2, 0] rfl)
set_option maxHeartbeats 2000000 in
set_option maxRecDepth 20000 in
theorem wX10_law_37 (C : Cx D ca A p s m args meth c cX10_law RX10 4 (some .int)) {q : Int32 × Mm} : ∀ (N : Nat) (v2 : Int32) (v3 : Int32) (mm : Mm), DX10_law_37 N v2 v3 mm = some q → ∀ (H : Heap) (locs : List Loc) (ls : Array Slot), Hx WN ad ca WS D A s.heap mm H locs → lv_has ls 4 [(0, .ref (ad 58)), (2, .int v2), (3, .int v3)] → W p l e (rmk 105) s m args below meth c H locs 0 0 (MQ below (QcI WN ad ca WS D A pzT q) args s 0 0 A) (F0 m 37 ls []) := by
  intro N
  induction N with
  | zero =>
    intro v2 v3 mm h
    have h2 : (none : Option (Int32 × Mm)) = some q := h
    cases h2
  | succ N ih =>
    intro v2 v3 mm h H locs ls hH hl
    exact wbX10_law_37 C ih h hH hl
set_option maxHeartbeats 2000000 in
set_option maxRecDepth 20000 in
theorem mX10_law (l : Launch) {D : va_G} {ca : Nat → ClassId} {A : Nat → Prop} {ad : Nat → Nat} {mm : Mm} {q : Int32 × Mm} (h : dX10_law mm = some q) : Met l yX10_law (wsOf yX10_law cX10_law 4 (some .int)) (rmk 105) (PcX WN ad ca WS D A [.ref (ad 58)] mm) (QcI WN ad ca WS D A pzT q) 0 0 A := by
  unfold dX10_law at h
  refine ent (by decide) (Nat.le_of_ble_eq_true rfl) (fun p e s m args below meth c hargs C hH ls hl => ?_)
  have hx := C.1
  have hb := C.2.1
  have hl : lv_has ls 4 [(0, .ref (ad 58))] := hl
  refine lv_aload_n hx hb dX10_law_0 rfl (lv_at hl 0 rfl) ?_
  refine lv_iconst (v := (-1)) hx hb dX10_law_1 (by decide) ?_
  refine lv_aload_n hx hb dX10_law_2 rfl (lv_at hl 0 rfl) ?_
  refine rgI C hH fi_RX10_154_58 dX10_law_3 ?_
  obtain ⟨q6, e6, h⟩ := tB h
  refine rcI C hH hl.1 (mX10_workOut l e6) cf_RX10_204 ro_58 (RR_of (by decide) (by decide)) rfl (rest := []) rfl (Nat.le_of_ble_eq_true rfl) dX10_law_6 ?_
  intro hz6 H locs hH
  refine lv_istore_n (lv' := [(1, .int q6.1), (0, .ref (ad 58))]) hx hb dX10_law_9 rfl hl (by decide) rfl (fun ls hl => ?_)
  refine lv_aload_n hx hb dX10_law_10 rfl (lv_at hl 1 rfl) ?_
  refine rgI C hH fi_RX10_154_58 dX10_law_11 ?_
  refine lv_istore_n (lv' := [(2, .int (gI q6.2 58 11)), (1, .int q6.1), (0, .ref (ad 58))]) hx hb dX10_law_14 rfl hl (by decide) rfl (fun ls hl => ?_)
  refine lv_aload_n hx hb dX10_law_15 rfl (lv_at hl 2 rfl) ?_
  refine lv_iconst (v := 0) hx hb dX10_law_16 (by decide) ?_
  refine rpI C hH fp_RX10_154_58 rfl rfl dX10_law_17 (fun H locs hH => ?_)
  refine lv_aload_n hx hb dX10_law_20 rfl (lv_at hl 2 rfl) ?_
  refine rgI C hH fi_RX10_166_58 dX10_law_21 ?_
  refine lv_if_lt (tgt := 35) hx hb dX10_law_24 (by decide) (fun hc24 => ?_) (fun hc24 => ?_)
  · replace h := tT hc24 h
    refine lv_iconst (v := 0) hx hb dX10_law_35 (by decide) ?_
    refine lv_istore_n (lv' := [(3, .int 0), (2, .int (gI q6.2 58 11)), (1, .int q6.1), (0, .ref (ad 58))]) hx hb dX10_law_36 rfl hl (by decide) rfl (fun ls hl => ?_)
    exact wX10_law_37 C FU _ _ _ h _ _ _ hH (lv_sub hl [3, 1, 0] rfl)
  · replace h := tF hc24 h
    refine lv_bipush (v := (-100)) hx hb dX10_law_27 (by decide) ?_
    refine lv_aload_n hx hb dX10_law_29 rfl (lv_at hl 2 rfl) ?_
    refine rgI C hH fi_RX10_166_58 dX10_law_30 ?_
    refine lv_isub hx hb dX10_law_33 ?_
    have h := Option.some.inj h
    subst h
    exact retI C hH trivial dX10_law_34
set_option maxHeartbeats 2000000 in
set_option maxRecDepth 20000 in
theorem wX9_isSackAndGood_38 (C : Cx D ca A p s m args meth c cX9_isSackAndGood RX9 2 (some .boolean)) {q : Int32 × Mm} {mm : Mm} (h : DX9_isSackAndGood_38 mm = some q) (hH : Hx WN ad ca WS D A s.heap mm H locs) (hl : lv_has ls 2 []) : W p l e (rmk 2) s m args below meth c H locs 0 0 (MQ below (QcI WN ad ca WS D A pzZ q) args s 0 0 A) (F0 m 38 ls []) := by
  unfold DX9_isSackAndGood_38 at h
  have hx := C.1
  have hb := C.2.1
  refine lv_iconst (v := 0) hx hb dX9_isSackAndGood_38 (by decide) ?_
  have h := Option.some.inj h
  subst h
  exact retZ C hH (Or.inl rfl) dX9_isSackAndGood_39
set_option maxHeartbeats 2000000 in
set_option maxRecDepth 20000 in
theorem mX9_isSackAndGood (l : Launch) {D : va_G} {ca : Nat → ClassId} {A : Nat → Prop} {ad : Nat → Nat} {v1 : Int32} {mm : Mm} {q : Int32 × Mm} (h : dX9_isSackAndGood v1 mm = some q) : Met l yX9_isSackAndGood (wsOf yX9_isSackAndGood cX9_isSackAndGood 2 (some .boolean)) (rmk 2) (PcX WN ad ca WS D A [.ref (ad 0), .int v1] mm) (QcI WN ad ca WS D A pzZ q) 0 0 A := by
  unfold dX9_isSackAndGood at h
  refine ent (by decide) (Nat.le_of_ble_eq_true rfl) (fun p e s m args below meth c hargs C hH ls hl => ?_)
  have hx := C.1
  have hb := C.2.1
  have hl : lv_has ls 2 [(0, .ref (ad 0)), (1, .int v1)] := hl
  refine lv_iload_n hx hb dX9_isSackAndGood_0 rfl (lv_at hl 1 rfl) ?_
  refine lv_if_lt (tgt := 38) hx hb dX9_isSackAndGood_1 (by decide) (fun hc1 => ?_) (fun hc1 => ?_)
  · replace h := tT hc1 h
    exact wX9_isSackAndGood_38 C h hH (lv_sub hl [] rfl)
  · replace h := tF hc1 h
    refine lv_aload_n hx hb dX9_isSackAndGood_4 rfl (lv_at hl 0 rfl) ?_
    refine rgS C hH fs_RX9_10_0 dX9_isSackAndGood_5 ?_
    refine lv_iconst (v := 4) hx hb dX9_isSackAndGood_8 (by decide) ?_
    refine lv_iload_n hx hb dX9_isSackAndGood_9 rfl (lv_at hl 1 rfl) ?_
    refine lv_bipush (v := 10) hx hb dX9_isSackAndGood_10 (by decide) ?_
    refine lv_idiv hx hb dX9_isSackAndGood_12 (by decide) ?_
    obtain ⟨q13, e13, h⟩ := tB h
    refine rcI C hH hl.1 (mX7_holds l e13) cf_RX9_67 ro_1 (RR_of (by decide) (by decide)) rfl (rest := []) rfl (Nat.le_of_ble_eq_true rfl) dX9_isSackAndGood_13 ?_
    intro hz13 H locs hH
    refine lv_if_eq (tgt := 38) hx hb dX9_isSackAndGood_16 (by decide) (fun hc16 => ?_) (fun hc16 => ?_)
    · replace h := tT hc16 h
      exact wX9_isSackAndGood_38 C h hH (lv_sub hl [] rfl)
    · replace h := tF hc16 h
      refine lv_aload_n hx hb dX9_isSackAndGood_19 rfl (lv_at hl 0 rfl) ?_
      refine rgS C hH fs_RX9_10_0 dX9_isSackAndGood_20 ?_
      refine lv_iconst (v := 0) hx hb dX9_isSackAndGood_23 (by decide) ?_
      refine lv_iload_n hx hb dX9_isSackAndGood_24 rfl (lv_at hl 1 rfl) ?_
      refine lv_bipush (v := 10) hx hb dX9_isSackAndGood_25 (by decide) ?_
      refine lv_irem' hx hb dX9_isSackAndGood_27 (by decide) ?_
      obtain ⟨q28, e28, h⟩ := tB h
      refine rcI C hH hl.1 (mX7_holds l e28) cf_RX9_67 ro_1 (RR_of (by decide) (by decide)) rfl (rest := []) rfl (Nat.le_of_ble_eq_true rfl) dX9_isSackAndGood_28 ?_
      intro hz28 H locs hH
      refine lv_if_eq (tgt := 38) hx hb dX9_isSackAndGood_31 (by decide) (fun hc31 => ?_) (fun hc31 => ?_)
      · replace h := tT hc31 h
        exact wX9_isSackAndGood_38 C h hH (lv_sub hl [] rfl)
      · replace h := tF hc31 h
        refine lv_iconst (v := 1) hx hb dX9_isSackAndGood_34 (by decide) ?_
        refine lv_goto (tgt := 39) hx hb dX9_isSackAndGood_35 (by decide) ?_
        have h := Option.some.inj h
        subst h
        exact retZ C hH (Or.inr rfl) dX9_isSackAndGood_39
set_option maxHeartbeats 2000000 in
set_option maxRecDepth 20000 in
theorem mX5_isTold (l : Launch) {D : va_G} {ca : Nat → ClassId} {A : Nat → Prop} {ad : Nat → Nat} {v0 : Nat} {mm : Mm} {q : Int32 × Mm} (h : dX5_isTold v0 mm = some q) : Met l yX5_isTold (wsOf yX5_isTold cX5_isTold 1 (some .boolean)) (rmk 1) (PcX WN ad ca WS D A [.ref (ad v0)] mm) (QcI WN ad ca WS D A pzZ q) 0 0 A := by
  unfold dX5_isTold at h
  refine ent (by decide) (Nat.le_of_ble_eq_true rfl) (fun p e s m args below meth c hargs C hH ls hl => ?_)
  have hx := C.1
  have hb := C.2.1
  have hl : lv_has ls 1 [(0, .ref (ad v0))] := hl
  obtain ⟨ho0, h⟩ := tC h
  refine lv_aload_n hx hb dX5_isTold_0 rfl (lv_at hl 0 rfl) ?_
  refine rgI C hH (fiLA_RX5_20 ho0) dX5_isTold_1 ?_
  refine lv_if_le (tgt := 11) hx hb dX5_isTold_4 (by decide) (fun hc4 => ?_) (fun hc4 => ?_)
  · replace h := tT hc4 h
    refine lv_iconst (v := 0) hx hb dX5_isTold_11 (by decide) ?_
    have h := Option.some.inj h
    subst h
    exact retZ C hH (Or.inl rfl) dX5_isTold_12
  · replace h := tF hc4 h
    refine lv_iconst (v := 1) hx hb dX5_isTold_7 (by decide) ?_
    refine lv_goto (tgt := 12) hx hb dX5_isTold_8 (by decide) ?_
    have h := Option.some.inj h
    subst h
    exact retZ C hH (Or.inr rfl) dX5_isTold_12
set_option maxHeartbeats 2000000 in
set_option maxRecDepth 20000 in
theorem wX7_soldNow_30 (C : Cx D ca A p s m args meth c cX7_soldNow RX7 3 (some .int)) {q : Int32 × Mm} {k4 : Int32 → Int32 → Mm → Option (Int32 × Mm)} (hk4 : ∀ (v1 : Int32) (v2 : Int32) (mm : Mm), k4 v1 v2 mm = some q → ∀ (H : Heap) (locs : List Loc) (ls : Array Slot), Hx WN ad ca WS D A s.heap mm H locs → lv_has ls 3 [(0, .ref (ad 1)), (1, .int v1), (2, .int v2)] → W p l e (rmk 1) s m args below meth c H locs 0 0 (MQ below (QcI WN ad ca WS D A pzT q) args s 0 0 A) (F0 m 4 ls [])) {v2 : Int32} {s0 : Int32} {s1 : Int32} {mm : Mm} (h : DX7_soldNow_30 k4 v2 s0 s1 mm = some q) (hH : Hx WN ad ca WS D A s.heap mm H locs) (hl : lv_has ls 3 [(0, .ref (ad 1)), (2, .int v2)]) : W p l e (rmk 1) s m args below meth c H locs 0 0 (MQ below (QcI WN ad ca WS D A pzT q) args s 0 0 A) (F0 m 30 ls [.int s0, .int s1]) := by
  unfold DX7_soldNow_30 at h
  have hx := C.1
  have hb := C.2.1
  refine lv_iadd hx hb dX7_soldNow_30 ?_
  refine lv_istore_n (lv' := [(1, .int (s1 + s0)), (0, .ref (ad 1)), (2, .int v2)]) hx hb dX7_soldNow_31 rfl hl (by decide) rfl (fun ls hl => ?_)
  refine lv_iinc (v := (v2 + 1)) (lv' := [(2, .int (v2 + 1)), (1, .int (s1 + s0)), (0, .ref (ad 1))]) hx hb dX7_soldNow_32 hl (k := 2) rfl rfl (by decide) rfl (fun ls hl => ?_)
  refine lv_goto (tgt := 4) hx hb dX7_soldNow_35 (by decide) ?_
  exact hk4 _ _ _ h _ _ _ hH (lv_sub hl [2, 1, 0] rfl)
set_option maxHeartbeats 2000000 in
set_option maxRecDepth 20000 in
theorem wbX7_soldNow_4 (C : Cx D ca A p s m args meth c cX7_soldNow RX7 3 (some .int)) {q : Int32 × Mm} {k4 : Int32 → Int32 → Mm → Option (Int32 × Mm)} (hk4 : ∀ (v1 : Int32) (v2 : Int32) (mm : Mm), k4 v1 v2 mm = some q → ∀ (H : Heap) (locs : List Loc) (ls : Array Slot), Hx WN ad ca WS D A s.heap mm H locs → lv_has ls 3 [(0, .ref (ad 1)), (1, .int v1), (2, .int v2)] → W p l e (rmk 1) s m args below meth c H locs 0 0 (MQ below (QcI WN ad ca WS D A pzT q) args s 0 0 A) (F0 m 4 ls [])) {v1 : Int32} {v2 : Int32} {mm : Mm} (h : BX7_soldNow_4 k4 v1 v2 mm = some q) (hH : Hx WN ad ca WS D A s.heap mm H locs) (hl : lv_has ls 3 [(0, .ref (ad 1)), (1, .int v1), (2, .int v2)]) : W p l e (rmk 1) s m args below meth c H locs 0 0 (MQ below (QcI WN ad ca WS D A pzT q) args s 0 0 A) (F0 m 4 ls []) := by
  unfold BX7_soldNow_4 at h
  have hx := C.1
  have hb := C.2.1
  refine lv_iload_n hx hb dX7_soldNow_4 rfl (lv_at hl 2 rfl) ?_
  refine lv_aload_n hx hb dX7_soldNow_5 rfl (lv_at hl 0 rfl) ?_
  refine rgI C hH fi_RX7_31_1 dX7_soldNow_6 ?_
  refine lv_icmp_ge (tgt := 38) hx hb dX7_soldNow_9 (by decide) (fun hc9 => ?_) (fun hc9 => ?_)
  · replace h := tT hc9 h
    refine lv_iload_n hx hb dX7_soldNow_38 rfl (lv_at hl 1 rfl) ?_
    have h := Option.some.inj h
    subst h
    exact retI C hH trivial dX7_soldNow_39
  · replace h := tF hc9 h
    refine lv_iload_n hx hb dX7_soldNow_12 rfl (lv_at hl 1 rfl) ?_
    refine lv_aload_n hx hb dX7_soldNow_13 rfl (lv_at hl 0 rfl) ?_
    refine rgS C hH fs_RX7_11_1 dX7_soldNow_14 ?_
    refine lv_bipush (v := 9) hx hb dX7_soldNow_17 (by decide) ?_
    refine raG C hH (o := 2) (k := 9) (by decide) (show WS 2 = .inr (5, 11, 3) from rfl) (show inB 9 11 from by decide) (by decide) dX7_soldNow_19 ?_
    show W _ _ _ _ _ _ _ _ _ _ _ _ _ _ _ (F0 _ _ _ (.ref (ad 12) :: _))
    refine lv_iload_n hx hb dX7_soldNow_20 rfl (lv_at hl 2 rfl) ?_
    obtain ⟨hi21, h⟩ := tC h
    refine raI C hH (k := (Int32.toNatClampNeg v2)) (by decide) (show WS 12 = .inr (0, 10, 0) from rfl) hi21 rfl dX7_soldNow_21 ?_
    refine lv_if_lt (tgt := 29) hx hb dX7_soldNow_22 (by decide) (fun hc22 => ?_) (fun hc22 => ?_)
    · replace h := tT hc22 h
      refine lv_iconst (v := 0) hx hb dX7_soldNow_29 (by decide) ?_
      exact wX7_soldNow_30 C hk4 h hH (lv_sub hl [0, 2] rfl)
    · replace h := tF hc22 h
      refine lv_iconst (v := 1) hx hb dX7_soldNow_25 (by decide) ?_
      refine lv_goto (tgt := 30) hx hb dX7_soldNow_26 (by decide) ?_
      exact wX7_soldNow_30 C hk4 h hH (lv_sub hl [0, 2] rfl)
set_option maxHeartbeats 2000000 in
set_option maxRecDepth 20000 in
theorem wX7_soldNow_4 (C : Cx D ca A p s m args meth c cX7_soldNow RX7 3 (some .int)) {q : Int32 × Mm} : ∀ (N : Nat) (v1 : Int32) (v2 : Int32) (mm : Mm), DX7_soldNow_4 N v1 v2 mm = some q → ∀ (H : Heap) (locs : List Loc) (ls : Array Slot), Hx WN ad ca WS D A s.heap mm H locs → lv_has ls 3 [(0, .ref (ad 1)), (1, .int v1), (2, .int v2)] → W p l e (rmk 1) s m args below meth c H locs 0 0 (MQ below (QcI WN ad ca WS D A pzT q) args s 0 0 A) (F0 m 4 ls []) := by
  intro N
  induction N with
  | zero =>
    intro v1 v2 mm h
    have h2 : (none : Option (Int32 × Mm)) = some q := h
    cases h2
  | succ N ih =>
    intro v1 v2 mm h H locs ls hH hl
    exact wbX7_soldNow_4 C ih h hH hl
set_option maxHeartbeats 2000000 in
set_option maxRecDepth 20000 in
theorem mX7_soldNow (l : Launch) {D : va_G} {ca : Nat → ClassId} {A : Nat → Prop} {ad : Nat → Nat} {mm : Mm} {q : Int32 × Mm} (h : dX7_soldNow mm = some q) : Met l yX7_soldNow (wsOf yX7_soldNow cX7_soldNow 3 (some .int)) (rmk 1) (PcX WN ad ca WS D A [.ref (ad 1)] mm) (QcI WN ad ca WS D A pzT q) 0 0 A := by
  unfold dX7_soldNow at h
  refine ent (by decide) (Nat.le_of_ble_eq_true rfl) (fun p e s m args below meth c hargs C hH ls hl => ?_)
  have hx := C.1
  have hb := C.2.1
  have hl : lv_has ls 3 [(0, .ref (ad 1))] := hl
  refine lv_iconst (v := 0) hx hb dX7_soldNow_0 (by decide) ?_
  refine lv_istore_n (lv' := [(1, .int 0), (0, .ref (ad 1))]) hx hb dX7_soldNow_1 rfl hl (by decide) rfl (fun ls hl => ?_)
  refine lv_iconst (v := 0) hx hb dX7_soldNow_2 (by decide) ?_
  refine lv_istore_n (lv' := [(2, .int 0), (1, .int 0), (0, .ref (ad 1))]) hx hb dX7_soldNow_3 rfl hl (by decide) rfl (fun ls hl => ?_)
  exact wX7_soldNow_4 C FU _ _ _ h _ _ _ hH (lv_sub hl [2, 1, 0] rfl)
set_option maxHeartbeats 2000000 in
set_option maxRecDepth 20000 in
theorem wX5_joined_118 (C : Cx D ca A p s m args meth c cX5_joined RX5 3 (some .int)) {q : Int32 × Mm} {mm : Mm} (h : DX5_joined_118 mm = some q) (hH : Hx WN ad ca WS D A s.heap mm H locs) (hl : lv_has ls 3 []) : W p l e (rmk 1) s m args below meth c H locs 0 0 (MQ below (QcI WN ad ca WS D A pzT q) args s 0 0 A) (F0 m 118 ls []) := by
  unfold DX5_joined_118 at h
  have hx := C.1
  have hb := C.2.1
  refine lv_iconst (v := 0) hx hb dX5_joined_118 (by decide) ?_
  have h := Option.some.inj h
  subst h
  exact retI C hH trivial dX5_joined_119
set_option maxHeartbeats 2000000 in
set_option maxRecDepth 20000 in
theorem wX5_joined_100 (C : Cx D ca A p s m args meth c cX5_joined RX5 3 (some .int)) {q : Int32 × Mm} {mm : Mm} (h : DX5_joined_100 mm = some q) (hH : Hx WN ad ca WS D A s.heap mm H locs) (hl : lv_has ls 3 []) : W p l e (rmk 1) s m args below meth c H locs 0 0 (MQ below (QcI WN ad ca WS D A pzT q) args s 0 0 A) (F0 m 100 ls []) := by
  unfold DX5_joined_100 at h
  have hx := C.1
  have hb := C.2.1
  refine lv_iconst (v := 1) hx hb dX5_joined_100 (by decide) ?_
  refine lv_goto (tgt := 105) hx hb dX5_joined_101 (by decide) ?_
  have h := Option.some.inj h
  subst h
  exact retI C hH trivial dX5_joined_105
set_option maxHeartbeats 2000000 in
set_option maxRecDepth 20000 in
theorem mX5_joined (l : Launch) {D : va_G} {ca : Nat → ClassId} {A : Nat → Prop} {ad : Nat → Nat} {v0 : Int32} {v1 : Int32} {v2 : Int32} {mm : Mm} {q : Int32 × Mm} (h : dX5_joined v0 v1 v2 mm = some q) : Met l yX5_joined (wsOf yX5_joined cX5_joined 3 (some .int)) (rmk 1) (PcX WN ad ca WS D A [.int v0, .int v1, .int v2] mm) (QcI WN ad ca WS D A pzT q) 0 0 A := by
  unfold dX5_joined at h
  refine ent (by decide) (Nat.le_of_ble_eq_true rfl) (fun p e s m args below meth c hargs C hH ls hl => ?_)
  have hx := C.1
  have hb := C.2.1
  have hl : lv_has ls 3 [(0, .int v0), (1, .int v1), (2, .int v2)] := hl
  refine lv_iload_n hx hb dX5_joined_0 rfl (lv_at hl 0 rfl) ?_
  by_cases hc1_37 : v0 = 37
  · replace h := tT hc1_37 h
    refine lv_lookup (tgt := 177) hx hb dX5_joined_1 (by decide) (by first | (rw [hc1_37]; done) | (rw [hc1_37]; rfl)) (by decide) ?_
    refine lv_iload_n hx hb dX5_joined_177 rfl (lv_at hl 2 rfl) ?_
    refine lv_if_ne (tgt := 185) hx hb dX5_joined_178 (by decide) (fun hc178 => ?_) (fun hc178 => ?_)
    · replace h := tF hc178 h
      refine lv_iload_n hx hb dX5_joined_185 rfl (lv_at hl 1 rfl) ?_
      refine lv_iload_n hx hb dX5_joined_186 rfl (lv_at hl 2 rfl) ?_
      obtain ⟨hz187, h⟩ := tN h
      refine lv_irem' hx hb dX5_joined_187 hz187 ?_
      have h := Option.some.inj h
      subst h
      exact retI C hH trivial dX5_joined_188
    · replace h := tT hc178 h
      refine lv_iconst (v := 0) hx hb dX5_joined_181 (by decide) ?_
      refine lv_goto (tgt := 188) hx hb dX5_joined_182 (by decide) ?_
      have h := Option.some.inj h
      subst h
      exact retI C hH trivial dX5_joined_188
  · replace h := tF hc1_37 h
    by_cases hc1_38 : v0 = 38
    · replace h := tT hc1_38 h
      refine lv_lookup (tgt := 106) hx hb dX5_joined_1 (by decide) (by first | (rw [hc1_38]; done) | (rw [hc1_38]; rfl)) (by decide) ?_
      refine lv_iload_n hx hb dX5_joined_106 rfl (lv_at hl 1 rfl) ?_
      refine lv_if_eq (tgt := 118) hx hb dX5_joined_107 (by decide) (fun hc107 => ?_) (fun hc107 => ?_)
      · replace h := tT hc107 h
        exact wX5_joined_118 C h hH (lv_sub hl [] rfl)
      · replace h := tF hc107 h
        refine lv_iload_n hx hb dX5_joined_110 rfl (lv_at hl 2 rfl) ?_
        refine lv_if_eq (tgt := 118) hx hb dX5_joined_111 (by decide) (fun hc111 => ?_) (fun hc111 => ?_)
        · replace h := tT hc111 h
          exact wX5_joined_118 C h hH (lv_sub hl [] rfl)
        · replace h := tF hc111 h
          refine lv_iconst (v := 1) hx hb dX5_joined_114 (by decide) ?_
          refine lv_goto (tgt := 119) hx hb dX5_joined_115 (by decide) ?_
          have h := Option.some.inj h
          subst h
          exact retI C hH trivial dX5_joined_119
    · replace h := tF hc1_38 h
      by_cases hc1_42 : v0 = 42
      · replace h := tT hc1_42 h
        refine lv_lookup (tgt := 161) hx hb dX5_joined_1 (by decide) (by first | (rw [hc1_42]; done) | (rw [hc1_42]; rfl)) (by decide) ?_
        refine lv_iload_n hx hb dX5_joined_161 rfl (lv_at hl 1 rfl) ?_
        refine lv_iload_n hx hb dX5_joined_162 rfl (lv_at hl 2 rfl) ?_
        refine lv_imul hx hb dX5_joined_163 ?_
        have h := Option.some.inj h
        subst h
        exact retI C hH trivial dX5_joined_164
      · replace h := tF hc1_42 h
        by_cases hc1_43 : v0 = 43
        · replace h := tT hc1_43 h
          refine lv_lookup (tgt := 153) hx hb dX5_joined_1 (by decide) (by first | (rw [hc1_43]; done) | (rw [hc1_43]; rfl)) (by decide) ?_
          refine lv_iload_n hx hb dX5_joined_153 rfl (lv_at hl 1 rfl) ?_
          refine lv_iload_n hx hb dX5_joined_154 rfl (lv_at hl 2 rfl) ?_
          refine lv_iadd hx hb dX5_joined_155 ?_
          have h := Option.some.inj h
          subst h
          exact retI C hH trivial dX5_joined_156
        · replace h := tF hc1_43 h
          by_cases hc1_45 : v0 = 45
          · replace h := tT hc1_45 h
            refine lv_lookup (tgt := 157) hx hb dX5_joined_1 (by decide) (by first | (rw [hc1_45]; done) | (rw [hc1_45]; rfl)) (by decide) ?_
            refine lv_iload_n hx hb dX5_joined_157 rfl (lv_at hl 1 rfl) ?_
            refine lv_iload_n hx hb dX5_joined_158 rfl (lv_at hl 2 rfl) ?_
            refine lv_isub hx hb dX5_joined_159 ?_
            have h := Option.some.inj h
            subst h
            exact retI C hH trivial dX5_joined_160
          · replace h := tF hc1_45 h
            by_cases hc1_47 : v0 = 47
            · replace h := tT hc1_47 h
              refine lv_lookup (tgt := 165) hx hb dX5_joined_1 (by decide) (by first | (rw [hc1_47]; done) | (rw [hc1_47]; rfl)) (by decide) ?_
              refine lv_iload_n hx hb dX5_joined_165 rfl (lv_at hl 2 rfl) ?_
              refine lv_if_ne (tgt := 173) hx hb dX5_joined_166 (by decide) (fun hc166 => ?_) (fun hc166 => ?_)
              · replace h := tF hc166 h
                refine lv_iload_n hx hb dX5_joined_173 rfl (lv_at hl 1 rfl) ?_
                refine lv_iload_n hx hb dX5_joined_174 rfl (lv_at hl 2 rfl) ?_
                obtain ⟨hz175, h⟩ := tN h
                refine lv_idiv hx hb dX5_joined_175 hz175 ?_
                have h := Option.some.inj h
                subst h
                exact retI C hH trivial dX5_joined_176
              · replace h := tT hc166 h
                refine lv_iconst (v := 0) hx hb dX5_joined_169 (by decide) ?_
                refine lv_goto (tgt := 176) hx hb dX5_joined_170 (by decide) ?_
                have h := Option.some.inj h
                subst h
                exact retI C hH trivial dX5_joined_176
            · replace h := tF hc1_47 h
              by_cases hc1_60 : v0 = 60
              · replace h := tT hc1_60 h
                refine lv_lookup (tgt := 120) hx hb dX5_joined_1 (by decide) (by first | (rw [hc1_60]; done) | (rw [hc1_60]; rfl)) (by decide) ?_
                refine lv_iload_n hx hb dX5_joined_120 rfl (lv_at hl 1 rfl) ?_
                refine lv_iload_n hx hb dX5_joined_121 rfl (lv_at hl 2 rfl) ?_
                refine lv_icmp_ge (tgt := 129) hx hb dX5_joined_122 (by decide) (fun hc122 => ?_) (fun hc122 => ?_)
                · replace h := tT hc122 h
                  refine lv_iconst (v := 0) hx hb dX5_joined_129 (by decide) ?_
                  have h := Option.some.inj h
                  subst h
                  exact retI C hH trivial dX5_joined_130
                · replace h := tF hc122 h
                  refine lv_iconst (v := 1) hx hb dX5_joined_125 (by decide) ?_
                  refine lv_goto (tgt := 130) hx hb dX5_joined_126 (by decide) ?_
                  have h := Option.some.inj h
                  subst h
                  exact retI C hH trivial dX5_joined_130
              · replace h := tF hc1_60 h
                by_cases hc1_61 : v0 = 61
                · replace h := tT hc1_61 h
                  refine lv_lookup (tgt := 131) hx hb dX5_joined_1 (by decide) (by first | (rw [hc1_61]; done) | (rw [hc1_61]; rfl)) (by decide) ?_
                  refine lv_iload_n hx hb dX5_joined_131 rfl (lv_at hl 1 rfl) ?_
                  refine lv_iload_n hx hb dX5_joined_132 rfl (lv_at hl 2 rfl) ?_
                  refine lv_icmp_ne (tgt := 140) hx hb dX5_joined_133 (by decide) (fun hc133 => ?_) (fun hc133 => ?_)
                  · replace h := tF hc133 h
                    refine lv_iconst (v := 0) hx hb dX5_joined_140 (by decide) ?_
                    have h := Option.some.inj h
                    subst h
                    exact retI C hH trivial dX5_joined_141
                  · replace h := tT hc133 h
                    refine lv_iconst (v := 1) hx hb dX5_joined_136 (by decide) ?_
                    refine lv_goto (tgt := 141) hx hb dX5_joined_137 (by decide) ?_
                    have h := Option.some.inj h
                    subst h
                    exact retI C hH trivial dX5_joined_141
                · replace h := tF hc1_61 h
                  by_cases hc1_62 : v0 = 62
                  · replace h := tT hc1_62 h
                    refine lv_lookup (tgt := 142) hx hb dX5_joined_1 (by decide) (by first | (rw [hc1_62]; done) | (rw [hc1_62]; rfl)) (by decide) ?_
                    refine lv_iload_n hx hb dX5_joined_142 rfl (lv_at hl 1 rfl) ?_
                    refine lv_iload_n hx hb dX5_joined_143 rfl (lv_at hl 2 rfl) ?_
                    refine lv_icmp_le (tgt := 151) hx hb dX5_joined_144 (by decide) (fun hc144 => ?_) (fun hc144 => ?_)
                    · replace h := tT hc144 h
                      refine lv_iconst (v := 0) hx hb dX5_joined_151 (by decide) ?_
                      have h := Option.some.inj h
                      subst h
                      exact retI C hH trivial dX5_joined_152
                    · replace h := tF hc144 h
                      refine lv_iconst (v := 1) hx hb dX5_joined_147 (by decide) ?_
                      refine lv_goto (tgt := 152) hx hb dX5_joined_148 (by decide) ?_
                      have h := Option.some.inj h
                      subst h
                      exact retI C hH trivial dX5_joined_152
                  · replace h := tF hc1_62 h
                    by_cases hc1_124 : v0 = 124
                    · replace h := tT hc1_124 h
                      refine lv_lookup (tgt := 92) hx hb dX5_joined_1 (by decide) (by first | (rw [hc1_124]; done) | (rw [hc1_124]; rfl)) (by decide) ?_
                      refine lv_iload_n hx hb dX5_joined_92 rfl (lv_at hl 1 rfl) ?_
                      refine lv_if_ne (tgt := 100) hx hb dX5_joined_93 (by decide) (fun hc93 => ?_) (fun hc93 => ?_)
                      · replace h := tF hc93 h
                        exact wX5_joined_100 C h hH (lv_sub hl [] rfl)
                      · replace h := tT hc93 h
                        refine lv_iload_n hx hb dX5_joined_96 rfl (lv_at hl 2 rfl) ?_
                        refine lv_if_eq (tgt := 104) hx hb dX5_joined_97 (by decide) (fun hc97 => ?_) (fun hc97 => ?_)
                        · replace h := tT hc97 h
                          refine lv_iconst (v := 0) hx hb dX5_joined_104 (by decide) ?_
                          have h := Option.some.inj h
                          subst h
                          exact retI C hH trivial dX5_joined_105
                        · replace h := tF hc97 h
                          exact wX5_joined_100 C h hH (lv_sub hl [] rfl)
                    · replace h := tF hc1_124 h
                      refine lv_lookup (tgt := 189) hx hb dX5_joined_1 (by decide) (off := 188) (by rw [lv_osw (k := 37) (a := 37) hc1_37 rfl]; rw [lv_osw (k := 38) (a := 38) hc1_38 rfl]; rw [lv_osw (k := 42) (a := 42) hc1_42 rfl]; rw [lv_osw (k := 43) (a := 43) hc1_43 rfl]; rw [lv_osw (k := 45) (a := 45) hc1_45 rfl]; rw [lv_osw (k := 47) (a := 47) hc1_47 rfl]; rw [lv_osw (k := 60) (a := 60) hc1_60 rfl]; rw [lv_osw (k := 61) (a := 61) hc1_61 rfl]; rw [lv_osw (k := 62) (a := 62) hc1_62 rfl]; rw [lv_osw (k := 124) (a := 124) hc1_124 rfl]; try rfl) (by decide) ?_
                      refine lv_iconst (v := 0) hx hb dX5_joined_189 (by decide) ?_
                      have h := Option.some.inj h
                      subst h
                      exact retI C hH trivial dX5_joined_190
set_option maxHeartbeats 2000000 in
set_option maxRecDepth 20000 in
theorem wX5_value_282 (C : Cx D ca A p s m args meth c cX5_value RX5 6 (some .int)) {q : Int32 × Mm} {mm : Mm} (h : DX5_value_282 mm = some q) (hH : Hx WN ad ca WS D A s.heap mm H locs) (hl : lv_has ls 6 []) : W p l e (rmk 2) s m args below meth c H locs 0 0 (MQ below (QcI WN ad ca WS D A pzT q) args s 0 0 A) (F0 m 282 ls []) := by
  unfold DX5_value_282 at h
  have hx := C.1
  have hb := C.2.1
  refine lv_iconst (v := 0) hx hb dX5_value_282 (by decide) ?_
  have h := Option.some.inj h
  subst h
  exact retI C hH trivial dX5_value_283
set_option maxHeartbeats 2000000 in
set_option maxRecDepth 20000 in
theorem wX5_value_276 (C : Cx D ca A p s m args meth c cX5_value RX5 6 (some .int)) {q : Int32 × Mm} {k7 : Nat → Int32 → Int32 → Int32 → Mm → Option (Int32 × Mm)} (hk7 : ∀ (v0 : Nat) (v2 : Int32) (v3 : Int32) (v4 : Int32) (mm : Mm), k7 v0 v2 v3 v4 mm = some q → isLa v0 → ∀ (H : Heap) (locs : List Loc) (ls : Array Slot), Hx WN ad ca WS D A s.heap mm H locs → lv_has ls 6 [(0, .ref (ad v0)), (1, .ref (ad 14)), (2, .int v2), (3, .int v3), (4, .int v4)] → W p l e (rmk 2) s m args below meth c H locs 0 0 (MQ below (QcI WN ad ca WS D A pzT q) args s 0 0 A) (F0 m 7 ls [])) {v0 : Nat} {v2 : Int32} {v3 : Int32} {v4 : Int32} {mm : Mm} (ho0 : isLa v0) (h : DX5_value_276 k7 v0 v2 v3 v4 mm = some q) (hH : Hx WN ad ca WS D A s.heap mm H locs) (hl : lv_has ls 6 [(0, .ref (ad v0)), (1, .ref (ad 14)), (2, .int v2), (3, .int v3), (4, .int v4)]) : W p l e (rmk 2) s m args below meth c H locs 0 0 (MQ below (QcI WN ad ca WS D A pzT q) args s 0 0 A) (F0 m 276 ls []) := by
  unfold DX5_value_276 at h
  have hx := C.1
  have hb := C.2.1
  refine lv_iinc (v := (v4 + 1)) (lv' := [(4, .int (v4 + 1)), (0, .ref (ad v0)), (1, .ref (ad 14)), (2, .int v2), (3, .int v3)]) hx hb dX5_value_276 hl (k := 4) rfl rfl (by decide) rfl (fun ls hl => ?_)
  refine lv_goto (tgt := 7) hx hb dX5_value_279 (by decide) ?_
  exact hk7 _ _ _ _ _ h ho0 _ _ _ hH (lv_sub hl [1, 2, 3, 4, 0] rfl)
set_option maxHeartbeats 2000000 in
set_option maxRecDepth 20000 in
theorem wX5_value_235 (C : Cx D ca A p s m args meth c cX5_value RX5 6 (some .int)) {q : Int32 × Mm} {k7 : Nat → Int32 → Int32 → Int32 → Mm → Option (Int32 × Mm)} (hk7 : ∀ (v0 : Nat) (v2 : Int32) (v3 : Int32) (v4 : Int32) (mm : Mm), k7 v0 v2 v3 v4 mm = some q → isLa v0 → ∀ (H : Heap) (locs : List Loc) (ls : Array Slot), Hx WN ad ca WS D A s.heap mm H locs → lv_has ls 6 [(0, .ref (ad v0)), (1, .ref (ad 14)), (2, .int v2), (3, .int v3), (4, .int v4)] → W p l e (rmk 2) s m args below meth c H locs 0 0 (MQ below (QcI WN ad ca WS D A pzT q) args s 0 0 A) (F0 m 7 ls [])) {v0 : Nat} {v2 : Int32} {v3 : Int32} {v4 : Int32} {s0 : Int32} {s1 : Int32} {s2 : Nat} {mm : Mm} (ho0 : isLa v0) (hs2 : s2 < WN ∧ WS s2 = .inr (0, 128, 0)) (h : DX5_value_235 k7 v0 v2 v3 v4 s0 s1 s2 mm = some q) (hH : Hx WN ad ca WS D A s.heap mm H locs) (hl : lv_has ls 6 [(0, .ref (ad v0)), (1, .ref (ad 14)), (2, .int v2), (3, .int v3), (4, .int v4)]) : W p l e (rmk 2) s m args below meth c H locs 0 0 (MQ below (QcI WN ad ca WS D A pzT q) args s 0 0 A) (F0 m 235 ls [.int s0, .int s1, .ref (ad s2)]) := by
  unfold DX5_value_235 at h
  have hx := C.1
  have hb := C.2.1
  obtain ⟨hi235, h⟩ := tC h
  refine rwI C hH (k := (Int32.toNatClampNeg s1)) hs2.1 hs2.2 hi235 rfl dX5_value_235 (fun H locs hH => ?_)
  refine lv_goto (tgt := 276) hx hb dX5_value_236 (by decide) ?_
  exact wX5_value_276 C hk7 ho0 h hH (lv_sub hl [0, 1, 2, 3, 4] rfl)
set_option maxHeartbeats 2000000 in
set_option maxRecDepth 20000 in
theorem wX5_value_193 (C : Cx D ca A p s m args meth c cX5_value RX5 6 (some .int)) {q : Int32 × Mm} {k7 : Nat → Int32 → Int32 → Int32 → Mm → Option (Int32 × Mm)} (hk7 : ∀ (v0 : Nat) (v2 : Int32) (v3 : Int32) (v4 : Int32) (mm : Mm), k7 v0 v2 v3 v4 mm = some q → isLa v0 → ∀ (H : Heap) (locs : List Loc) (ls : Array Slot), Hx WN ad ca WS D A s.heap mm H locs → lv_has ls 6 [(0, .ref (ad v0)), (1, .ref (ad 14)), (2, .int v2), (3, .int v3), (4, .int v4)] → W p l e (rmk 2) s m args below meth c H locs 0 0 (MQ below (QcI WN ad ca WS D A pzT q) args s 0 0 A) (F0 m 7 ls [])) {v0 : Nat} {v2 : Int32} {v3 : Int32} {v4 : Int32} {v5 : Int32} {mm : Mm} (ho0 : isLa v0) (h : DX5_value_193 k7 v0 v2 v3 v4 v5 mm = some q) (hH : Hx WN ad ca WS D A s.heap mm H locs) (hl : lv_has ls 6 [(0, .ref (ad v0)), (1, .ref (ad 14)), (2, .int v2), (3, .int v3), (4, .int v4), (5, .int v5)]) : W p l e (rmk 2) s m args below meth c H locs 0 0 (MQ below (QcI WN ad ca WS D A pzT q) args s 0 0 A) (F0 m 193 ls []) := by
  unfold DX5_value_193 at h
  have hx := C.1
  have hb := C.2.1
  refine lv_aload_n hx hb dX5_value_193 rfl (lv_at hl 0 rfl) ?_
  refine rgS C hH (fsLA_RX5_17 ho0) dX5_value_194 ?_
  refine lv_iload_n hx hb dX5_value_197 rfl (lv_at hl 2 rfl) ?_
  refine lv_iconst (v := 1) hx hb dX5_value_198 (by decide) ?_
  refine lv_isub hx hb dX5_value_199 ?_
  refine lv_iload hx hb dX5_value_200 (lv_at hl 5 rfl) ?_
  refine lv_bipush (v := 126) hx hb dX5_value_202 (by decide) ?_
  refine lv_icmp_ne (tgt := 219) hx hb dX5_value_204 (by decide) (fun hc204 => ?_) (fun hc204 => ?_)
  · replace h := tF hc204 h
    refine lv_aload_n hx hb dX5_value_219 rfl (lv_at hl 0 rfl) ?_
    refine rgS C hH (fsLA_RX5_17 ho0) dX5_value_220 ?_
    refine lv_iload_n hx hb dX5_value_223 rfl (lv_at hl 2 rfl) ?_
    refine lv_iconst (v := 1) hx hb dX5_value_224 (by decide) ?_
    refine lv_isub hx hb dX5_value_225 ?_
    obtain ⟨hi226, h⟩ := tC h
    refine raI C hH (k := (Int32.toNatClampNeg (v2 - 1))) (la_lt ho0 3 (by decide)) (laE ho0).2.2.2.2.2 hi226 rfl dX5_value_226 ?_
    refine lv_if_ne (tgt := 234) hx hb dX5_value_227 (by decide) (fun hc227 => ?_) (fun hc227 => ?_)
    · replace h := tF hc227 h
      refine lv_iconst (v := 0) hx hb dX5_value_234 (by decide) ?_
      exact wX5_value_235 C hk7 ho0 ⟨(la_lt ho0 3 (by decide)), (laE ho0).2.2.2.2.2⟩ h hH (lv_sub hl [0, 1, 2, 3, 4] rfl)
    · replace h := tT hc227 h
      refine lv_iconst (v := 1) hx hb dX5_value_230 (by decide) ?_
      refine lv_goto (tgt := 235) hx hb dX5_value_231 (by decide) ?_
      exact wX5_value_235 C hk7 ho0 ⟨(la_lt ho0 3 (by decide)), (laE ho0).2.2.2.2.2⟩ h hH (lv_sub hl [0, 1, 2, 3, 4] rfl)
  · replace h := tT hc204 h
    refine lv_aload_n hx hb dX5_value_207 rfl (lv_at hl 0 rfl) ?_
    refine rgS C hH (fsLA_RX5_17 ho0) dX5_value_208 ?_
    refine lv_iload_n hx hb dX5_value_211 rfl (lv_at hl 2 rfl) ?_
    refine lv_iconst (v := 1) hx hb dX5_value_212 (by decide) ?_
    refine lv_isub hx hb dX5_value_213 ?_
    obtain ⟨hi214, h⟩ := tC h
    refine raI C hH (k := (Int32.toNatClampNeg (v2 - 1))) (la_lt ho0 3 (by decide)) (laE ho0).2.2.2.2.2 hi214 rfl dX5_value_214 ?_
    refine lv_ineg hx hb dX5_value_215 ?_
    refine lv_goto (tgt := 235) hx hb dX5_value_216 (by decide) ?_
    exact wX5_value_235 C hk7 ho0 ⟨(la_lt ho0 3 (by decide)), (laE ho0).2.2.2.2.2⟩ h hH (lv_sub hl [0, 1, 2, 3, 4] rfl)
set_option maxHeartbeats 2000000 in
set_option maxRecDepth 20000 in
theorem wX5_value_175 (C : Cx D ca A p s m args meth c cX5_value RX5 6 (some .int)) {q : Int32 × Mm} {k7 : Nat → Int32 → Int32 → Int32 → Mm → Option (Int32 × Mm)} (hk7 : ∀ (v0 : Nat) (v2 : Int32) (v3 : Int32) (v4 : Int32) (mm : Mm), k7 v0 v2 v3 v4 mm = some q → isLa v0 → ∀ (H : Heap) (locs : List Loc) (ls : Array Slot), Hx WN ad ca WS D A s.heap mm H locs → lv_has ls 6 [(0, .ref (ad v0)), (1, .ref (ad 14)), (2, .int v2), (3, .int v3), (4, .int v4)] → W p l e (rmk 2) s m args below meth c H locs 0 0 (MQ below (QcI WN ad ca WS D A pzT q) args s 0 0 A) (F0 m 7 ls [])) {v0 : Nat} {v2 : Int32} {v4 : Int32} {s0 : Int32} {mm : Mm} (ho0 : isLa v0) (h : DX5_value_175 k7 v0 v2 v4 s0 mm = some q) (hH : Hx WN ad ca WS D A s.heap mm H locs) (hl : lv_has ls 6 [(0, .ref (ad v0)), (1, .ref (ad 14)), (2, .int v2), (4, .int v4)]) : W p l e (rmk 2) s m args below meth c H locs 0 0 (MQ below (QcI WN ad ca WS D A pzT q) args s 0 0 A) (F0 m 175 ls [.int s0]) := by
  unfold DX5_value_175 at h
  have hx := C.1
  have hb := C.2.1
  refine lv_istore_n (lv' := [(3, .int s0), (0, .ref (ad v0)), (1, .ref (ad 14)), (2, .int v2), (4, .int v4)]) hx hb dX5_value_175 rfl hl (by decide) rfl (fun ls hl => ?_)
  refine lv_goto (tgt := 276) hx hb dX5_value_176 (by decide) ?_
  exact wX5_value_276 C hk7 ho0 h hH (lv_sub hl [1, 2, 3, 0, 4] rfl)
set_option maxHeartbeats 2000000 in
set_option maxRecDepth 20000 in
theorem wX5_value_128 (C : Cx D ca A p s m args meth c cX5_value RX5 6 (some .int)) {q : Int32 × Mm} {k7 : Nat → Int32 → Int32 → Int32 → Mm → Option (Int32 × Mm)} (hk7 : ∀ (v0 : Nat) (v2 : Int32) (v3 : Int32) (v4 : Int32) (mm : Mm), k7 v0 v2 v3 v4 mm = some q → isLa v0 → ∀ (H : Heap) (locs : List Loc) (ls : Array Slot), Hx WN ad ca WS D A s.heap mm H locs → lv_has ls 6 [(0, .ref (ad v0)), (1, .ref (ad 14)), (2, .int v2), (3, .int v3), (4, .int v4)] → W p l e (rmk 2) s m args below meth c H locs 0 0 (MQ below (QcI WN ad ca WS D A pzT q) args s 0 0 A) (F0 m 7 ls [])) {v0 : Nat} {v2 : Int32} {v3 : Int32} {v4 : Int32} {v5 : Int32} {mm : Mm} (ho0 : isLa v0) (h : DX5_value_128 k7 v0 v2 v3 v4 v5 mm = some q) (hH : Hx WN ad ca WS D A s.heap mm H locs) (hl : lv_has ls 6 [(0, .ref (ad v0)), (1, .ref (ad 14)), (2, .int v2), (3, .int v3), (4, .int v4), (5, .int v5)]) : W p l e (rmk 2) s m args below meth c H locs 0 0 (MQ below (QcI WN ad ca WS D A pzT q) args s 0 0 A) (F0 m 128 ls []) := by
  unfold DX5_value_128 at h
  have hx := C.1
  have hb := C.2.1
  refine lv_iload_n hx hb dX5_value_128 rfl (lv_at hl 2 rfl) ?_
  refine lv_iconst (v := 1) hx hb dX5_value_129 (by decide) ?_
  refine lv_icmp_ge (tgt := 135) hx hb dX5_value_130 (by decide) (fun hc130 => ?_) (fun hc130 => ?_)
  · replace h := tT hc130 h
    refine lv_iload hx hb dX5_value_135 (lv_at hl 5 rfl) ?_
    refine lv_bipush (v := 59) hx hb dX5_value_137 (by decide) ?_
    refine lv_icmp_ne (tgt := 151) hx hb dX5_value_139 (by decide) (fun hc139 => ?_) (fun hc139 => ?_)
    · replace h := tF hc139 h
      refine lv_iload hx hb dX5_value_151 (lv_at hl 5 rfl) ?_
      refine lv_bipush (v := 63) hx hb dX5_value_153 (by decide) ?_
      refine lv_icmp_ne (tgt := 179) hx hb dX5_value_155 (by decide) (fun hc155 => ?_) (fun hc155 => ?_)
      · replace h := tF hc155 h
        refine lv_iload hx hb dX5_value_179 (lv_at hl 5 rfl) ?_
        refine lv_bipush (v := 33) hx hb dX5_value_181 (by decide) ?_
        refine lv_icmp_eq (tgt := 193) hx hb dX5_value_183 (by decide) (fun hc183 => ?_) (fun hc183 => ?_)
        · replace h := tT hc183 h
          exact wX5_value_193 C hk7 ho0 h hH (lv_sub hl [0, 1, 2, 3, 4, 5] rfl)
        · replace h := tF hc183 h
          refine lv_iload hx hb dX5_value_186 (lv_at hl 5 rfl) ?_
          refine lv_bipush (v := 126) hx hb dX5_value_188 (by decide) ?_
          refine lv_icmp_ne (tgt := 239) hx hb dX5_value_190 (by decide) (fun hc190 => ?_) (fun hc190 => ?_)
          · replace h := tF hc190 h
            refine lv_iload_n hx hb dX5_value_239 rfl (lv_at hl 2 rfl) ?_
            refine lv_iconst (v := 2) hx hb dX5_value_240 (by decide) ?_
            refine lv_icmp_ge (tgt := 246) hx hb dX5_value_241 (by decide) (fun hc241 => ?_) (fun hc241 => ?_)
            · replace h := tT hc241 h
              refine lv_iinc (v := (v2 + (-1))) (lv' := [(2, .int (v2 + (-1))), (0, .ref (ad v0)), (1, .ref (ad 14)), (3, .int v3), (4, .int v4), (5, .int v5)]) hx hb dX5_value_246 hl (k := 2) rfl rfl (by decide) rfl (fun ls hl => ?_)
              refine lv_aload_n hx hb dX5_value_249 rfl (lv_at hl 1 rfl) ?_
              refine rgS C hH (fsLA_RX5_17 ho0) dX5_value_250 ?_
              refine lv_iload_n hx hb dX5_value_253 rfl (lv_at hl 0 rfl) ?_
              refine lv_iconst (v := 1) hx hb dX5_value_254 (by decide) ?_
              refine lv_isub hx hb dX5_value_255 ?_
              refine lv_iload hx hb dX5_value_256 (lv_at hl 5 rfl) ?_
              refine lv_aload_n hx hb dX5_value_258 rfl (lv_at hl 1 rfl) ?_
              refine rgS C hH (fsLA_RX5_17 ho0) dX5_value_259 ?_
              refine lv_iload_n hx hb dX5_value_262 rfl (lv_at hl 0 rfl) ?_
              refine lv_iconst (v := 1) hx hb dX5_value_263 (by decide) ?_
              refine lv_isub hx hb dX5_value_264 ?_
              obtain ⟨hi265, h⟩ := tC h
              refine raI C hH (k := (Int32.toNatClampNeg ((v2 + (-1)) - 1))) (la_lt ho0 3 (by decide)) (laE ho0).2.2.2.2.2 hi265 rfl dX5_value_265 ?_
              refine lv_aload_n hx hb dX5_value_266 rfl (lv_at hl 1 rfl) ?_
              refine rgS C hH (fsLA_RX5_17 ho0) dX5_value_267 ?_
              refine lv_iload_n hx hb dX5_value_270 rfl (lv_at hl 0 rfl) ?_
              obtain ⟨hi271, h⟩ := tC h
              refine raI C hH (k := (Int32.toNatClampNeg (v2 + (-1)))) (la_lt ho0 3 (by decide)) (laE ho0).2.2.2.2.2 hi271 rfl dX5_value_271 ?_
              obtain ⟨q272, e272, h⟩ := tB h
              refine rsI C hH hl.1 (mX5_joined l e272) cs_RX5_24 (RR_of (by decide) (by decide)) rfl (rest := [.int ((v2 + (-1)) - 1), .ref (ad (v0 + 3))]) rfl (Nat.le_of_ble_eq_true rfl) dX5_value_272 ?_
              intro hz272 H locs hH
              obtain ⟨hi275, h⟩ := tC h
              refine rwI C hH (k := (Int32.toNatClampNeg ((v2 + (-1)) - 1))) (la_lt ho0 3 (by decide)) (laE ho0).2.2.2.2.2 hi275 rfl dX5_value_275 (fun H locs hH => ?_)
              exact wX5_value_276 C hk7 ho0 h hH (lv_sub hl [1, 2, 0, 3, 4] rfl)
            · replace h := tF hc241 h
              refine lv_iconst (v := 0) hx hb dX5_value_244 (by decide) ?_
              have h := Option.some.inj h
              subst h
              exact retI C hH trivial dX5_value_245
          · replace h := tT hc190 h
            exact wX5_value_193 C hk7 ho0 h hH (lv_sub hl [0, 1, 2, 3, 4, 5] rfl)
      · replace h := tT hc155 h
        refine lv_iinc (v := (v2 + (-1))) (lv' := [(2, .int (v2 + (-1))), (0, .ref (ad v0)), (1, .ref (ad 14)), (3, .int v3), (4, .int v4), (5, .int v5)]) hx hb dX5_value_158 hl (k := 2) rfl rfl (by decide) rfl (fun ls hl => ?_)
        refine lv_aload_n hx hb dX5_value_161 rfl (lv_at hl 1 rfl) ?_
        refine rgS C hH (fsLA_RX5_17 ho0) dX5_value_162 ?_
        refine lv_iload_n hx hb dX5_value_165 rfl (lv_at hl 0 rfl) ?_
        obtain ⟨hi166, h⟩ := tC h
        refine raI C hH (k := (Int32.toNatClampNeg (v2 + (-1)))) (la_lt ho0 3 (by decide)) (laE ho0).2.2.2.2.2 hi166 rfl dX5_value_166 ?_
        refine lv_if_ne (tgt := 174) hx hb dX5_value_167 (by decide) (fun hc167 => ?_) (fun hc167 => ?_)
        · replace h := tF hc167 h
          refine lv_iconst (v := 0) hx hb dX5_value_174 (by decide) ?_
          exact wX5_value_175 C hk7 ho0 h hH (lv_sub hl [1, 2, 0, 4] rfl)
        · replace h := tT hc167 h
          refine lv_iconst (v := 1) hx hb dX5_value_170 (by decide) ?_
          refine lv_goto (tgt := 175) hx hb dX5_value_171 (by decide) ?_
          exact wX5_value_175 C hk7 ho0 h hH (lv_sub hl [1, 2, 0, 4] rfl)
    · replace h := tT hc139 h
      refine lv_aload_n hx hb dX5_value_142 rfl (lv_at hl 0 rfl) ?_
      refine rgS C hH (fsLA_RX5_17 ho0) dX5_value_143 ?_
      refine lv_iload_n hx hb dX5_value_146 rfl (lv_at hl 2 rfl) ?_
      refine lv_iconst (v := 1) hx hb dX5_value_147 (by decide) ?_
      refine lv_isub hx hb dX5_value_148 ?_
      obtain ⟨hi149, h⟩ := tC h
      refine raI C hH (k := (Int32.toNatClampNeg (v2 - 1))) (la_lt ho0 3 (by decide)) (laE ho0).2.2.2.2.2 hi149 rfl dX5_value_149 ?_
      have h := Option.some.inj h
      subst h
      exact retI C hH trivial dX5_value_150
  · replace h := tF hc130 h
    refine lv_iconst (v := 0) hx hb dX5_value_133 (by decide) ?_
    have h := Option.some.inj h
    subst h
    exact retI C hH trivial dX5_value_134
set_option maxHeartbeats 2000000 in
set_option maxRecDepth 20000 in
theorem wX5_value_48 (C : Cx D ca A p s m args meth c cX5_value RX5 6 (some .int)) {q : Int32 × Mm} {k7 : Nat → Int32 → Int32 → Int32 → Mm → Option (Int32 × Mm)} (hk7 : ∀ (v0 : Nat) (v2 : Int32) (v3 : Int32) (v4 : Int32) (mm : Mm), k7 v0 v2 v3 v4 mm = some q → isLa v0 → ∀ (H : Heap) (locs : List Loc) (ls : Array Slot), Hx WN ad ca WS D A s.heap mm H locs → lv_has ls 6 [(0, .ref (ad v0)), (1, .ref (ad 14)), (2, .int v2), (3, .int v3), (4, .int v4)] → W p l e (rmk 2) s m args below meth c H locs 0 0 (MQ below (QcI WN ad ca WS D A pzT q) args s 0 0 A) (F0 m 7 ls [])) {v0 : Nat} {v2 : Int32} {v4 : Int32} {s0 : Int32} {mm : Mm} (ho0 : isLa v0) (h : DX5_value_48 k7 v0 v2 v4 s0 mm = some q) (hH : Hx WN ad ca WS D A s.heap mm H locs) (hl : lv_has ls 6 [(0, .ref (ad v0)), (1, .ref (ad 14)), (2, .int v2), (4, .int v4)]) : W p l e (rmk 2) s m args below meth c H locs 0 0 (MQ below (QcI WN ad ca WS D A pzT q) args s 0 0 A) (F0 m 48 ls [.int s0]) := by
  unfold DX5_value_48 at h
  have hx := C.1
  have hb := C.2.1
  refine lv_istore_n (lv' := [(3, .int s0), (0, .ref (ad v0)), (1, .ref (ad 14)), (2, .int v2), (4, .int v4)]) hx hb dX5_value_48 rfl hl (by decide) rfl (fun ls hl => ?_)
  refine lv_goto (tgt := 276) hx hb dX5_value_49 (by decide) ?_
  exact wX5_value_276 C hk7 ho0 h hH (lv_sub hl [1, 2, 3, 0, 4] rfl)
set_option maxHeartbeats 2000000 in
set_option maxRecDepth 20000 in
theorem wbX5_value_7 (C : Cx D ca A p s m args meth c cX5_value RX5 6 (some .int)) {q : Int32 × Mm} {k7 : Nat → Int32 → Int32 → Int32 → Mm → Option (Int32 × Mm)} (hk7 : ∀ (v0 : Nat) (v2 : Int32) (v3 : Int32) (v4 : Int32) (mm : Mm), k7 v0 v2 v3 v4 mm = some q → isLa v0 → ∀ (H : Heap) (locs : List Loc) (ls : Array Slot), Hx WN ad ca WS D A s.heap mm H locs → lv_has ls 6 [(0, .ref (ad v0)), (1, .ref (ad 14)), (2, .int v2), (3, .int v3), (4, .int v4)] → W p l e (rmk 2) s m args below meth c H locs 0 0 (MQ below (QcI WN ad ca WS D A pzT q) args s 0 0 A) (F0 m 7 ls [])) {v0 : Nat} {v2 : Int32} {v3 : Int32} {v4 : Int32} {mm : Mm} (ho0 : isLa v0) (h : BX5_value_7 k7 v0 v2 v3 v4 mm = some q) (hH : Hx WN ad ca WS D A s.heap mm H locs) (hl : lv_has ls 6 [(0, .ref (ad v0)), (1, .ref (ad 14)), (2, .int v2), (3, .int v3), (4, .int v4)]) : W p l e (rmk 2) s m args below meth c H locs 0 0 (MQ below (QcI WN ad ca WS D A pzT q) args s 0 0 A) (F0 m 7 ls []) := by
  unfold BX5_value_7 at h
  have hx := C.1
  have hb := C.2.1
  refine lv_iload hx hb dX5_value_7 (lv_at hl 4 rfl) ?_
  refine lv_aload_n hx hb dX5_value_9 rfl (lv_at hl 0 rfl) ?_
  refine rgI C hH (fiLA_RX5_20 ho0) dX5_value_10 ?_
  refine lv_icmp_ge (tgt := 282) hx hb dX5_value_13 (by decide) (fun hc13 => ?_) (fun hc13 => ?_)
  · replace h := tT hc13 h
    exact wX5_value_282 C h hH (lv_sub hl [] rfl)
  · replace h := tF hc13 h
    refine lv_iload_n hx hb dX5_value_16 rfl (lv_at hl 2 rfl) ?_
    refine lv_sipush (v := 128) hx hb dX5_value_17 (by decide) ?_
    refine lv_icmp_ge (tgt := 282) hx hb dX5_value_20 (by decide) (fun hc20 => ?_) (fun hc20 => ?_)
    · replace h := tT hc20 h
      exact wX5_value_282 C h hH (lv_sub hl [] rfl)
    · replace h := tF hc20 h
      refine lv_aload_n hx hb dX5_value_23 rfl (lv_at hl 0 rfl) ?_
      refine rgS C hH (fsLA_RX5_9 ho0) dX5_value_24 ?_
      refine lv_iload hx hb dX5_value_27 (lv_at hl 4 rfl) ?_
      obtain ⟨hi29, h⟩ := tC h
      refine raC C hH (k := (Int32.toNatClampNeg v4)) (la_lt ho0 1 (by decide)) (laE ho0).2.2.2.1 hi29 rfl dX5_value_29 ?_
      refine lv_istore (lv' := [(5, .int (gI mm (v0 + 1) (Int32.toNatClampNeg v4))), (0, .ref (ad v0)), (1, .ref (ad 14)), (2, .int v2), (3, .int v3), (4, .int v4)]) hx hb dX5_value_30 hl (by decide) rfl (fun ls hl => ?_)
      refine lv_iload_n hx hb dX5_value_32 rfl (lv_at hl 4 rfl) ?_
      refine lv_if_eq (tgt := 52) hx hb dX5_value_33 (by decide) (fun hc33 => ?_) (fun hc33 => ?_)
      · replace h := tT hc33 h
        refine lv_iload hx hb dX5_value_52 (lv_at hl 0 rfl) ?_
        refine lv_bipush (v := 35) hx hb dX5_value_54 (by decide) ?_
        refine lv_icmp_ne (tgt := 78) hx hb dX5_value_56 (by decide) (fun hc56 => ?_) (fun hc56 => ?_)
        · replace h := tF hc56 h
          refine lv_iload hx hb dX5_value_78 (lv_at hl 0 rfl) ?_
          refine lv_bipush (v := 110) hx hb dX5_value_80 (by decide) ?_
          refine lv_icmp_ne (tgt := 128) hx hb dX5_value_82 (by decide) (fun hc82 => ?_) (fun hc82 => ?_)
          · replace h := tF hc82 h
            exact wX5_value_128 C hk7 ho0 h hH (lv_sub hl [1, 2, 3, 4, 5, 0] rfl)
          · replace h := tT hc82 h
            refine lv_aload_n hx hb dX5_value_85 rfl (lv_at hl 1 rfl) ?_
            refine rgS C hH (fsLA_RX5_13 ho0) dX5_value_86 ?_
            refine lv_iload hx hb dX5_value_89 (lv_at hl 5 rfl) ?_
            obtain ⟨hi91, h⟩ := tC h
            refine raI C hH (k := (Int32.toNatClampNeg v4)) (la_lt ho0 2 (by decide)) (laE ho0).2.2.2.2.1 hi91 rfl dX5_value_91 ?_
            refine lv_if_lt (tgt := 128) hx hb dX5_value_92 (by decide) (fun hc92 => ?_) (fun hc92 => ?_)
            · replace h := tT hc92 h
              exact wX5_value_128 C hk7 ho0 h hH (lv_sub hl [1, 2, 3, 4, 5, 0] rfl)
            · replace h := tF hc92 h
              refine lv_aload_n hx hb dX5_value_95 rfl (lv_at hl 1 rfl) ?_
              refine rgS C hH (fsLA_RX5_13 ho0) dX5_value_96 ?_
              refine lv_iload hx hb dX5_value_99 (lv_at hl 5 rfl) ?_
              obtain ⟨hi101, h⟩ := tC h
              refine raI C hH (k := (Int32.toNatClampNeg v4)) (la_lt ho0 2 (by decide)) (laE ho0).2.2.2.2.1 hi101 rfl dX5_value_101 ?_
              refine lv_aload_n hx hb dX5_value_102 rfl (lv_at hl 2 rfl) ?_
              refine wln C hH (v := 6) (o := 14) (by decide) (show WS 14 = .inr (0, 6, 0) from rfl) rfl (by decide) dX5_value_103 ?_
              refine lv_icmp_ge (tgt := 128) hx hb dX5_value_104 (by decide) (fun hc104 => ?_) (fun hc104 => ?_)
              · replace h := tT hc104 h
                exact wX5_value_128 C hk7 ho0 h hH (lv_sub hl [1, 2, 3, 4, 5, 0] rfl)
              · replace h := tF hc104 h
                refine lv_aload_n hx hb dX5_value_107 rfl (lv_at hl 1 rfl) ?_
                refine rgS C hH (fsLA_RX5_17 ho0) dX5_value_108 ?_
                refine lv_iload_n hx hb dX5_value_111 rfl (lv_at hl 3 rfl) ?_
                refine lv_aload_n hx hb dX5_value_112 rfl (lv_at hl 2 rfl) ?_
                refine lv_aload_n hx hb dX5_value_113 rfl (lv_at hl 1 rfl) ?_
                refine rgS C hH (fsLA_RX5_13 ho0) dX5_value_114 ?_
                refine lv_iload hx hb dX5_value_117 (lv_at hl 5 rfl) ?_
                obtain ⟨hi119, h⟩ := tC h
                refine raI C hH (k := (Int32.toNatClampNeg v4)) (la_lt ho0 2 (by decide)) (laE ho0).2.2.2.2.1 hi119 rfl dX5_value_119 ?_
                obtain ⟨hi120, h⟩ := tC h
                refine raI C hH (k := (Int32.toNatClampNeg (gI mm (v0 + 2) (Int32.toNatClampNeg v4)))) (by decide) (show WS 14 = .inr (0, 6, 0) from rfl) hi120 rfl dX5_value_120 ?_
                obtain ⟨hi121, h⟩ := tC h
                refine rwI C hH (k := (Int32.toNatClampNeg v2)) (la_lt ho0 3 (by decide)) (laE ho0).2.2.2.2.2 hi121 rfl dX5_value_121 (fun H locs hH => ?_)
                refine lv_iinc (v := (v2 + 1)) (lv' := [(2, .int (v2 + 1)), (5, .int (gI mm (v0 + 1) (Int32.toNatClampNeg v4))), (0, .ref (ad v0)), (1, .ref (ad 14)), (3, .int v3), (4, .int v4)]) hx hb dX5_value_122 hl (k := 3) rfl rfl (by decide) rfl (fun ls hl => ?_)
                refine lv_goto (tgt := 276) hx hb dX5_value_125 (by decide) ?_
                exact wX5_value_276 C hk7 ho0 h hH (lv_sub hl [2, 3, 0, 4, 5] rfl)
        · replace h := tT hc56 h
          refine lv_aload_n hx hb dX5_value_59 rfl (lv_at hl 1 rfl) ?_
          refine rgS C hH (fsLA_RX5_17 ho0) dX5_value_60 ?_
          refine lv_iload_n hx hb dX5_value_63 rfl (lv_at hl 3 rfl) ?_
          refine lv_aload_n hx hb dX5_value_64 rfl (lv_at hl 1 rfl) ?_
          refine rgS C hH (fsLA_RX5_13 ho0) dX5_value_65 ?_
          refine lv_iload hx hb dX5_value_68 (lv_at hl 5 rfl) ?_
          obtain ⟨hi70, h⟩ := tC h
          refine raI C hH (k := (Int32.toNatClampNeg v4)) (la_lt ho0 2 (by decide)) (laE ho0).2.2.2.2.1 hi70 rfl dX5_value_70 ?_
          obtain ⟨hi71, h⟩ := tC h
          refine rwI C hH (k := (Int32.toNatClampNeg v2)) (la_lt ho0 3 (by decide)) (laE ho0).2.2.2.2.2 hi71 rfl dX5_value_71 (fun H locs hH => ?_)
          refine lv_iinc (v := (v2 + 1)) (lv' := [(2, .int (v2 + 1)), (5, .int (gI mm (v0 + 1) (Int32.toNatClampNeg v4))), (0, .ref (ad v0)), (1, .ref (ad 14)), (3, .int v3), (4, .int v4)]) hx hb dX5_value_72 hl (k := 3) rfl rfl (by decide) rfl (fun ls hl => ?_)
          refine lv_goto (tgt := 276) hx hb dX5_value_75 (by decide) ?_
          exact wX5_value_276 C hk7 ho0 h hH (lv_sub hl [2, 3, 0, 4, 5] rfl)
      · replace h := tF hc33 h
        refine lv_iload hx hb dX5_value_36 (lv_at hl 0 rfl) ?_
        refine lv_bipush (v := 59) hx hb dX5_value_38 (by decide) ?_
        refine lv_icmp_eq (tgt := 47) hx hb dX5_value_40 (by decide) (fun hc40 => ?_) (fun hc40 => ?_)
        · replace h := tT hc40 h
          refine lv_iconst (v := 0) hx hb dX5_value_47 (by decide) ?_
          exact wX5_value_48 C hk7 ho0 h hH (lv_sub hl [1, 2, 3, 5] rfl)
        · replace h := tF hc40 h
          refine lv_iconst (v := 1) hx hb dX5_value_43 (by decide) ?_
          refine lv_goto (tgt := 48) hx hb dX5_value_44 (by decide) ?_
          exact wX5_value_48 C hk7 ho0 h hH (lv_sub hl [1, 2, 3, 5] rfl)
set_option maxHeartbeats 2000000 in
set_option maxRecDepth 20000 in
theorem wX5_value_7 (C : Cx D ca A p s m args meth c cX5_value RX5 6 (some .int)) {q : Int32 × Mm} : ∀ (N : Nat) (v0 : Nat) (v2 : Int32) (v3 : Int32) (v4 : Int32) (mm : Mm), DX5_value_7 N v0 v2 v3 v4 mm = some q → isLa v0 → ∀ (H : Heap) (locs : List Loc) (ls : Array Slot), Hx WN ad ca WS D A s.heap mm H locs → lv_has ls 6 [(0, .ref (ad v0)), (1, .ref (ad 14)), (2, .int v2), (3, .int v3), (4, .int v4)] → W p l e (rmk 2) s m args below meth c H locs 0 0 (MQ below (QcI WN ad ca WS D A pzT q) args s 0 0 A) (F0 m 7 ls []) := by
  intro N
  induction N with
  | zero =>
    intro v0 v2 v3 v4 mm h
    have h2 : (none : Option (Int32 × Mm)) = some q := h
    cases h2
  | succ N ih =>
    intro v0 v2 v3 v4 mm h ho0 H locs ls hH hl
    exact wbX5_value_7 C ih ho0 h hH hl
set_option maxHeartbeats 2000000 in
set_option maxRecDepth 20000 in
theorem mX5_value (l : Launch) {D : va_G} {ca : Nat → ClassId} {A : Nat → Prop} {ad : Nat → Nat} {v0 : Nat} {mm : Mm} {q : Int32 × Mm} (h : dX5_value v0 mm = some q) : Met l yX5_value (wsOf yX5_value cX5_value 6 (some .int)) (rmk 2) (PcX WN ad ca WS D A [.ref (ad v0), .ref (ad 14)] mm) (QcI WN ad ca WS D A pzT q) 0 0 A := by
  unfold dX5_value at h
  refine ent (by decide) (Nat.le_of_ble_eq_true rfl) (fun p e s m args below meth c hargs C hH ls hl => ?_)
  have hx := C.1
  have hb := C.2.1
  have hl : lv_has ls 6 [(0, .ref (ad v0)), (1, .ref (ad 14))] := hl
  obtain ⟨ho0, h⟩ := tC h
  refine lv_iconst (v := 0) hx hb dX5_value_0 (by decide) ?_
  refine lv_istore_n (lv' := [(2, .int 0), (0, .ref (ad v0)), (1, .ref (ad 14))]) hx hb dX5_value_1 rfl hl (by decide) rfl (fun ls hl => ?_)
  refine lv_iconst (v := 0) hx hb dX5_value_2 (by decide) ?_
  refine lv_istore_n (lv' := [(3, .int 0), (2, .int 0), (0, .ref (ad v0)), (1, .ref (ad 14))]) hx hb dX5_value_3 rfl hl (by decide) rfl (fun ls hl => ?_)
  refine lv_iconst (v := 0) hx hb dX5_value_4 (by decide) ?_
  refine lv_istore (lv' := [(4, .int 0), (3, .int 0), (2, .int 0), (0, .ref (ad v0)), (1, .ref (ad 14))]) hx hb dX5_value_5 hl (by decide) rfl (fun ls hl => ?_)
  exact wX5_value_7 C FU _ _ _ _ _ h ho0 _ _ _ hH (lv_sub hl [3, 4, 2, 1, 0] rfl)
set_option maxHeartbeats 2000000 in
set_option maxRecDepth 20000 in
theorem wX7_worthTo_24 (C : Cx D ca A p s m args meth c cX7_worthTo RX7 6 (some .int)) {q : Int32 × Mm} {v1 : Int32} {v2 : Int32} {v3 : Int32} {v4 : Int32} {s0 : Int32} {mm : Mm} (h : DX7_worthTo_24 v1 v2 v3 v4 s0 mm = some q) (hH : Hx WN ad ca WS D A s.heap mm H locs) (hl : lv_has ls 6 [(0, .ref (ad 1)), (1, .int v1), (2, .int v2), (3, .int v3), (4, .int v4)]) : W p l e (rmk 3) s m args below meth c H locs 0 0 (MQ below (QcI WN ad ca WS D A pzT q) args s 0 0 A) (F0 m 24 ls [.int s0]) := by
  unfold DX7_worthTo_24 at h
  have hx := C.1
  have hb := C.2.1
  refine lv_istore (lv' := [(5, .int s0), (0, .ref (ad 1)), (1, .int v1), (2, .int v2), (3, .int v3), (4, .int v4)]) hx hb dX7_worthTo_24 hl (by decide) rfl (fun ls hl => ?_)
  refine lv_aload_n hx hb dX7_worthTo_26 rfl (lv_at hl 1 rfl) ?_
  refine rgD C hH fd_RX7_23_1 dX7_worthTo_27 ?_
  obtain ⟨hLa30, h⟩ := tC h
  obtain ⟨q30, e30, h⟩ := tB h
  refine rcI C hH hl.1 (mX5_isTold l e30) cf_RX7_46 (ro_la hLa30) (RR_of (by decide) (by decide)) rfl (rest := []) rfl (Nat.le_of_ble_eq_true rfl) dX7_worthTo_30 ?_
  intro hz30 H locs hH
  refine lv_if_ne (tgt := 45) hx hb dX7_worthTo_33 (by decide) (fun hc33 => ?_) (fun hc33 => ?_)
  · replace h := tF hc33 h
    refine lv_aload_n hx hb dX7_worthTo_45 rfl (lv_at hl 1 rfl) ?_
    refine rgS C hH fs_RX7_16_1 dX7_worthTo_46 ?_
    refine lv_iconst (v := 0) hx hb dX7_worthTo_49 (by decide) ?_
    refine lv_iload hx hb dX7_worthTo_50 (lv_at hl 5 rfl) ?_
    refine rwI C hH (k := 0) (by decide) (show WS 14 = .inr (0, 6, 0) from rfl) (show inB 0 6 from by decide) (by decide) dX7_worthTo_52 (fun H locs hH => ?_)
    refine lv_aload_n hx hb dX7_worthTo_53 rfl (lv_at hl 1 rfl) ?_
    refine rgS C hH fs_RX7_16_1 dX7_worthTo_54 ?_
    refine lv_iconst (v := 1) hx hb dX7_worthTo_57 (by decide) ?_
    refine lv_iload hx hb dX7_worthTo_58 (lv_at hl 0 rfl) ?_
    refine rwI C hH (k := 1) (by decide) (show WS 14 = .inr (0, 6, 0) from rfl) (show inB 1 6 from by decide) (by decide) dX7_worthTo_60 (fun H locs hH => ?_)
    refine lv_aload_n hx hb dX7_worthTo_61 rfl (lv_at hl 1 rfl) ?_
    refine rgS C hH fs_RX7_16_1 dX7_worthTo_62 ?_
    refine lv_iconst (v := 2) hx hb dX7_worthTo_65 (by decide) ?_
    refine lv_iload_n hx hb dX7_worthTo_66 rfl (lv_at hl 4 rfl) ?_
    refine rwI C hH (k := 2) (by decide) (show WS 14 = .inr (0, 6, 0) from rfl) (show inB 2 6 from by decide) (by decide) dX7_worthTo_67 (fun H locs hH => ?_)
    refine lv_aload_n hx hb dX7_worthTo_68 rfl (lv_at hl 1 rfl) ?_
    refine rgS C hH fs_RX7_16_1 dX7_worthTo_69 ?_
    refine lv_iconst (v := 3) hx hb dX7_worthTo_72 (by decide) ?_
    refine lv_aload_n hx hb dX7_worthTo_73 rfl (lv_at hl 1 rfl) ?_
    obtain ⟨q74, e74, h⟩ := tB h
    refine rcI C hH hl.1 (mX7_soldNow l e74) cf_RX7_50 ro_1 (RR_of (by decide) (by decide)) rfl (rest := [.int 3, .ref (ad 14)]) rfl (Nat.le_of_ble_eq_true rfl) dX7_worthTo_74 ?_
    intro hz74 H locs hH
    refine rwI C hH (k := 3) (by decide) (show WS 14 = .inr (0, 6, 0) from rfl) (show inB 3 6 from by decide) (by decide) dX7_worthTo_77 (fun H locs hH => ?_)
    refine lv_aload_n hx hb dX7_worthTo_78 rfl (lv_at hl 1 rfl) ?_
    refine rgS C hH fs_RX7_16_1 dX7_worthTo_79 ?_
    refine lv_iconst (v := 4) hx hb dX7_worthTo_82 (by decide) ?_
    refine lv_iload_n hx hb dX7_worthTo_83 rfl (lv_at hl 3 rfl) ?_
    refine rwI C hH (k := 4) (by decide) (show WS 14 = .inr (0, 6, 0) from rfl) (show inB 4 6 from by decide) (by decide) dX7_worthTo_84 (fun H locs hH => ?_)
    refine lv_aload_n hx hb dX7_worthTo_85 rfl (lv_at hl 1 rfl) ?_
    refine rgS C hH fs_RX7_16_1 dX7_worthTo_86 ?_
    refine lv_iconst (v := 5) hx hb dX7_worthTo_89 (by decide) ?_
    refine lv_iload_n hx hb dX7_worthTo_90 rfl (lv_at hl 2 rfl) ?_
    refine rwI C hH (k := 5) (by decide) (show WS 14 = .inr (0, 6, 0) from rfl) (show inB 5 6 from by decide) (by decide) dX7_worthTo_91 (fun H locs hH => ?_)
    refine lv_iconst (v := 0) hx hb dX7_worthTo_92 (by decide) ?_
    refine lv_sipush (v := 999) hx hb dX7_worthTo_93 (by decide) ?_
    refine lv_aload_n hx hb dX7_worthTo_96 rfl (lv_at hl 1 rfl) ?_
    refine rgD C hH fd_RX7_23_1 dX7_worthTo_97 ?_
    refine lv_aload_n hx hb dX7_worthTo_100 rfl (lv_at hl 1 rfl) ?_
    refine rgS C hH fs_RX7_16_1 dX7_worthTo_101 ?_
    obtain ⟨hLa104, h⟩ := tC h
    obtain ⟨q104, e104, h⟩ := tB h
    refine rcI C hH hl.1 (mX5_value l e104) cf_RX7_54 (ro_la hLa104) (RR_of (by decide) (by decide)) rfl (rest := [.int 999, .int 0]) rfl (Nat.le_of_ble_eq_true rfl) dX7_worthTo_104 ?_
    intro hz104 H locs hH
    refine rmin C hl.1 mf_RX7_58 (RR_of (by decide) (by decide)) (Nat.le_of_ble_eq_true rfl) dX7_worthTo_107 ?_
    refine rmax C hl.1 mf_RX7_63 (RR_of (by decide) (by decide)) (Nat.le_of_ble_eq_true rfl) dX7_worthTo_110 ?_
    have h := Option.some.inj h
    subst h
    exact retI C hH trivial dX7_worthTo_113
  · replace h := tT hc33 h
    refine lv_iload hx hb dX7_worthTo_36 (lv_at hl 5 rfl) ?_
    refine lv_iload hx hb dX7_worthTo_38 (lv_at hl 5 rfl) ?_
    refine lv_iload hx hb dX7_worthTo_40 (lv_at hl 0 rfl) ?_
    refine lv_imul hx hb dX7_worthTo_42 ?_
    refine lv_iadd hx hb dX7_worthTo_43 ?_
    have h := Option.some.inj h
    subst h
    exact retI C hH trivial dX7_worthTo_44
set_option maxHeartbeats 2000000 in
set_option maxRecDepth 20000 in
theorem mX7_worthTo (l : Launch) {D : va_G} {ca : Nat → ClassId} {A : Nat → Prop} {ad : Nat → Nat} {v1 : Int32} {v2 : Int32} {v3 : Int32} {mm : Mm} {q : Int32 × Mm} (h : dX7_worthTo v1 v2 v3 mm = some q) : Met l yX7_worthTo (wsOf yX7_worthTo cX7_worthTo 6 (some .int)) (rmk 3) (PcX WN ad ca WS D A [.ref (ad 1), .int v1, .int v2, .int v3] mm) (QcI WN ad ca WS D A pzT q) 0 0 A := by
  unfold dX7_worthTo at h
  refine ent (by decide) (Nat.le_of_ble_eq_true rfl) (fun p e s m args below meth c hargs C hH ls hl => ?_)
  have hx := C.1
  have hb := C.2.1
  have hl : lv_has ls 6 [(0, .ref (ad 1)), (1, .int v1), (2, .int v2), (3, .int v3)] := hl
  refine lv_aload_n hx hb dX7_worthTo_0 rfl (lv_at hl 0 rfl) ?_
  refine lv_iconst (v := 0) hx hb dX7_worthTo_1 (by decide) ?_
  refine lv_iload_n hx hb dX7_worthTo_2 rfl (lv_at hl 2 rfl) ?_
  obtain ⟨q3, e3, h⟩ := tB h
  refine rcI C hH hl.1 (mX7_told l e3) cf_RX7_38 ro_1 (RR_of (by decide) (by decide)) rfl (rest := []) rfl (Nat.le_of_ble_eq_true rfl) dX7_worthTo_3 ?_
  intro hz3 H locs hH
  refine lv_istore (lv' := [(4, .int q3.1), (0, .ref (ad 1)), (1, .int v1), (2, .int v2), (3, .int v3)]) hx hb dX7_worthTo_6 hl (by decide) rfl (fun ls hl => ?_)
  refine lv_aload_n hx hb dX7_worthTo_8 rfl (lv_at hl 1 rfl) ?_
  refine lv_bipush (v := 7) hx hb dX7_worthTo_9 (by decide) ?_
  refine lv_iload_n hx hb dX7_worthTo_11 rfl (lv_at hl 2 rfl) ?_
  obtain ⟨q12, e12, h⟩ := tB h
  refine rcI C hH hl.1 (mX7_told l e12) cf_RX7_38 ro_1 (RR_of (by decide) (by decide)) rfl (rest := []) rfl (Nat.le_of_ble_eq_true rfl) dX7_worthTo_12 ?_
  intro hz12 H locs hH
  refine lv_iload_n hx hb dX7_worthTo_15 rfl (lv_at hl 3 rfl) ?_
  refine lv_icmp_ne (tgt := 23) hx hb dX7_worthTo_16 (by decide) (fun hc16 => ?_) (fun hc16 => ?_)
  · replace h := tF hc16 h
    refine lv_iconst (v := 0) hx hb dX7_worthTo_23 (by decide) ?_
    exact wX7_worthTo_24 C h hH (lv_sub hl [1, 2, 3, 4, 0] rfl)
  · replace h := tT hc16 h
    refine lv_iconst (v := 1) hx hb dX7_worthTo_19 (by decide) ?_
    refine lv_goto (tgt := 24) hx hb dX7_worthTo_20 (by decide) ?_
    exact wX7_worthTo_24 C h hH (lv_sub hl [1, 2, 3, 4, 0] rfl)
set_option maxHeartbeats 2000000 in
set_option maxRecDepth 20000 in
theorem wX9_worthOf_21 (C : Cx D ca A p s m args meth c cX9_worthOf RX9 3 (some .int)) {q : Int32 × Mm} {mm : Mm} (h : DX9_worthOf_21 mm = some q) (hH : Hx WN ad ca WS D A s.heap mm H locs) (hl : lv_has ls 3 []) : W p l e (rmk 4) s m args below meth c H locs 0 0 (MQ below (QcI WN ad ca WS D A pzT q) args s 0 0 A) (F0 m 21 ls []) := by
  unfold DX9_worthOf_21 at h
  have hx := C.1
  have hb := C.2.1
  refine lv_iconst (v := (-1)) hx hb dX9_worthOf_21 (by decide) ?_
  have h := Option.some.inj h
  subst h
  exact retI C hH trivial dX9_worthOf_22
set_option maxHeartbeats 2000000 in
set_option maxRecDepth 20000 in
theorem mX9_worthOf (l : Launch) {D : va_G} {ca : Nat → ClassId} {A : Nat → Prop} {ad : Nat → Nat} {v1 : Int32} {v2 : Int32} {mm : Mm} {q : Int32 × Mm} (h : dX9_worthOf v1 v2 mm = some q) : Met l yX9_worthOf (wsOf yX9_worthOf cX9_worthOf 3 (some .int)) (rmk 4) (PcX WN ad ca WS D A [.ref (ad 0), .int v1, .int v2] mm) (QcI WN ad ca WS D A pzT q) 0 0 A := by
  unfold dX9_worthOf at h
  refine ent (by decide) (Nat.le_of_ble_eq_true rfl) (fun p e s m args below meth c hargs C hH ls hl => ?_)
  have hx := C.1
  have hb := C.2.1
  have hl : lv_has ls 3 [(0, .ref (ad 0)), (1, .int v1), (2, .int v2)] := hl
  refine lv_aload_n hx hb dX9_worthOf_0 rfl (lv_at hl 0 rfl) ?_
  refine rgS C hH fs_RX9_10_0 dX9_worthOf_1 ?_
  refine lv_bipush (v := 6) hx hb dX9_worthOf_4 (by decide) ?_
  refine lv_iload_n hx hb dX9_worthOf_6 rfl (lv_at hl 1 rfl) ?_
  obtain ⟨q7, e7, h⟩ := tB h
  refine rcI C hH hl.1 (mX7_holds l e7) cf_RX9_67 ro_1 (RR_of (by decide) (by decide)) rfl (rest := []) rfl (Nat.le_of_ble_eq_true rfl) dX9_worthOf_7 ?_
  intro hz7 H locs hH
  refine lv_if_eq (tgt := 21) hx hb dX9_worthOf_10 (by decide) (fun hc10 => ?_) (fun hc10 => ?_)
  · replace h := tT hc10 h
    exact wX9_worthOf_21 C h hH (lv_sub hl [] rfl)
  · replace h := tF hc10 h
    refine lv_aload_n hx hb dX9_worthOf_13 rfl (lv_at hl 0 rfl) ?_
    refine lv_iload_n hx hb dX9_worthOf_14 rfl (lv_at hl 2 rfl) ?_
    obtain ⟨q15, e15, h⟩ := tB h
    refine rcI C hH hl.1 (mX9_isSackAndGood l e15) cf_RX9_123 ro_0 (RR_of (by decide) (by decide)) rfl (rest := []) rfl (Nat.le_of_ble_eq_true rfl) dX9_worthOf_15 ?_
    intro hz15 H locs hH
    refine lv_if_ne (tgt := 23) hx hb dX9_worthOf_18 (by decide) (fun hc18 => ?_) (fun hc18 => ?_)
    · replace h := tF hc18 h
      refine lv_aload_n hx hb dX9_worthOf_23 rfl (lv_at hl 0 rfl) ?_
      refine rgS C hH fs_RX9_10_0 dX9_worthOf_24 ?_
      refine lv_iload_n hx hb dX9_worthOf_27 rfl (lv_at hl 1 rfl) ?_
      refine lv_iload_n hx hb dX9_worthOf_28 rfl (lv_at hl 2 rfl) ?_
      refine lv_bipush (v := 10) hx hb dX9_worthOf_29 (by decide) ?_
      refine lv_irem' hx hb dX9_worthOf_31 (by decide) ?_
      refine lv_aload_n hx hb dX9_worthOf_32 rfl (lv_at hl 0 rfl) ?_
      refine rgS C hH fs_RX9_10_0 dX9_worthOf_33 ?_
      refine lv_iconst (v := 5) hx hb dX9_worthOf_36 (by decide) ?_
      refine lv_iload_n hx hb dX9_worthOf_37 rfl (lv_at hl 2 rfl) ?_
      refine lv_bipush (v := 10) hx hb dX9_worthOf_38 (by decide) ?_
      refine lv_idiv hx hb dX9_worthOf_40 (by decide) ?_
      obtain ⟨q41, e41, h⟩ := tB h
      refine rcI C hH hl.1 (mX7_told l e41) cf_RX9_98 ro_1 (RR_of (by decide) (by decide)) rfl (rest := [.int (iRem v2 10), .int v1, .ref (ad 1)]) rfl (Nat.le_of_ble_eq_true rfl) dX9_worthOf_41 ?_
      intro hz41 H locs hH
      obtain ⟨q44, e44, h⟩ := tB h
      refine rcI C hH hl.1 (mX7_worthTo l e44) cf_RX9_126 ro_1 (RR_of (by decide) (by decide)) rfl (rest := []) rfl (Nat.le_of_ble_eq_true rfl) dX9_worthOf_44 ?_
      intro hz44 H locs hH
      have h := Option.some.inj h
      subst h
      exact retI C hH trivial dX9_worthOf_47
    · replace h := tT hc18 h
      exact wX9_worthOf_21 C h hH (lv_sub hl [] rfl)
set_option maxHeartbeats 2000000 in
set_option maxRecDepth 20000 in
theorem wX10_worthFor_142 (C : Cx D ca A p s m args meth c cX10_worthFor RX10 9 (some .int)) {q : Int32 × Mm} {v6 : Int32} {mm : Mm} (h : DX10_worthFor_142 v6 mm = some q) (hH : Hx WN ad ca WS D A s.heap mm H locs) (hl : lv_has ls 9 [(6, .int v6)]) : W p l e (rmk 105) s m args below meth c H locs 0 0 (MQ below (QcI WN ad ca WS D A pzT q) args s 0 0 A) (F0 m 142 ls []) := by
  unfold DX10_worthFor_142 at h
  have hx := C.1
  have hb := C.2.1
  refine lv_iload hx hb dX10_worthFor_142 (lv_at hl 0 rfl) ?_
  refine lv_if_ge (tgt := 151) hx hb dX10_worthFor_144 (by decide) (fun hc144 => ?_) (fun hc144 => ?_)
  · replace h := tT hc144 h
    refine lv_iload hx hb dX10_worthFor_151 (lv_at hl 0 rfl) ?_
    refine lv_sipush (v := 999) hx hb dX10_worthFor_153 (by decide) ?_
    refine lv_icmp_le (tgt := 165) hx hb dX10_worthFor_156 (by decide) (fun hc156 => ?_) (fun hc156 => ?_)
    · replace h := tT hc156 h
      refine lv_iload hx hb dX10_worthFor_165 (lv_at hl 0 rfl) ?_
      have h := Option.some.inj h
      subst h
      exact retI C hH trivial dX10_worthFor_167
    · replace h := tF hc156 h
      refine lv_sipush (v := 999) hx hb dX10_worthFor_159 (by decide) ?_
      refine lv_goto (tgt := 167) hx hb dX10_worthFor_162 (by decide) ?_
      have h := Option.some.inj h
      subst h
      exact retI C hH trivial dX10_worthFor_167
  · replace h := tF hc144 h
    refine lv_iconst (v := 0) hx hb dX10_worthFor_147 (by decide) ?_
    refine lv_goto (tgt := 167) hx hb dX10_worthFor_148 (by decide) ?_
    have h := Option.some.inj h
    subst h
    exact retI C hH trivial dX10_worthFor_167
set_option maxHeartbeats 2000000 in
set_option maxRecDepth 20000 in
theorem wX10_worthFor_77 (C : Cx D ca A p s m args meth c cX10_worthFor RX10 9 (some .int)) {q : Int32 × Mm} {k51 : Int32 → Int32 → Int32 → Int32 → Int32 → Int32 → Int32 → Mm → Option (Int32 × Mm)} (hk51 : ∀ (v1 : Int32) (v2 : Int32) (v3 : Int32) (v4 : Int32) (v5 : Int32) (v7 : Int32) (v8 : Int32) (mm : Mm), k51 v1 v2 v3 v4 v5 v7 v8 mm = some q → ∀ (H : Heap) (locs : List Loc) (ls : Array Slot), Hx WN ad ca WS D A s.heap mm H locs → lv_has ls 9 [(0, .ref (ad 58)), (1, .int v1), (2, .int v2), (3, .int v3), (4, .int v4), (5, .int v5), (7, .int v7), (8, .int v8)] → W p l e (rmk 105) s m args below meth c H locs 0 0 (MQ below (QcI WN ad ca WS D A pzT q) args s 0 0 A) (F0 m 51 ls [])) {v1 : Int32} {v2 : Int32} {v3 : Int32} {v4 : Int32} {v5 : Int32} {v8 : Int32} {s0 : Int32} {s1 : Int32} {mm : Mm} (h : DX10_worthFor_77 k51 v1 v2 v3 v4 v5 v8 s0 s1 mm = some q) (hH : Hx WN ad ca WS D A s.heap mm H locs) (hl : lv_has ls 9 [(0, .ref (ad 58)), (1, .int v1), (2, .int v2), (3, .int v3), (4, .int v4), (5, .int v5), (8, .int v8)]) : W p l e (rmk 105) s m args below meth c H locs 0 0 (MQ below (QcI WN ad ca WS D A pzT q) args s 0 0 A) (F0 m 77 ls [.int s0, .int s1]) := by
  unfold DX10_worthFor_77 at h
  have hx := C.1
  have hb := C.2.1
  refine lv_iadd hx hb dX10_worthFor_77 ?_
  refine lv_istore (lv' := [(7, .int (s1 + s0)), (0, .ref (ad 58)), (1, .int v1), (2, .int v2), (3, .int v3), (4, .int v4), (5, .int v5), (8, .int v8)]) hx hb dX10_worthFor_78 hl (by decide) rfl (fun ls hl => ?_)
  refine lv_iinc (v := (v8 + 1)) (lv' := [(8, .int (v8 + 1)), (7, .int (s1 + s0)), (0, .ref (ad 58)), (1, .int v1), (2, .int v2), (3, .int v3), (4, .int v4), (5, .int v5)]) hx hb dX10_worthFor_80 hl (k := 7) rfl rfl (by decide) rfl (fun ls hl => ?_)
  refine lv_goto (tgt := 51) hx hb dX10_worthFor_83 (by decide) ?_
  exact hk51 _ _ _ _ _ _ _ _ h _ _ _ hH (lv_sub hl [2, 3, 4, 5, 6, 7, 1, 0] rfl)
set_option maxHeartbeats 2000000 in
set_option maxRecDepth 20000 in
theorem wbX10_worthFor_51 (C : Cx D ca A p s m args meth c cX10_worthFor RX10 9 (some .int)) {q : Int32 × Mm} {k51 : Int32 → Int32 → Int32 → Int32 → Int32 → Int32 → Int32 → Mm → Option (Int32 × Mm)} (hk51 : ∀ (v1 : Int32) (v2 : Int32) (v3 : Int32) (v4 : Int32) (v5 : Int32) (v7 : Int32) (v8 : Int32) (mm : Mm), k51 v1 v2 v3 v4 v5 v7 v8 mm = some q → ∀ (H : Heap) (locs : List Loc) (ls : Array Slot), Hx WN ad ca WS D A s.heap mm H locs → lv_has ls 9 [(0, .ref (ad 58)), (1, .int v1), (2, .int v2), (3, .int v3), (4, .int v4), (5, .int v5), (7, .int v7), (8, .int v8)] → W p l e (rmk 105) s m args below meth c H locs 0 0 (MQ below (QcI WN ad ca WS D A pzT q) args s 0 0 A) (F0 m 51 ls [])) {v1 : Int32} {v2 : Int32} {v3 : Int32} {v4 : Int32} {v5 : Int32} {v7 : Int32} {v8 : Int32} {mm : Mm} (h : BX10_worthFor_51 k51 v1 v2 v3 v4 v5 v7 v8 mm = some q) (hH : Hx WN ad ca WS D A s.heap mm H locs) (hl : lv_has ls 9 [(0, .ref (ad 58)), (1, .int v1), (2, .int v2), (3, .int v3), (4, .int v4), (5, .int v5), (7, .int v7), (8, .int v8)]) : W p l e (rmk 105) s m args below meth c H locs 0 0 (MQ below (QcI WN ad ca WS D A pzT q) args s 0 0 A) (F0 m 51 ls []) := by
  unfold BX10_worthFor_51 at h
  have hx := C.1
  have hb := C.2.1
  refine lv_iload hx hb dX10_worthFor_51 (lv_at hl 7 rfl) ?_
  refine lv_aload_n hx hb dX10_worthFor_53 rfl (lv_at hl 0 rfl) ?_
  refine rgI C hH fi_RX10_100_58 dX10_worthFor_54 ?_
  refine lv_icmp_ge (tgt := 86) hx hb dX10_worthFor_57 (by decide) (fun hc57 => ?_) (fun hc57 => ?_)
  · replace h := tT hc57 h
    refine lv_aload_n hx hb dX10_worthFor_86 rfl (lv_at hl 0 rfl) ?_
    refine rgS C hH fs_RX10_35_58 dX10_worthFor_87 ?_
    refine lv_iconst (v := 0) hx hb dX10_worthFor_90 (by decide) ?_
    refine lv_iload hx hb dX10_worthFor_91 (lv_at hl 4 rfl) ?_
    refine rwI C hH (k := 0) (by decide) (show WS 67 = .inr (0, 6, 0) from rfl) (show inB 0 6 from by decide) (by decide) dX10_worthFor_93 (fun H locs hH => ?_)
    refine lv_aload_n hx hb dX10_worthFor_94 rfl (lv_at hl 0 rfl) ?_
    refine rgS C hH fs_RX10_35_58 dX10_worthFor_95 ?_
    refine lv_iconst (v := 1) hx hb dX10_worthFor_98 (by decide) ?_
    refine lv_iload hx hb dX10_worthFor_99 (lv_at hl 5 rfl) ?_
    refine rwI C hH (k := 1) (by decide) (show WS 67 = .inr (0, 6, 0) from rfl) (show inB 1 6 from by decide) (by decide) dX10_worthFor_101 (fun H locs hH => ?_)
    refine lv_aload_n hx hb dX10_worthFor_102 rfl (lv_at hl 0 rfl) ?_
    refine rgS C hH fs_RX10_35_58 dX10_worthFor_103 ?_
    refine lv_iconst (v := 2) hx hb dX10_worthFor_106 (by decide) ?_
    refine lv_iload_n hx hb dX10_worthFor_107 rfl (lv_at hl 3 rfl) ?_
    refine rwI C hH (k := 2) (by decide) (show WS 67 = .inr (0, 6, 0) from rfl) (show inB 2 6 from by decide) (by decide) dX10_worthFor_108 (fun H locs hH => ?_)
    refine lv_aload_n hx hb dX10_worthFor_109 rfl (lv_at hl 0 rfl) ?_
    refine rgS C hH fs_RX10_35_58 dX10_worthFor_110 ?_
    refine lv_iconst (v := 3) hx hb dX10_worthFor_113 (by decide) ?_
    refine lv_iload hx hb dX10_worthFor_114 (lv_at hl 6 rfl) ?_
    refine rwI C hH (k := 3) (by decide) (show WS 67 = .inr (0, 6, 0) from rfl) (show inB 3 6 from by decide) (by decide) dX10_worthFor_116 (fun H locs hH => ?_)
    refine lv_aload_n hx hb dX10_worthFor_117 rfl (lv_at hl 0 rfl) ?_
    refine rgS C hH fs_RX10_35_58 dX10_worthFor_118 ?_
    refine lv_iconst (v := 4) hx hb dX10_worthFor_121 (by decide) ?_
    refine lv_iload_n hx hb dX10_worthFor_122 rfl (lv_at hl 2 rfl) ?_
    refine rwI C hH (k := 4) (by decide) (show WS 67 = .inr (0, 6, 0) from rfl) (show inB 4 6 from by decide) (by decide) dX10_worthFor_123 (fun H locs hH => ?_)
    refine lv_aload_n hx hb dX10_worthFor_124 rfl (lv_at hl 0 rfl) ?_
    refine rgS C hH fs_RX10_35_58 dX10_worthFor_125 ?_
    refine lv_iconst (v := 5) hx hb dX10_worthFor_128 (by decide) ?_
    refine lv_iload_n hx hb dX10_worthFor_129 rfl (lv_at hl 1 rfl) ?_
    refine rwI C hH (k := 5) (by decide) (show WS 67 = .inr (0, 6, 0) from rfl) (show inB 5 6 from by decide) (by decide) dX10_worthFor_130 (fun H locs hH => ?_)
    refine lv_aload_n hx hb dX10_worthFor_131 rfl (lv_at hl 0 rfl) ?_
    refine lv_iconst (v := 0) hx hb dX10_worthFor_132 (by decide) ?_
    refine lv_aload_n hx hb dX10_worthFor_133 rfl (lv_at hl 0 rfl) ?_
    refine rgI C hH fi_RX10_84_58 dX10_worthFor_134 ?_
    obtain ⟨q137, e137, h⟩ := tB h
    refine rcI C hH hl.1 (mX10_workOut l e137) cf_RX10_204 ro_58 (RR_of (by decide) (by decide)) rfl (rest := []) rfl (Nat.le_of_ble_eq_true rfl) dX10_worthFor_137 ?_
    intro hz137 H locs hH
    refine lv_istore (lv' := [(6, .int q137.1), (0, .ref (ad 58)), (1, .int v1), (2, .int v2), (3, .int v3), (4, .int v4), (5, .int v5), (7, .int v7), (8, .int v8)]) hx hb dX10_worthFor_140 hl (by decide) rfl (fun ls hl => ?_)
    exact wX10_worthFor_142 C h hH (lv_sub hl [0] rfl)
  · replace h := tF hc57 h
    refine lv_iload hx hb dX10_worthFor_60 (lv_at hl 6 rfl) ?_
    refine lv_aload_n hx hb dX10_worthFor_62 rfl (lv_at hl 0 rfl) ?_
    refine rgS C hH fs_RX10_22_58 dX10_worthFor_63 ?_
    refine lv_iload hx hb dX10_worthFor_66 (lv_at hl 7 rfl) ?_
    obtain ⟨hi68, h⟩ := tC h
    refine raI C hH (k := (Int32.toNatClampNeg v8)) (by decide) (show WS 63 = .inr (0, 10, 0) from rfl) hi68 rfl dX10_worthFor_68 ?_
    refine lv_if_lt (tgt := 76) hx hb dX10_worthFor_69 (by decide) (fun hc69 => ?_) (fun hc69 => ?_)
    · replace h := tT hc69 h
      refine lv_iconst (v := 0) hx hb dX10_worthFor_76 (by decide) ?_
      exact wX10_worthFor_77 C hk51 h hH (lv_sub hl [0, 1, 2, 3, 4, 5, 7] rfl)
    · replace h := tF hc69 h
      refine lv_iconst (v := 1) hx hb dX10_worthFor_72 (by decide) ?_
      refine lv_goto (tgt := 77) hx hb dX10_worthFor_73 (by decide) ?_
      exact wX10_worthFor_77 C hk51 h hH (lv_sub hl [0, 1, 2, 3, 4, 5, 7] rfl)
set_option maxHeartbeats 2000000 in
set_option maxRecDepth 20000 in
theorem wX10_worthFor_51 (C : Cx D ca A p s m args meth c cX10_worthFor RX10 9 (some .int)) {q : Int32 × Mm} : ∀ (N : Nat) (v1 : Int32) (v2 : Int32) (v3 : Int32) (v4 : Int32) (v5 : Int32) (v7 : Int32) (v8 : Int32) (mm : Mm), DX10_worthFor_51 N v1 v2 v3 v4 v5 v7 v8 mm = some q → ∀ (H : Heap) (locs : List Loc) (ls : Array Slot), Hx WN ad ca WS D A s.heap mm H locs → lv_has ls 9 [(0, .ref (ad 58)), (1, .int v1), (2, .int v2), (3, .int v3), (4, .int v4), (5, .int v5), (7, .int v7), (8, .int v8)] → W p l e (rmk 105) s m args below meth c H locs 0 0 (MQ below (QcI WN ad ca WS D A pzT q) args s 0 0 A) (F0 m 51 ls []) := by
  intro N
  induction N with
  | zero =>
    intro v1 v2 v3 v4 v5 v7 v8 mm h
    have h2 : (none : Option (Int32 × Mm)) = some q := h
    cases h2
  | succ N ih =>
    intro v1 v2 v3 v4 v5 v7 v8 mm h H locs ls hH hl
    exact wbX10_worthFor_51 C ih h hH hl
set_option maxHeartbeats 2000000 in
set_option maxRecDepth 20000 in
theorem wX10_worthFor_26 (C : Cx D ca A p s m args meth c cX10_worthFor RX10 9 (some .int)) {q : Int32 × Mm} {v1 : Int32} {v2 : Int32} {v3 : Int32} {v4 : Int32} {s0 : Int32} {mm : Mm} (h : DX10_worthFor_26 v1 v2 v3 v4 s0 mm = some q) (hH : Hx WN ad ca WS D A s.heap mm H locs) (hl : lv_has ls 9 [(0, .ref (ad 58)), (1, .int v1), (2, .int v2), (3, .int v3), (4, .int v4)]) : W p l e (rmk 105) s m args below meth c H locs 0 0 (MQ below (QcI WN ad ca WS D A pzT q) args s 0 0 A) (F0 m 26 ls [.int s0]) := by
  unfold DX10_worthFor_26 at h
  have hx := C.1
  have hb := C.2.1
  refine lv_istore (lv' := [(5, .int s0), (0, .ref (ad 58)), (1, .int v1), (2, .int v2), (3, .int v3), (4, .int v4)]) hx hb dX10_worthFor_26 hl (by decide) rfl (fun ls hl => ?_)
  refine lv_iload hx hb dX10_worthFor_28 (lv_at hl 5 rfl) ?_
  refine lv_iload hx hb dX10_worthFor_30 (lv_at hl 0 rfl) ?_
  refine lv_iload hx hb dX10_worthFor_32 (lv_at hl 5 rfl) ?_
  refine lv_imul hx hb dX10_worthFor_34 ?_
  refine lv_iadd hx hb dX10_worthFor_35 ?_
  refine lv_istore (lv' := [(6, .int (v4 + (s0 * v4))), (5, .int s0), (0, .ref (ad 58)), (1, .int v1), (2, .int v2), (3, .int v3), (4, .int v4)]) hx hb dX10_worthFor_36 hl (by decide) rfl (fun ls hl => ?_)
  refine lv_aload_n hx hb dX10_worthFor_38 rfl (lv_at hl 2 rfl) ?_
  refine rgI C hH fi_RX10_84_58 dX10_worthFor_39 ?_
  refine lv_if_lt (tgt := 142) hx hb dX10_worthFor_42 (by decide) (fun hc42 => ?_) (fun hc42 => ?_)
  · replace h := tT hc42 h
    exact wX10_worthFor_142 C h hH (lv_sub hl [0] rfl)
  · replace h := tF hc42 h
    refine lv_iconst (v := 0) hx hb dX10_worthFor_45 (by decide) ?_
    refine lv_istore (lv' := [(7, .int 0), (6, .int (v4 + (s0 * v4))), (5, .int s0), (0, .ref (ad 58)), (1, .int v1), (2, .int v2), (3, .int v3), (4, .int v4)]) hx hb dX10_worthFor_46 hl (by decide) rfl (fun ls hl => ?_)
    refine lv_iconst (v := 0) hx hb dX10_worthFor_48 (by decide) ?_
    refine lv_istore (lv' := [(8, .int 0), (7, .int 0), (6, .int (v4 + (s0 * v4))), (5, .int s0), (0, .ref (ad 58)), (1, .int v1), (2, .int v2), (3, .int v3), (4, .int v4)]) hx hb dX10_worthFor_49 hl (by decide) rfl (fun ls hl => ?_)
    exact wX10_worthFor_51 C FU _ _ _ _ _ _ _ _ h _ _ _ hH (lv_sub hl [4, 5, 6, 7, 8, 3, 1, 0] rfl)
set_option maxHeartbeats 2000000 in
set_option maxRecDepth 20000 in
theorem mX10_worthFor (l : Launch) {D : va_G} {ca : Nat → ClassId} {A : Nat → Prop} {ad : Nat → Nat} {v1 : Int32} {v2 : Int32} {v3 : Int32} {mm : Mm} {q : Int32 × Mm} (h : dX10_worthFor v1 v2 v3 mm = some q) : Met l yX10_worthFor (wsOf yX10_worthFor cX10_worthFor 9 (some .int)) (rmk 105) (PcX WN ad ca WS D A [.ref (ad 58), .int v1, .int v2, .int v3] mm) (QcI WN ad ca WS D A pzT q) 0 0 A := by
  unfold dX10_worthFor at h
  refine ent (by decide) (Nat.le_of_ble_eq_true rfl) (fun p e s m args below meth c hargs C hH ls hl => ?_)
  have hx := C.1
  have hb := C.2.1
  have hl : lv_has ls 9 [(0, .ref (ad 58)), (1, .int v1), (2, .int v2), (3, .int v3)] := hl
  refine lv_aload_n hx hb dX10_worthFor_0 rfl (lv_at hl 0 rfl) ?_
  refine rgS C hH fs_RX10_9_58 dX10_worthFor_1 ?_
  refine lv_iload_n hx hb dX10_worthFor_4 rfl (lv_at hl 2 rfl) ?_
  obtain ⟨hi5, h⟩ := tC h
  refine raI C hH (k := (Int32.toNatClampNeg v2)) (by decide) (show WS 59 = .inr (0, 62, 0) from rfl) hi5 rfl dX10_worthFor_5 ?_
  refine lv_istore (lv' := [(4, .int (gI mm 59 (Int32.toNatClampNeg v2))), (0, .ref (ad 58)), (1, .int v1), (2, .int v2), (3, .int v3)]) hx hb dX10_worthFor_6 hl (by decide) rfl (fun ls hl => ?_)
  refine lv_aload_n hx hb dX10_worthFor_8 rfl (lv_at hl 1 rfl) ?_
  refine rgS C hH fs_RX10_9_58 dX10_worthFor_9 ?_
  refine lv_bipush (v := 50) hx hb dX10_worthFor_12 (by decide) ?_
  refine lv_iload_n hx hb dX10_worthFor_14 rfl (lv_at hl 2 rfl) ?_
  refine lv_iadd hx hb dX10_worthFor_15 ?_
  obtain ⟨hi16, h⟩ := tC h
  refine raI C hH (k := (Int32.toNatClampNeg (50 + v1))) (by decide) (show WS 59 = .inr (0, 62, 0) from rfl) hi16 rfl dX10_worthFor_16 ?_
  refine lv_iload_n hx hb dX10_worthFor_17 rfl (lv_at hl 3 rfl) ?_
  refine lv_icmp_ne (tgt := 25) hx hb dX10_worthFor_18 (by decide) (fun hc18 => ?_) (fun hc18 => ?_)
  · replace h := tF hc18 h
    refine lv_iconst (v := 0) hx hb dX10_worthFor_25 (by decide) ?_
    exact wX10_worthFor_26 C h hH (lv_sub hl [1, 2, 3, 4, 0] rfl)
  · replace h := tT hc18 h
    refine lv_iconst (v := 1) hx hb dX10_worthFor_21 (by decide) ?_
    refine lv_goto (tgt := 26) hx hb dX10_worthFor_22 (by decide) ?_
    exact wX10_worthFor_26 C h hH (lv_sub hl [1, 2, 3, 4, 0] rfl)
set_option maxHeartbeats 2000000 in
set_option maxRecDepth 20000 in
theorem wX10_worthOf_60 (C : Cx D ca A p s m args meth c cX10_worthOf RX10 3 (some .int)) {q : Int32 × Mm} {mm : Mm} (h : DX10_worthOf_60 mm = some q) (hH : Hx WN ad ca WS D A s.heap mm H locs) (hl : lv_has ls 3 []) : W p l e (rmk 106) s m args below meth c H locs 0 0 (MQ below (QcI WN ad ca WS D A pzT q) args s 0 0 A) (F0 m 60 ls []) := by
  unfold DX10_worthOf_60 at h
  have hx := C.1
  have hb := C.2.1
  refine lv_iconst (v := (-1)) hx hb dX10_worthOf_60 (by decide) ?_
  have h := Option.some.inj h
  subst h
  exact retI C hH trivial dX10_worthOf_61
set_option maxHeartbeats 2000000 in
set_option maxRecDepth 20000 in
theorem mX10_worthOf (l : Launch) {D : va_G} {ca : Nat → ClassId} {A : Nat → Prop} {ad : Nat → Nat} {v1 : Int32} {v2 : Int32} {mm : Mm} {q : Int32 × Mm} (h : dX10_worthOf v1 v2 mm = some q) : Met l yX10_worthOf (wsOf yX10_worthOf cX10_worthOf 3 (some .int)) (rmk 106) (PcX WN ad ca WS D A [.ref (ad 58), .int v1, .int v2] mm) (QcI WN ad ca WS D A pzT q) 0 0 A := by
  unfold dX10_worthOf at h
  refine ent (by decide) (Nat.le_of_ble_eq_true rfl) (fun p e s m args below meth c hargs C hH ls hl => ?_)
  have hx := C.1
  have hb := C.2.1
  have hl : lv_has ls 3 [(0, .ref (ad 58)), (1, .int v1), (2, .int v2)] := hl
  refine lv_aload_n hx hb dX10_worthOf_0 rfl (lv_at hl 0 rfl) ?_
  refine lv_iload_n hx hb dX10_worthOf_1 rfl (lv_at hl 1 rfl) ?_
  refine lv_i2l' hx hb dX10_worthOf_2 ?_
  obtain ⟨q3, e3, h⟩ := tB h
  refine rcI C hH hl.1 (mX10_isBuyer l e3) cf_RX10_135 ro_58 (RR_of (by decide) (by decide)) rfl (rest := []) rfl (Nat.le_of_ble_eq_true rfl) dX10_worthOf_3 ?_
  intro hz3 H locs hH
  refine lv_if_eq (tgt := 60) hx hb dX10_worthOf_6 (by decide) (fun hc6 => ?_) (fun hc6 => ?_)
  · replace h := tT hc6 h
    exact wX10_worthOf_60 C h hH (lv_sub hl [] rfl)
  · replace h := tF hc6 h
    refine lv_iload_n hx hb dX10_worthOf_9 rfl (lv_at hl 2 rfl) ?_
    refine lv_if_lt (tgt := 60) hx hb dX10_worthOf_10 (by decide) (fun hc10 => ?_) (fun hc10 => ?_)
    · replace h := tT hc10 h
      exact wX10_worthOf_60 C h hH (lv_sub hl [] rfl)
    · replace h := tF hc10 h
      refine lv_aload_n hx hb dX10_worthOf_13 rfl (lv_at hl 0 rfl) ?_
      refine lv_iload_n hx hb dX10_worthOf_14 rfl (lv_at hl 2 rfl) ?_
      refine lv_bipush (v := 10) hx hb dX10_worthOf_15 (by decide) ?_
      refine lv_idiv hx hb dX10_worthOf_17 (by decide) ?_
      refine lv_i2l' hx hb dX10_worthOf_18 ?_
      obtain ⟨q19, e19, h⟩ := tB h
      refine rcI C hH hl.1 (mX10_isSack l e19) cf_RX10_130 ro_58 (RR_of (by decide) (by decide)) rfl (rest := []) rfl (Nat.le_of_ble_eq_true rfl) dX10_worthOf_19 ?_
      intro hz19 H locs hH
      refine lv_if_eq (tgt := 60) hx hb dX10_worthOf_22 (by decide) (fun hc22 => ?_) (fun hc22 => ?_)
      · replace h := tT hc22 h
        exact wX10_worthOf_60 C h hH (lv_sub hl [] rfl)
      · replace h := tF hc22 h
        refine lv_iload_n hx hb dX10_worthOf_25 rfl (lv_at hl 2 rfl) ?_
        refine lv_bipush (v := 10) hx hb dX10_worthOf_26 (by decide) ?_
        refine lv_irem' hx hb dX10_worthOf_28 (by decide) ?_
        refine lv_i2l' hx hb dX10_worthOf_29 ?_
        obtain ⟨q30, e30, h⟩ := tB h
        refine rsI C hH hl.1 (mX10_isGood l e30) cs_RX10_106 (RR_of (by decide) (by decide)) rfl (rest := []) rfl (Nat.le_of_ble_eq_true rfl) dX10_worthOf_30 ?_
        intro hz30 H locs hH
        refine lv_if_eq (tgt := 60) hx hb dX10_worthOf_33 (by decide) (fun hc33 => ?_) (fun hc33 => ?_)
        · replace h := tT hc33 h
          exact wX10_worthOf_60 C h hH (lv_sub hl [] rfl)
        · replace h := tF hc33 h
          refine lv_aload_n hx hb dX10_worthOf_36 rfl (lv_at hl 0 rfl) ?_
          refine lv_iload_n hx hb dX10_worthOf_37 rfl (lv_at hl 1 rfl) ?_
          refine lv_iload_n hx hb dX10_worthOf_38 rfl (lv_at hl 2 rfl) ?_
          refine lv_bipush (v := 10) hx hb dX10_worthOf_39 (by decide) ?_
          refine lv_irem' hx hb dX10_worthOf_41 (by decide) ?_
          refine lv_aload_n hx hb dX10_worthOf_42 rfl (lv_at hl 0 rfl) ?_
          refine rgS C hH fs_RX10_9_58 dX10_worthOf_43 ?_
          refine lv_bipush (v := 34) hx hb dX10_worthOf_46 (by decide) ?_
          refine lv_iload_n hx hb dX10_worthOf_48 rfl (lv_at hl 2 rfl) ?_
          refine lv_bipush (v := 10) hx hb dX10_worthOf_49 (by decide) ?_
          refine lv_idiv hx hb dX10_worthOf_51 (by decide) ?_
          refine lv_iadd hx hb dX10_worthOf_52 ?_
          obtain ⟨hi53, h⟩ := tC h
          refine raI C hH (k := (Int32.toNatClampNeg (34 + (v2 / 10)))) (by decide) (show WS 59 = .inr (0, 62, 0) from rfl) hi53 rfl dX10_worthOf_53 ?_
          obtain ⟨q54, e54, h⟩ := tB h
          refine rcI C hH hl.1 (mX10_worthFor l e54) cf_RX10_207 ro_58 (RR_of (by decide) (by decide)) rfl (rest := []) rfl (Nat.le_of_ble_eq_true rfl) dX10_worthOf_54 ?_
          intro hz54 H locs hH
          refine lv_goto (tgt := 61) hx hb dX10_worthOf_57 (by decide) ?_
          have h := Option.some.inj h
          subst h
          exact retI C hH trivial dX10_worthOf_61
end WALK
