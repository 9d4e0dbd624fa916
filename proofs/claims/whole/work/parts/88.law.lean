/-! ===== the walk of the law (laid by wip/whole/gen.py) ===== -/
section WALK
variable {p : Program} {l : Launch} {e : Env} {s : State} {m : MethodId} {args : Array Value} {below : List Frame} {meth : Method} {c : Code} {H : Heap} {locs : List Loc} {Q : State → Prop} {cells slots : Nat} {ls : Array Slot} {D : va_G} {ca : Nat → ClassId} {A : Nat → Prop} {ad : Nat → Nat}
set_option maxHeartbeats 2000000 in
set_option maxRecDepth 20000 in
theorem wL_law_1449 (C : Cx D ca A p s m args meth c cL_law RL 4 (some .boolean)) {q : Int32 × Mm} {b L : Nat} {xs : Nat → Int32} (hX : va_X b L xs s s.heap) (hbl : b < s.heap.size) (hbA : ¬ A b) (hRR : ∀ lev n, lev ≤ 1000 → n ≤ 21 → RR room_1 lev n cells slots) (hq : q.1 = 1) (hend : ∀ {mm : Mm} {H : Heap} {locs : List Loc} {ls : Array Slot}, Hx WN ad ca WS D A s.heap mm H locs → W p l e room_1 s m args below meth c H locs cells slots Q (F0 m 1456 ls [.int 1])) {k18 : Int32 → Mm → Option (Int32 × Mm)} (hk18 : ∀ (v3 : Int32) (mm : Mm), k18 v3 mm = some q → ∀ (H : Heap) (locs : List Loc) (ls : Array Slot), Hx WN ad ca WS D A s.heap mm H locs → lv_has ls 4 [(0, .ref b), (1, .ref (ad 0)), (2, .ref (ad 58)), (3, .int v3)] → W p l e room_1 s m args below meth c H locs cells slots Q (F0 m 18 ls [])) {v3 : Int32} {mm : Mm} (h : DL_law_1449 L xs k18 v3 mm = some q) (hH : Hx WN ad ca WS D A s.heap mm H locs) (hl : lv_has ls 4 [(0, .ref b), (1, .ref (ad 0)), (2, .ref (ad 58)), (3, .int v3)]) : W p l e room_1 s m args below meth c H locs cells slots Q (F0 m 1449 ls []) := by
  unfold DL_law_1449 at h
  have hx := C.1
  have hb := C.2.1
  refine lv_iinc (v := (v3 + 6)) (lv' := [(3, .int (v3 + 6)), (0, .ref b), (1, .ref (ad 0)), (2, .ref (ad 58))]) hx hb dL_law_1449 hl (k := 3) rfl rfl (by decide) rfl (fun ls hl => ?_)
  refine lv_goto (tgt := 18) hx hb dL_law_1452 (by decide) ?_
  exact hk18 _ _ h _ _ _ hH (lv_sub hl [1, 2, 3, 0] rfl)
set_option maxHeartbeats 2000000 in
set_option maxRecDepth 20000 in
theorem wL_law_200 (C : Cx D ca A p s m args meth c cL_law RL 4 (some .boolean)) {q : Int32 × Mm} {b L : Nat} {xs : Nat → Int32} (hX : va_X b L xs s s.heap) (hbl : b < s.heap.size) (hbA : ¬ A b) (hRR : ∀ lev n, lev ≤ 1000 → n ≤ 21 → RR room_1 lev n cells slots) (hq : q.1 = 1) (hend : ∀ {mm : Mm} {H : Heap} {locs : List Loc} {ls : Array Slot}, Hx WN ad ca WS D A s.heap mm H locs → W p l e room_1 s m args below meth c H locs cells slots Q (F0 m 1456 ls [.int 1])) {k18 : Int32 → Mm → Option (Int32 × Mm)} (hk18 : ∀ (v3 : Int32) (mm : Mm), k18 v3 mm = some q → ∀ (H : Heap) (locs : List Loc) (ls : Array Slot), Hx WN ad ca WS D A s.heap mm H locs → lv_has ls 4 [(0, .ref b), (1, .ref (ad 0)), (2, .ref (ad 58)), (3, .int v3)] → W p l e room_1 s m args below meth c H locs cells slots Q (F0 m 18 ls [])) {v3 : Int32} {mm : Mm} (h : DL_law_200 L xs k18 v3 mm = some q) (hH : Hx WN ad ca WS D A s.heap mm H locs) (hl : lv_has ls 4 [(0, .ref b), (1, .ref (ad 0)), (2, .ref (ad 58)), (3, .int v3)]) : W p l e room_1 s m args below meth c H locs cells slots Q (F0 m 200 ls []) := by
  unfold DL_law_200 at h
  have hx := C.1
  have hb := C.2.1
  refine lv_aload_n hx hb dL_law_200 rfl (lv_at hl 1 rfl) ?_
  refine lv_aload_n hx hb dL_law_201 rfl (lv_at hl 0 rfl) ?_
  refine lv_iload_n hx hb dL_law_202 rfl (lv_at hl 3 rfl) ?_
  refine lv_iconst (v := 1) hx hb dL_law_203 (by decide) ?_
  refine lv_iadd hx hb dL_law_204 ?_
  obtain ⟨hi205, h⟩ := tC h
  refine va_sld hx hb hX hbl hbA hH.2.2 hi205 dL_law_205 ?_
  obtain ⟨q206, e206, h⟩ := tB h
  refine rcI C hH hl.1 (mX9_sack l e206) cf_RL_13 ro_0 (hRR 2 2 (by decide) (by decide)) rfl (rest := []) rfl (Nat.le_of_ble_eq_true rfl) dL_law_206 ?_
  intro hz206 H locs hH
  refine lv_aload_n hx hb dL_law_209 rfl (lv_at hl 2 rfl) ?_
  refine lv_aload_n hx hb dL_law_210 rfl (lv_at hl 0 rfl) ?_
  refine lv_iload_n hx hb dL_law_211 rfl (lv_at hl 3 rfl) ?_
  refine lv_iconst (v := 1) hx hb dL_law_212 (by decide) ?_
  refine lv_iadd hx hb dL_law_213 ?_
  obtain ⟨hi214, h⟩ := tC h
  refine va_sld hx hb hX hbl hbA hH.2.2 hi214 dL_law_214 ?_
  obtain ⟨q215, e215, h⟩ := tB h
  refine rcI C hH hl.1 (mX10_sack l e215) cf_RL_17 ro_58 (hRR 3 2 (by decide) (by decide)) rfl (rest := [.int q206.1]) rfl (Nat.le_of_ble_eq_true rfl) dL_law_215 ?_
  intro hz215 H locs hH
  refine lv_icmp_eq (tgt := 1449) hx hb dL_law_218 (by decide) (fun hc218 => ?_) (fun hc218 => ?_)
  · replace h := tT hc218 h
    exact wL_law_1449 C hX hbl hbA hRR hq hend hk18 h hH (lv_sub hl [0, 1, 2, 3] rfl)
  · replace h := tF hc218 h
    refine lv_iconst (v := 0) hx hb dL_law_221 (by decide) ?_
    have h := Option.some.inj h
    subst h
    exact absurd (show (0 : Int32) = 1 from hq) (by decide)
set_option maxHeartbeats 2000000 in
set_option maxRecDepth 20000 in
theorem wL_law_223 (C : Cx D ca A p s m args meth c cL_law RL 4 (some .boolean)) {q : Int32 × Mm} {b L : Nat} {xs : Nat → Int32} (hX : va_X b L xs s s.heap) (hbl : b < s.heap.size) (hbA : ¬ A b) (hRR : ∀ lev n, lev ≤ 1000 → n ≤ 21 → RR room_1 lev n cells slots) (hq : q.1 = 1) (hend : ∀ {mm : Mm} {H : Heap} {locs : List Loc} {ls : Array Slot}, Hx WN ad ca WS D A s.heap mm H locs → W p l e room_1 s m args below meth c H locs cells slots Q (F0 m 1456 ls [.int 1])) {k18 : Int32 → Mm → Option (Int32 × Mm)} (hk18 : ∀ (v3 : Int32) (mm : Mm), k18 v3 mm = some q → ∀ (H : Heap) (locs : List Loc) (ls : Array Slot), Hx WN ad ca WS D A s.heap mm H locs → lv_has ls 4 [(0, .ref b), (1, .ref (ad 0)), (2, .ref (ad 58)), (3, .int v3)] → W p l e room_1 s m args below meth c H locs cells slots Q (F0 m 18 ls [])) {v3 : Int32} {mm : Mm} (h : DL_law_223 L xs k18 v3 mm = some q) (hH : Hx WN ad ca WS D A s.heap mm H locs) (hl : lv_has ls 4 [(0, .ref b), (1, .ref (ad 0)), (2, .ref (ad 58)), (3, .int v3)]) : W p l e room_1 s m args below meth c H locs cells slots Q (F0 m 223 ls []) := by
  unfold DL_law_223 at h
  have hx := C.1
  have hb := C.2.1
  refine lv_aload_n hx hb dL_law_223 rfl (lv_at hl 1 rfl) ?_
  refine lv_aload_n hx hb dL_law_224 rfl (lv_at hl 0 rfl) ?_
  refine lv_iload_n hx hb dL_law_225 rfl (lv_at hl 3 rfl) ?_
  refine lv_iconst (v := 1) hx hb dL_law_226 (by decide) ?_
  refine lv_iadd hx hb dL_law_227 ?_
  obtain ⟨hi228, h⟩ := tC h
  refine va_sld hx hb hX hbl hbA hH.2.2 hi228 dL_law_228 ?_
  refine lv_aload_n hx hb dL_law_229 rfl (lv_at hl 0 rfl) ?_
  refine lv_iload_n hx hb dL_law_230 rfl (lv_at hl 3 rfl) ?_
  refine lv_iconst (v := 2) hx hb dL_law_231 (by decide) ?_
  refine lv_iadd hx hb dL_law_232 ?_
  obtain ⟨hi233, h⟩ := tC h
  refine va_sld hx hb hX hbl hbA hH.2.2 hi233 dL_law_233 ?_
  refine lv_aload_n hx hb dL_law_234 rfl (lv_at hl 0 rfl) ?_
  refine lv_iload_n hx hb dL_law_235 rfl (lv_at hl 3 rfl) ?_
  refine lv_iconst (v := 3) hx hb dL_law_236 (by decide) ?_
  refine lv_iadd hx hb dL_law_237 ?_
  obtain ⟨hi238, h⟩ := tC h
  refine va_sld hx hb hX hbl hbA hH.2.2 hi238 dL_law_238 ?_
  obtain ⟨q239, e239, h⟩ := tB h
  refine rcI C hH hl.1 (mX9_sacks l e239) cf_RL_18 ro_0 (hRR 4 6 (by decide) (by decide)) rfl (rest := []) rfl (Nat.le_of_ble_eq_true rfl) dL_law_239 ?_
  intro hz239 H locs hH
  refine lv_aload_n hx hb dL_law_242 rfl (lv_at hl 2 rfl) ?_
  refine lv_aload_n hx hb dL_law_243 rfl (lv_at hl 0 rfl) ?_
  refine lv_iload_n hx hb dL_law_244 rfl (lv_at hl 3 rfl) ?_
  refine lv_iconst (v := 1) hx hb dL_law_245 (by decide) ?_
  refine lv_iadd hx hb dL_law_246 ?_
  obtain ⟨hi247, h⟩ := tC h
  refine va_sld hx hb hX hbl hbA hH.2.2 hi247 dL_law_247 ?_
  refine lv_aload_n hx hb dL_law_248 rfl (lv_at hl 0 rfl) ?_
  refine lv_iload_n hx hb dL_law_249 rfl (lv_at hl 3 rfl) ?_
  refine lv_iconst (v := 2) hx hb dL_law_250 (by decide) ?_
  refine lv_iadd hx hb dL_law_251 ?_
  obtain ⟨hi252, h⟩ := tC h
  refine va_sld hx hb hX hbl hbA hH.2.2 hi252 dL_law_252 ?_
  refine lv_aload_n hx hb dL_law_253 rfl (lv_at hl 0 rfl) ?_
  refine lv_iload_n hx hb dL_law_254 rfl (lv_at hl 3 rfl) ?_
  refine lv_iconst (v := 3) hx hb dL_law_255 (by decide) ?_
  refine lv_iadd hx hb dL_law_256 ?_
  obtain ⟨hi257, h⟩ := tC h
  refine va_sld hx hb hX hbl hbA hH.2.2 hi257 dL_law_257 ?_
  obtain ⟨q258, e258, h⟩ := tB h
  refine rcI C hH hl.1 (mX10_sacks l e258) cf_RL_22 ro_58 (hRR 3 7 (by decide) (by decide)) rfl (rest := [.int q239.1]) rfl (Nat.le_of_ble_eq_true rfl) dL_law_258 ?_
  intro hz258 H locs hH
  refine lv_icmp_eq (tgt := 1449) hx hb dL_law_261 (by decide) (fun hc261 => ?_) (fun hc261 => ?_)
  · replace h := tT hc261 h
    exact wL_law_1449 C hX hbl hbA hRR hq hend hk18 h hH (lv_sub hl [0, 1, 2, 3] rfl)
  · replace h := tF hc261 h
    refine lv_iconst (v := 0) hx hb dL_law_264 (by decide) ?_
    have h := Option.some.inj h
    subst h
    exact absurd (show (0 : Int32) = 1 from hq) (by decide)
set_option maxHeartbeats 2000000 in
set_option maxRecDepth 20000 in
theorem wL_law_266 (C : Cx D ca A p s m args meth c cL_law RL 4 (some .boolean)) {q : Int32 × Mm} {b L : Nat} {xs : Nat → Int32} (hX : va_X b L xs s s.heap) (hbl : b < s.heap.size) (hbA : ¬ A b) (hRR : ∀ lev n, lev ≤ 1000 → n ≤ 21 → RR room_1 lev n cells slots) (hq : q.1 = 1) (hend : ∀ {mm : Mm} {H : Heap} {locs : List Loc} {ls : Array Slot}, Hx WN ad ca WS D A s.heap mm H locs → W p l e room_1 s m args below meth c H locs cells slots Q (F0 m 1456 ls [.int 1])) {k18 : Int32 → Mm → Option (Int32 × Mm)} (hk18 : ∀ (v3 : Int32) (mm : Mm), k18 v3 mm = some q → ∀ (H : Heap) (locs : List Loc) (ls : Array Slot), Hx WN ad ca WS D A s.heap mm H locs → lv_has ls 4 [(0, .ref b), (1, .ref (ad 0)), (2, .ref (ad 58)), (3, .int v3)] → W p l e room_1 s m args below meth c H locs cells slots Q (F0 m 18 ls [])) {v3 : Int32} {mm : Mm} (h : DL_law_266 L xs k18 v3 mm = some q) (hH : Hx WN ad ca WS D A s.heap mm H locs) (hl : lv_has ls 4 [(0, .ref b), (1, .ref (ad 0)), (2, .ref (ad 58)), (3, .int v3)]) : W p l e room_1 s m args below meth c H locs cells slots Q (F0 m 266 ls []) := by
  unfold DL_law_266 at h
  have hx := C.1
  have hb := C.2.1
  refine lv_aload_n hx hb dL_law_266 rfl (lv_at hl 1 rfl) ?_
  refine lv_aload_n hx hb dL_law_267 rfl (lv_at hl 0 rfl) ?_
  refine lv_iload_n hx hb dL_law_268 rfl (lv_at hl 3 rfl) ?_
  refine lv_iconst (v := 1) hx hb dL_law_269 (by decide) ?_
  refine lv_iadd hx hb dL_law_270 ?_
  obtain ⟨hi271, h⟩ := tC h
  refine va_sld hx hb hX hbl hbA hH.2.2 hi271 dL_law_271 ?_
  refine lv_aload_n hx hb dL_law_272 rfl (lv_at hl 0 rfl) ?_
  refine lv_iload_n hx hb dL_law_273 rfl (lv_at hl 3 rfl) ?_
  refine lv_iconst (v := 2) hx hb dL_law_274 (by decide) ?_
  refine lv_iadd hx hb dL_law_275 ?_
  obtain ⟨hi276, h⟩ := tC h
  refine va_sld hx hb hX hbl hbA hH.2.2 hi276 dL_law_276 ?_
  obtain ⟨q277, e277, h⟩ := tB h
  refine rcI C hH hl.1 (mX9_buyer l e277) cf_RL_23 ro_0 (hRR 2 3 (by decide) (by decide)) rfl (rest := []) rfl (Nat.le_of_ble_eq_true rfl) dL_law_277 ?_
  intro hz277 H locs hH
  refine lv_aload_n hx hb dL_law_280 rfl (lv_at hl 2 rfl) ?_
  refine lv_aload_n hx hb dL_law_281 rfl (lv_at hl 0 rfl) ?_
  refine lv_iload_n hx hb dL_law_282 rfl (lv_at hl 3 rfl) ?_
  refine lv_iconst (v := 1) hx hb dL_law_283 (by decide) ?_
  refine lv_iadd hx hb dL_law_284 ?_
  obtain ⟨hi285, h⟩ := tC h
  refine va_sld hx hb hX hbl hbA hH.2.2 hi285 dL_law_285 ?_
  refine lv_aload_n hx hb dL_law_286 rfl (lv_at hl 0 rfl) ?_
  refine lv_iload_n hx hb dL_law_287 rfl (lv_at hl 3 rfl) ?_
  refine lv_iconst (v := 2) hx hb dL_law_288 (by decide) ?_
  refine lv_iadd hx hb dL_law_289 ?_
  obtain ⟨hi290, h⟩ := tC h
  refine va_sld hx hb hX hbl hbA hH.2.2 hi290 dL_law_290 ?_
  obtain ⟨q291, e291, h⟩ := tB h
  refine rcI C hH hl.1 (mX10_buyer l e291) cf_RL_27 ro_58 (hRR 2 3 (by decide) (by decide)) rfl (rest := [.int q277.1]) rfl (Nat.le_of_ble_eq_true rfl) dL_law_291 ?_
  intro hz291 H locs hH
  refine lv_icmp_eq (tgt := 1449) hx hb dL_law_294 (by decide) (fun hc294 => ?_) (fun hc294 => ?_)
  · replace h := tT hc294 h
    exact wL_law_1449 C hX hbl hbA hRR hq hend hk18 h hH (lv_sub hl [0, 1, 2, 3] rfl)
  · replace h := tF hc294 h
    refine lv_iconst (v := 0) hx hb dL_law_297 (by decide) ?_
    have h := Option.some.inj h
    subst h
    exact absurd (show (0 : Int32) = 1 from hq) (by decide)
set_option maxHeartbeats 2000000 in
set_option maxRecDepth 20000 in
theorem wL_law_299 (C : Cx D ca A p s m args meth c cL_law RL 4 (some .boolean)) {q : Int32 × Mm} {b L : Nat} {xs : Nat → Int32} (hX : va_X b L xs s s.heap) (hbl : b < s.heap.size) (hbA : ¬ A b) (hRR : ∀ lev n, lev ≤ 1000 → n ≤ 21 → RR room_1 lev n cells slots) (hq : q.1 = 1) (hend : ∀ {mm : Mm} {H : Heap} {locs : List Loc} {ls : Array Slot}, Hx WN ad ca WS D A s.heap mm H locs → W p l e room_1 s m args below meth c H locs cells slots Q (F0 m 1456 ls [.int 1])) {k18 : Int32 → Mm → Option (Int32 × Mm)} (hk18 : ∀ (v3 : Int32) (mm : Mm), k18 v3 mm = some q → ∀ (H : Heap) (locs : List Loc) (ls : Array Slot), Hx WN ad ca WS D A s.heap mm H locs → lv_has ls 4 [(0, .ref b), (1, .ref (ad 0)), (2, .ref (ad 58)), (3, .int v3)] → W p l e room_1 s m args below meth c H locs cells slots Q (F0 m 18 ls [])) {v3 : Int32} {mm : Mm} (h : DL_law_299 L xs k18 v3 mm = some q) (hH : Hx WN ad ca WS D A s.heap mm H locs) (hl : lv_has ls 4 [(0, .ref b), (1, .ref (ad 0)), (2, .ref (ad 58)), (3, .int v3)]) : W p l e room_1 s m args below meth c H locs cells slots Q (F0 m 299 ls []) := by
  unfold DL_law_299 at h
  have hx := C.1
  have hb := C.2.1
  refine lv_aload_n hx hb dL_law_299 rfl (lv_at hl 1 rfl) ?_
  refine lv_aload_n hx hb dL_law_300 rfl (lv_at hl 0 rfl) ?_
  refine lv_iload_n hx hb dL_law_301 rfl (lv_at hl 3 rfl) ?_
  refine lv_iconst (v := 1) hx hb dL_law_302 (by decide) ?_
  refine lv_iadd hx hb dL_law_303 ?_
  obtain ⟨hi304, h⟩ := tC h
  refine va_sld hx hb hX hbl hbA hH.2.2 hi304 dL_law_304 ?_
  refine lv_aload_n hx hb dL_law_305 rfl (lv_at hl 0 rfl) ?_
  refine lv_iload_n hx hb dL_law_306 rfl (lv_at hl 3 rfl) ?_
  refine lv_iconst (v := 2) hx hb dL_law_307 (by decide) ?_
  refine lv_iadd hx hb dL_law_308 ?_
  obtain ⟨hi309, h⟩ := tC h
  refine va_sld hx hb hX hbl hbA hH.2.2 hi309 dL_law_309 ?_
  refine lv_aload_n hx hb dL_law_310 rfl (lv_at hl 0 rfl) ?_
  refine lv_iload_n hx hb dL_law_311 rfl (lv_at hl 3 rfl) ?_
  refine lv_iconst (v := 3) hx hb dL_law_312 (by decide) ?_
  refine lv_iadd hx hb dL_law_313 ?_
  obtain ⟨hi314, h⟩ := tC h
  refine va_sld hx hb hX hbl hbA hH.2.2 hi314 dL_law_314 ?_
  obtain ⟨q315, e315, h⟩ := tB h
  refine rcI C hH hl.1 (mX9_mend l e315) cf_RL_28 ro_0 (hRR 4 5 (by decide) (by decide)) rfl (rest := []) rfl (Nat.le_of_ble_eq_true rfl) dL_law_315 ?_
  intro hz315 H locs hH
  refine lv_aload_n hx hb dL_law_318 rfl (lv_at hl 2 rfl) ?_
  refine lv_aload_n hx hb dL_law_319 rfl (lv_at hl 0 rfl) ?_
  refine lv_iload_n hx hb dL_law_320 rfl (lv_at hl 3 rfl) ?_
  refine lv_iconst (v := 1) hx hb dL_law_321 (by decide) ?_
  refine lv_iadd hx hb dL_law_322 ?_
  obtain ⟨hi323, h⟩ := tC h
  refine va_sld hx hb hX hbl hbA hH.2.2 hi323 dL_law_323 ?_
  refine lv_aload_n hx hb dL_law_324 rfl (lv_at hl 0 rfl) ?_
  refine lv_iload_n hx hb dL_law_325 rfl (lv_at hl 3 rfl) ?_
  refine lv_iconst (v := 2) hx hb dL_law_326 (by decide) ?_
  refine lv_iadd hx hb dL_law_327 ?_
  obtain ⟨hi328, h⟩ := tC h
  refine va_sld hx hb hX hbl hbA hH.2.2 hi328 dL_law_328 ?_
  refine lv_aload_n hx hb dL_law_329 rfl (lv_at hl 0 rfl) ?_
  refine lv_iload_n hx hb dL_law_330 rfl (lv_at hl 3 rfl) ?_
  refine lv_iconst (v := 3) hx hb dL_law_331 (by decide) ?_
  refine lv_iadd hx hb dL_law_332 ?_
  obtain ⟨hi333, h⟩ := tC h
  refine va_sld hx hb hX hbl hbA hH.2.2 hi333 dL_law_333 ?_
  obtain ⟨q334, e334, h⟩ := tB h
  refine rcI C hH hl.1 (mX10_mend l e334) cf_RL_31 ro_58 (hRR 4 5 (by decide) (by decide)) rfl (rest := [.int q315.1]) rfl (Nat.le_of_ble_eq_true rfl) dL_law_334 ?_
  intro hz334 H locs hH
  refine lv_icmp_eq (tgt := 1449) hx hb dL_law_337 (by decide) (fun hc337 => ?_) (fun hc337 => ?_)
  · replace h := tT hc337 h
    exact wL_law_1449 C hX hbl hbA hRR hq hend hk18 h hH (lv_sub hl [0, 1, 2, 3] rfl)
  · replace h := tF hc337 h
    refine lv_iconst (v := 0) hx hb dL_law_340 (by decide) ?_
    have h := Option.some.inj h
    subst h
    exact absurd (show (0 : Int32) = 1 from hq) (by decide)
set_option maxHeartbeats 2000000 in
set_option maxRecDepth 20000 in
theorem wL_law_342 (C : Cx D ca A p s m args meth c cL_law RL 4 (some .boolean)) {q : Int32 × Mm} {b L : Nat} {xs : Nat → Int32} (hX : va_X b L xs s s.heap) (hbl : b < s.heap.size) (hbA : ¬ A b) (hRR : ∀ lev n, lev ≤ 1000 → n ≤ 21 → RR room_1 lev n cells slots) (hq : q.1 = 1) (hend : ∀ {mm : Mm} {H : Heap} {locs : List Loc} {ls : Array Slot}, Hx WN ad ca WS D A s.heap mm H locs → W p l e room_1 s m args below meth c H locs cells slots Q (F0 m 1456 ls [.int 1])) {k18 : Int32 → Mm → Option (Int32 × Mm)} (hk18 : ∀ (v3 : Int32) (mm : Mm), k18 v3 mm = some q → ∀ (H : Heap) (locs : List Loc) (ls : Array Slot), Hx WN ad ca WS D A s.heap mm H locs → lv_has ls 4 [(0, .ref b), (1, .ref (ad 0)), (2, .ref (ad 58)), (3, .int v3)] → W p l e room_1 s m args below meth c H locs cells slots Q (F0 m 18 ls [])) {v3 : Int32} {mm : Mm} (h : DL_law_342 L xs k18 v3 mm = some q) (hH : Hx WN ad ca WS D A s.heap mm H locs) (hl : lv_has ls 4 [(0, .ref b), (1, .ref (ad 0)), (2, .ref (ad 58)), (3, .int v3)]) : W p l e room_1 s m args below meth c H locs cells slots Q (F0 m 342 ls []) := by
  unfold DL_law_342 at h
  have hx := C.1
  have hb := C.2.1
  refine lv_aload_n hx hb dL_law_342 rfl (lv_at hl 1 rfl) ?_
  refine lv_aload_n hx hb dL_law_343 rfl (lv_at hl 0 rfl) ?_
  refine lv_iload_n hx hb dL_law_344 rfl (lv_at hl 3 rfl) ?_
  refine lv_iconst (v := 1) hx hb dL_law_345 (by decide) ?_
  refine lv_iadd hx hb dL_law_346 ?_
  obtain ⟨hi347, h⟩ := tC h
  refine va_sld hx hb hX hbl hbA hH.2.2 hi347 dL_law_347 ?_
  refine lv_aload_n hx hb dL_law_348 rfl (lv_at hl 0 rfl) ?_
  refine lv_iload_n hx hb dL_law_349 rfl (lv_at hl 3 rfl) ?_
  refine lv_iconst (v := 2) hx hb dL_law_350 (by decide) ?_
  refine lv_iadd hx hb dL_law_351 ?_
  obtain ⟨hi352, h⟩ := tC h
  refine va_sld hx hb hX hbl hbA hH.2.2 hi352 dL_law_352 ?_
  obtain ⟨q353, e353, h⟩ := tB h
  refine rcI C hH hl.1 (mX9_of l e353) cf_RL_32 ro_0 (hRR 3 3 (by decide) (by decide)) rfl (rest := []) rfl (Nat.le_of_ble_eq_true rfl) dL_law_353 ?_
  intro hz353 H locs hH
  refine lv_aload_n hx hb dL_law_356 rfl (lv_at hl 2 rfl) ?_
  refine lv_aload_n hx hb dL_law_357 rfl (lv_at hl 0 rfl) ?_
  refine lv_iload_n hx hb dL_law_358 rfl (lv_at hl 3 rfl) ?_
  refine lv_iconst (v := 1) hx hb dL_law_359 (by decide) ?_
  refine lv_iadd hx hb dL_law_360 ?_
  obtain ⟨hi361, h⟩ := tC h
  refine va_sld hx hb hX hbl hbA hH.2.2 hi361 dL_law_361 ?_
  refine lv_aload_n hx hb dL_law_362 rfl (lv_at hl 0 rfl) ?_
  refine lv_iload_n hx hb dL_law_363 rfl (lv_at hl 3 rfl) ?_
  refine lv_iconst (v := 2) hx hb dL_law_364 (by decide) ?_
  refine lv_iadd hx hb dL_law_365 ?_
  obtain ⟨hi366, h⟩ := tC h
  refine va_sld hx hb hX hbl hbA hH.2.2 hi366 dL_law_366 ?_
  obtain ⟨q367, e367, h⟩ := tB h
  refine rcI C hH hl.1 (mX10_of l e367) cf_RL_35 ro_58 (hRR 4 4 (by decide) (by decide)) rfl (rest := [.int q353.1]) rfl (Nat.le_of_ble_eq_true rfl) dL_law_367 ?_
  intro hz367 H locs hH
  refine lv_icmp_eq (tgt := 1449) hx hb dL_law_370 (by decide) (fun hc370 => ?_) (fun hc370 => ?_)
  · replace h := tT hc370 h
    exact wL_law_1449 C hX hbl hbA hRR hq hend hk18 h hH (lv_sub hl [0, 1, 2, 3] rfl)
  · replace h := tF hc370 h
    refine lv_iconst (v := 0) hx hb dL_law_373 (by decide) ?_
    have h := Option.some.inj h
    subst h
    exact absurd (show (0 : Int32) = 1 from hq) (by decide)
set_option maxHeartbeats 2000000 in
set_option maxRecDepth 20000 in
theorem wL_law_375 (C : Cx D ca A p s m args meth c cL_law RL 4 (some .boolean)) {q : Int32 × Mm} {b L : Nat} {xs : Nat → Int32} (hX : va_X b L xs s s.heap) (hbl : b < s.heap.size) (hbA : ¬ A b) (hRR : ∀ lev n, lev ≤ 1000 → n ≤ 21 → RR room_1 lev n cells slots) (hq : q.1 = 1) (hend : ∀ {mm : Mm} {H : Heap} {locs : List Loc} {ls : Array Slot}, Hx WN ad ca WS D A s.heap mm H locs → W p l e room_1 s m args below meth c H locs cells slots Q (F0 m 1456 ls [.int 1])) {k18 : Int32 → Mm → Option (Int32 × Mm)} (hk18 : ∀ (v3 : Int32) (mm : Mm), k18 v3 mm = some q → ∀ (H : Heap) (locs : List Loc) (ls : Array Slot), Hx WN ad ca WS D A s.heap mm H locs → lv_has ls 4 [(0, .ref b), (1, .ref (ad 0)), (2, .ref (ad 58)), (3, .int v3)] → W p l e room_1 s m args below meth c H locs cells slots Q (F0 m 18 ls [])) {v3 : Int32} {mm : Mm} (h : DL_law_375 L xs k18 v3 mm = some q) (hH : Hx WN ad ca WS D A s.heap mm H locs) (hl : lv_has ls 4 [(0, .ref b), (1, .ref (ad 0)), (2, .ref (ad 58)), (3, .int v3)]) : W p l e room_1 s m args below meth c H locs cells slots Q (F0 m 375 ls []) := by
  unfold DL_law_375 at h
  have hx := C.1
  have hb := C.2.1
  refine lv_aload_n hx hb dL_law_375 rfl (lv_at hl 1 rfl) ?_
  refine lv_aload_n hx hb dL_law_376 rfl (lv_at hl 0 rfl) ?_
  refine lv_iload_n hx hb dL_law_377 rfl (lv_at hl 3 rfl) ?_
  refine lv_iconst (v := 1) hx hb dL_law_378 (by decide) ?_
  refine lv_iadd hx hb dL_law_379 ?_
  obtain ⟨hi380, h⟩ := tC h
  refine va_sld hx hb hX hbl hbA hH.2.2 hi380 dL_law_380 ?_
  obtain ⟨q381, e381, h⟩ := tB h
  refine rcI C hH hl.1 (mX9_feed l e381) cf_RL_36 ro_0 (hRR 2 2 (by decide) (by decide)) rfl (rest := []) rfl (Nat.le_of_ble_eq_true rfl) dL_law_381 ?_
  intro hz381 H locs hH
  refine lv_aload_n hx hb dL_law_384 rfl (lv_at hl 2 rfl) ?_
  refine lv_aload_n hx hb dL_law_385 rfl (lv_at hl 0 rfl) ?_
  refine lv_iload_n hx hb dL_law_386 rfl (lv_at hl 3 rfl) ?_
  refine lv_iconst (v := 1) hx hb dL_law_387 (by decide) ?_
  refine lv_iadd hx hb dL_law_388 ?_
  obtain ⟨hi389, h⟩ := tC h
  refine va_sld hx hb hX hbl hbA hH.2.2 hi389 dL_law_389 ?_
  obtain ⟨q390, e390, h⟩ := tB h
  refine rcI C hH hl.1 (mX10_feed l e390) cf_RL_39 ro_58 (hRR 2 2 (by decide) (by decide)) rfl (rest := [.int q381.1]) rfl (Nat.le_of_ble_eq_true rfl) dL_law_390 ?_
  intro hz390 H locs hH
  refine lv_icmp_eq (tgt := 1449) hx hb dL_law_393 (by decide) (fun hc393 => ?_) (fun hc393 => ?_)
  · replace h := tT hc393 h
    exact wL_law_1449 C hX hbl hbA hRR hq hend hk18 h hH (lv_sub hl [0, 1, 2, 3] rfl)
  · replace h := tF hc393 h
    refine lv_iconst (v := 0) hx hb dL_law_396 (by decide) ?_
    have h := Option.some.inj h
    subst h
    exact absurd (show (0 : Int32) = 1 from hq) (by decide)
set_option maxHeartbeats 2000000 in
set_option maxRecDepth 20000 in
theorem wL_law_398 (C : Cx D ca A p s m args meth c cL_law RL 4 (some .boolean)) {q : Int32 × Mm} {b L : Nat} {xs : Nat → Int32} (hX : va_X b L xs s s.heap) (hbl : b < s.heap.size) (hbA : ¬ A b) (hRR : ∀ lev n, lev ≤ 1000 → n ≤ 21 → RR room_1 lev n cells slots) (hq : q.1 = 1) (hend : ∀ {mm : Mm} {H : Heap} {locs : List Loc} {ls : Array Slot}, Hx WN ad ca WS D A s.heap mm H locs → W p l e room_1 s m args below meth c H locs cells slots Q (F0 m 1456 ls [.int 1])) {k18 : Int32 → Mm → Option (Int32 × Mm)} (hk18 : ∀ (v3 : Int32) (mm : Mm), k18 v3 mm = some q → ∀ (H : Heap) (locs : List Loc) (ls : Array Slot), Hx WN ad ca WS D A s.heap mm H locs → lv_has ls 4 [(0, .ref b), (1, .ref (ad 0)), (2, .ref (ad 58)), (3, .int v3)] → W p l e room_1 s m args below meth c H locs cells slots Q (F0 m 18 ls [])) {v3 : Int32} {mm : Mm} (h : DL_law_398 L xs k18 v3 mm = some q) (hH : Hx WN ad ca WS D A s.heap mm H locs) (hl : lv_has ls 4 [(0, .ref b), (1, .ref (ad 0)), (2, .ref (ad 58)), (3, .int v3)]) : W p l e room_1 s m args below meth c H locs cells slots Q (F0 m 398 ls []) := by
  unfold DL_law_398 at h
  have hx := C.1
  have hb := C.2.1
  refine lv_aload_n hx hb dL_law_398 rfl (lv_at hl 1 rfl) ?_
  obtain ⟨q399, e399, h⟩ := tB h
  refine rcI C hH hl.1 (mX9_law l e399) cf_RL_40 ro_0 (hRR 111 3 (by decide) (by decide)) rfl (rest := []) rfl (Nat.le_of_ble_eq_true rfl) dL_law_399 ?_
  intro hz399 H locs hH
  refine lv_aload_n hx hb dL_law_402 rfl (lv_at hl 2 rfl) ?_
  obtain ⟨q403, e403, h⟩ := tB h
  refine rcI C hH hl.1 (mX10_law l e403) cf_RL_44 ro_58 (hRR 105 4 (by decide) (by decide)) rfl (rest := [.int q399.1]) rfl (Nat.le_of_ble_eq_true rfl) dL_law_403 ?_
  intro hz403 H locs hH
  refine lv_icmp_eq (tgt := 1449) hx hb dL_law_406 (by decide) (fun hc406 => ?_) (fun hc406 => ?_)
  · replace h := tT hc406 h
    exact wL_law_1449 C hX hbl hbA hRR hq hend hk18 h hH (lv_sub hl [0, 1, 2, 3] rfl)
  · replace h := tF hc406 h
    refine lv_iconst (v := 0) hx hb dL_law_409 (by decide) ?_
    have h := Option.some.inj h
    subst h
    exact absurd (show (0 : Int32) = 1 from hq) (by decide)
set_option maxHeartbeats 2000000 in
set_option maxRecDepth 20000 in
theorem wL_law_411 (C : Cx D ca A p s m args meth c cL_law RL 4 (some .boolean)) {q : Int32 × Mm} {b L : Nat} {xs : Nat → Int32} (hX : va_X b L xs s s.heap) (hbl : b < s.heap.size) (hbA : ¬ A b) (hRR : ∀ lev n, lev ≤ 1000 → n ≤ 21 → RR room_1 lev n cells slots) (hq : q.1 = 1) (hend : ∀ {mm : Mm} {H : Heap} {locs : List Loc} {ls : Array Slot}, Hx WN ad ca WS D A s.heap mm H locs → W p l e room_1 s m args below meth c H locs cells slots Q (F0 m 1456 ls [.int 1])) {k18 : Int32 → Mm → Option (Int32 × Mm)} (hk18 : ∀ (v3 : Int32) (mm : Mm), k18 v3 mm = some q → ∀ (H : Heap) (locs : List Loc) (ls : Array Slot), Hx WN ad ca WS D A s.heap mm H locs → lv_has ls 4 [(0, .ref b), (1, .ref (ad 0)), (2, .ref (ad 58)), (3, .int v3)] → W p l e room_1 s m args below meth c H locs cells slots Q (F0 m 18 ls [])) {v3 : Int32} {mm : Mm} (h : DL_law_411 L xs k18 v3 mm = some q) (hH : Hx WN ad ca WS D A s.heap mm H locs) (hl : lv_has ls 4 [(0, .ref b), (1, .ref (ad 0)), (2, .ref (ad 58)), (3, .int v3)]) : W p l e room_1 s m args below meth c H locs cells slots Q (F0 m 411 ls []) := by
  unfold DL_law_411 at h
  have hx := C.1
  have hb := C.2.1
  refine lv_aload_n hx hb dL_law_411 rfl (lv_at hl 1 rfl) ?_
  refine lv_aload_n hx hb dL_law_412 rfl (lv_at hl 0 rfl) ?_
  refine lv_iload_n hx hb dL_law_413 rfl (lv_at hl 3 rfl) ?_
  refine lv_iconst (v := 1) hx hb dL_law_414 (by decide) ?_
  refine lv_iadd hx hb dL_law_415 ?_
  obtain ⟨hi416, h⟩ := tC h
  refine va_sld hx hb hX hbl hbA hH.2.2 hi416 dL_law_416 ?_
  refine lv_aload_n hx hb dL_law_417 rfl (lv_at hl 0 rfl) ?_
  refine lv_iload_n hx hb dL_law_418 rfl (lv_at hl 3 rfl) ?_
  refine lv_iconst (v := 2) hx hb dL_law_419 (by decide) ?_
  refine lv_iadd hx hb dL_law_420 ?_
  obtain ⟨hi421, h⟩ := tC h
  refine va_sld hx hb hX hbl hbA hH.2.2 hi421 dL_law_421 ?_
  obtain ⟨q422, e422, h⟩ := tB h
  refine rcI C hH hl.1 (mX9_worthOf l e422) cf_RL_45 ro_0 (hRR 4 3 (by decide) (by decide)) rfl (rest := []) rfl (Nat.le_of_ble_eq_true rfl) dL_law_422 ?_
  intro hz422 H locs hH
  refine lv_aload_n hx hb dL_law_425 rfl (lv_at hl 2 rfl) ?_
  refine lv_aload_n hx hb dL_law_426 rfl (lv_at hl 0 rfl) ?_
  refine lv_iload_n hx hb dL_law_427 rfl (lv_at hl 3 rfl) ?_
  refine lv_iconst (v := 1) hx hb dL_law_428 (by decide) ?_
  refine lv_iadd hx hb dL_law_429 ?_
  obtain ⟨hi430, h⟩ := tC h
  refine va_sld hx hb hX hbl hbA hH.2.2 hi430 dL_law_430 ?_
  refine lv_aload_n hx hb dL_law_431 rfl (lv_at hl 0 rfl) ?_
  refine lv_iload_n hx hb dL_law_432 rfl (lv_at hl 3 rfl) ?_
  refine lv_iconst (v := 2) hx hb dL_law_433 (by decide) ?_
  refine lv_iadd hx hb dL_law_434 ?_
  obtain ⟨hi435, h⟩ := tC h
  refine va_sld hx hb hX hbl hbA hH.2.2 hi435 dL_law_435 ?_
  obtain ⟨q436, e436, h⟩ := tB h
  refine rcI C hH hl.1 (mX10_worthOf l e436) cf_RL_48 ro_58 (hRR 106 3 (by decide) (by decide)) rfl (rest := [.int q422.1]) rfl (Nat.le_of_ble_eq_true rfl) dL_law_436 ?_
  intro hz436 H locs hH
  refine lv_icmp_eq (tgt := 1449) hx hb dL_law_439 (by decide) (fun hc439 => ?_) (fun hc439 => ?_)
  · replace h := tT hc439 h
    exact wL_law_1449 C hX hbl hbA hRR hq hend hk18 h hH (lv_sub hl [0, 1, 2, 3] rfl)
  · replace h := tF hc439 h
    refine lv_iconst (v := 0) hx hb dL_law_442 (by decide) ?_
    have h := Option.some.inj h
    subst h
    exact absurd (show (0 : Int32) = 1 from hq) (by decide)
set_option maxHeartbeats 2000000 in
set_option maxRecDepth 20000 in
theorem wL_law_444 (C : Cx D ca A p s m args meth c cL_law RL 4 (some .boolean)) {q : Int32 × Mm} {b L : Nat} {xs : Nat → Int32} (hX : va_X b L xs s s.heap) (hbl : b < s.heap.size) (hbA : ¬ A b) (hRR : ∀ lev n, lev ≤ 1000 → n ≤ 21 → RR room_1 lev n cells slots) (hq : q.1 = 1) (hend : ∀ {mm : Mm} {H : Heap} {locs : List Loc} {ls : Array Slot}, Hx WN ad ca WS D A s.heap mm H locs → W p l e room_1 s m args below meth c H locs cells slots Q (F0 m 1456 ls [.int 1])) {k18 : Int32 → Mm → Option (Int32 × Mm)} (hk18 : ∀ (v3 : Int32) (mm : Mm), k18 v3 mm = some q → ∀ (H : Heap) (locs : List Loc) (ls : Array Slot), Hx WN ad ca WS D A s.heap mm H locs → lv_has ls 4 [(0, .ref b), (1, .ref (ad 0)), (2, .ref (ad 58)), (3, .int v3)] → W p l e room_1 s m args below meth c H locs cells slots Q (F0 m 18 ls [])) {v3 : Int32} {mm : Mm} (h : DL_law_444 L xs k18 v3 mm = some q) (hH : Hx WN ad ca WS D A s.heap mm H locs) (hl : lv_has ls 4 [(0, .ref b), (1, .ref (ad 0)), (2, .ref (ad 58)), (3, .int v3)]) : W p l e room_1 s m args below meth c H locs cells slots Q (F0 m 444 ls []) := by
  unfold DL_law_444 at h
  have hx := C.1
  have hb := C.2.1
  refine lv_aload_n hx hb dL_law_444 rfl (lv_at hl 1 rfl) ?_
  refine lv_aload_n hx hb dL_law_445 rfl (lv_at hl 0 rfl) ?_
  refine lv_iload_n hx hb dL_law_446 rfl (lv_at hl 3 rfl) ?_
  refine lv_iconst (v := 1) hx hb dL_law_447 (by decide) ?_
  refine lv_iadd hx hb dL_law_448 ?_
  obtain ⟨hi449, h⟩ := tC h
  refine va_sld hx hb hX hbl hbA hH.2.2 hi449 dL_law_449 ?_
  refine lv_aload_n hx hb dL_law_450 rfl (lv_at hl 0 rfl) ?_
  refine lv_iload_n hx hb dL_law_451 rfl (lv_at hl 3 rfl) ?_
  refine lv_iconst (v := 2) hx hb dL_law_452 (by decide) ?_
  refine lv_iadd hx hb dL_law_453 ?_
  obtain ⟨hi454, h⟩ := tC h
  refine va_sld hx hb hX hbl hbA hH.2.2 hi454 dL_law_454 ?_
  refine lv_aload_n hx hb dL_law_455 rfl (lv_at hl 0 rfl) ?_
  refine lv_iload_n hx hb dL_law_456 rfl (lv_at hl 3 rfl) ?_
  refine lv_iconst (v := 3) hx hb dL_law_457 (by decide) ?_
  refine lv_iadd hx hb dL_law_458 ?_
  obtain ⟨hi459, h⟩ := tC h
  refine va_sld hx hb hX hbl hbA hH.2.2 hi459 dL_law_459 ?_
  refine lv_aload_n hx hb dL_law_460 rfl (lv_at hl 0 rfl) ?_
  refine lv_iload_n hx hb dL_law_461 rfl (lv_at hl 3 rfl) ?_
  refine lv_iconst (v := 4) hx hb dL_law_462 (by decide) ?_
  refine lv_iadd hx hb dL_law_463 ?_
  obtain ⟨hi464, h⟩ := tC h
  refine va_sld hx hb hX hbl hbA hH.2.2 hi464 dL_law_464 ?_
  obtain ⟨q465, e465, h⟩ := tB h
  refine rcL C hH hl.1 (mX9_belief l e465) cf_RL_49 ro_0 (hRR 6 5 (by decide) (by decide)) rfl (rest := []) rfl (Nat.le_of_ble_eq_true rfl) dL_law_465 ?_
  intro H locs hH
  refine lv_aload_n hx hb dL_law_468 rfl (lv_at hl 2 rfl) ?_
  refine lv_aload_n hx hb dL_law_469 rfl (lv_at hl 0 rfl) ?_
  refine lv_iload_n hx hb dL_law_470 rfl (lv_at hl 3 rfl) ?_
  refine lv_iconst (v := 1) hx hb dL_law_471 (by decide) ?_
  refine lv_iadd hx hb dL_law_472 ?_
  obtain ⟨hi473, h⟩ := tC h
  refine va_sld hx hb hX hbl hbA hH.2.2 hi473 dL_law_473 ?_
  refine lv_aload_n hx hb dL_law_474 rfl (lv_at hl 0 rfl) ?_
  refine lv_iload_n hx hb dL_law_475 rfl (lv_at hl 3 rfl) ?_
  refine lv_iconst (v := 2) hx hb dL_law_476 (by decide) ?_
  refine lv_iadd hx hb dL_law_477 ?_
  obtain ⟨hi478, h⟩ := tC h
  refine va_sld hx hb hX hbl hbA hH.2.2 hi478 dL_law_478 ?_
  refine lv_aload_n hx hb dL_law_479 rfl (lv_at hl 0 rfl) ?_
  refine lv_iload_n hx hb dL_law_480 rfl (lv_at hl 3 rfl) ?_
  refine lv_iconst (v := 3) hx hb dL_law_481 (by decide) ?_
  refine lv_iadd hx hb dL_law_482 ?_
  obtain ⟨hi483, h⟩ := tC h
  refine va_sld hx hb hX hbl hbA hH.2.2 hi483 dL_law_483 ?_
  refine lv_aload_n hx hb dL_law_484 rfl (lv_at hl 0 rfl) ?_
  refine lv_iload_n hx hb dL_law_485 rfl (lv_at hl 3 rfl) ?_
  refine lv_iconst (v := 4) hx hb dL_law_486 (by decide) ?_
  refine lv_iadd hx hb dL_law_487 ?_
  obtain ⟨hi488, h⟩ := tC h
  refine va_sld hx hb hX hbl hbA hH.2.2 hi488 dL_law_488 ?_
  obtain ⟨q489, e489, h⟩ := tB h
  refine rcL C hH hl.1 (mX10_belief l e489) cf_RL_53 ro_58 (hRR 4 5 (by decide) (by decide)) rfl (rest := [.long q465.1]) rfl (Nat.le_of_ble_eq_true rfl) dL_law_489 ?_
  intro H locs hH
  refine lc_eq (tgt := 1449) hx hb dL_law_492 dL_law_493 (by decide) (fun hc493 => ?_) (fun hc493 => ?_)
  · replace h := tT hc493 h
    exact wL_law_1449 C hX hbl hbA hRR hq hend hk18 h hH (lv_sub hl [0, 1, 2, 3] rfl)
  · replace h := tF hc493 h
    refine lv_iconst (v := 0) hx hb dL_law_496 (by decide) ?_
    have h := Option.some.inj h
    subst h
    exact absurd (show (0 : Int32) = 1 from hq) (by decide)
set_option maxHeartbeats 2000000 in
set_option maxRecDepth 20000 in
theorem wL_law_498 (C : Cx D ca A p s m args meth c cL_law RL 4 (some .boolean)) {q : Int32 × Mm} {b L : Nat} {xs : Nat → Int32} (hX : va_X b L xs s s.heap) (hbl : b < s.heap.size) (hbA : ¬ A b) (hRR : ∀ lev n, lev ≤ 1000 → n ≤ 21 → RR room_1 lev n cells slots) (hq : q.1 = 1) (hend : ∀ {mm : Mm} {H : Heap} {locs : List Loc} {ls : Array Slot}, Hx WN ad ca WS D A s.heap mm H locs → W p l e room_1 s m args below meth c H locs cells slots Q (F0 m 1456 ls [.int 1])) {k18 : Int32 → Mm → Option (Int32 × Mm)} (hk18 : ∀ (v3 : Int32) (mm : Mm), k18 v3 mm = some q → ∀ (H : Heap) (locs : List Loc) (ls : Array Slot), Hx WN ad ca WS D A s.heap mm H locs → lv_has ls 4 [(0, .ref b), (1, .ref (ad 0)), (2, .ref (ad 58)), (3, .int v3)] → W p l e room_1 s m args below meth c H locs cells slots Q (F0 m 18 ls [])) {v3 : Int32} {mm : Mm} (h : DL_law_498 L xs k18 v3 mm = some q) (hH : Hx WN ad ca WS D A s.heap mm H locs) (hl : lv_has ls 4 [(0, .ref b), (1, .ref (ad 0)), (2, .ref (ad 58)), (3, .int v3)]) : W p l e room_1 s m args below meth c H locs cells slots Q (F0 m 498 ls []) := by
  unfold DL_law_498 at h
  have hx := C.1
  have hb := C.2.1
  refine lv_aload_n hx hb dL_law_498 rfl (lv_at hl 1 rfl) ?_
  refine lv_aload_n hx hb dL_law_499 rfl (lv_at hl 0 rfl) ?_
  refine lv_iload_n hx hb dL_law_500 rfl (lv_at hl 3 rfl) ?_
  refine lv_iconst (v := 1) hx hb dL_law_501 (by decide) ?_
  refine lv_iadd hx hb dL_law_502 ?_
  obtain ⟨hi503, h⟩ := tC h
  refine va_sld hx hb hX hbl hbA hH.2.2 hi503 dL_law_503 ?_
  refine lv_aload_n hx hb dL_law_504 rfl (lv_at hl 0 rfl) ?_
  refine lv_iload_n hx hb dL_law_505 rfl (lv_at hl 3 rfl) ?_
  refine lv_iconst (v := 2) hx hb dL_law_506 (by decide) ?_
  refine lv_iadd hx hb dL_law_507 ?_
  obtain ⟨hi508, h⟩ := tC h
  refine va_sld hx hb hX hbl hbA hH.2.2 hi508 dL_law_508 ?_
  refine lv_aload_n hx hb dL_law_509 rfl (lv_at hl 0 rfl) ?_
  refine lv_iload_n hx hb dL_law_510 rfl (lv_at hl 3 rfl) ?_
  refine lv_iconst (v := 3) hx hb dL_law_511 (by decide) ?_
  refine lv_iadd hx hb dL_law_512 ?_
  obtain ⟨hi513, h⟩ := tC h
  refine va_sld hx hb hX hbl hbA hH.2.2 hi513 dL_law_513 ?_
  obtain ⟨q514, e514, h⟩ := tB h
  refine rcI C hH hl.1 (mX9_likeliest l e514) cf_RL_54 ro_0 (hRR 6 7 (by decide) (by decide)) rfl (rest := []) rfl (Nat.le_of_ble_eq_true rfl) dL_law_514 ?_
  intro hz514 H locs hH
  refine lv_aload_n hx hb dL_law_517 rfl (lv_at hl 2 rfl) ?_
  refine lv_aload_n hx hb dL_law_518 rfl (lv_at hl 0 rfl) ?_
  refine lv_iload_n hx hb dL_law_519 rfl (lv_at hl 3 rfl) ?_
  refine lv_iconst (v := 1) hx hb dL_law_520 (by decide) ?_
  refine lv_iadd hx hb dL_law_521 ?_
  obtain ⟨hi522, h⟩ := tC h
  refine va_sld hx hb hX hbl hbA hH.2.2 hi522 dL_law_522 ?_
  refine lv_aload_n hx hb dL_law_523 rfl (lv_at hl 0 rfl) ?_
  refine lv_iload_n hx hb dL_law_524 rfl (lv_at hl 3 rfl) ?_
  refine lv_iconst (v := 2) hx hb dL_law_525 (by decide) ?_
  refine lv_iadd hx hb dL_law_526 ?_
  obtain ⟨hi527, h⟩ := tC h
  refine va_sld hx hb hX hbl hbA hH.2.2 hi527 dL_law_527 ?_
  refine lv_aload_n hx hb dL_law_528 rfl (lv_at hl 0 rfl) ?_
  refine lv_iload_n hx hb dL_law_529 rfl (lv_at hl 3 rfl) ?_
  refine lv_iconst (v := 3) hx hb dL_law_530 (by decide) ?_
  refine lv_iadd hx hb dL_law_531 ?_
  obtain ⟨hi532, h⟩ := tC h
  refine va_sld hx hb hX hbl hbA hH.2.2 hi532 dL_law_532 ?_
  obtain ⟨q533, e533, h⟩ := tB h
  refine rcI C hH hl.1 (mX10_likeliest l e533) cf_RL_57 ro_58 (hRR 107 5 (by decide) (by decide)) rfl (rest := [.int q514.1]) rfl (Nat.le_of_ble_eq_true rfl) dL_law_533 ?_
  intro hz533 H locs hH
  refine lv_icmp_eq (tgt := 1449) hx hb dL_law_536 (by decide) (fun hc536 => ?_) (fun hc536 => ?_)
  · replace h := tT hc536 h
    exact wL_law_1449 C hX hbl hbA hRR hq hend hk18 h hH (lv_sub hl [0, 1, 2, 3] rfl)
  · replace h := tF hc536 h
    refine lv_iconst (v := 0) hx hb dL_law_539 (by decide) ?_
    have h := Option.some.inj h
    subst h
    exact absurd (show (0 : Int32) = 1 from hq) (by decide)
set_option maxHeartbeats 2000000 in
set_option maxRecDepth 20000 in
theorem wL_law_541 (C : Cx D ca A p s m args meth c cL_law RL 4 (some .boolean)) {q : Int32 × Mm} {b L : Nat} {xs : Nat → Int32} (hX : va_X b L xs s s.heap) (hbl : b < s.heap.size) (hbA : ¬ A b) (hRR : ∀ lev n, lev ≤ 1000 → n ≤ 21 → RR room_1 lev n cells slots) (hq : q.1 = 1) (hend : ∀ {mm : Mm} {H : Heap} {locs : List Loc} {ls : Array Slot}, Hx WN ad ca WS D A s.heap mm H locs → W p l e room_1 s m args below meth c H locs cells slots Q (F0 m 1456 ls [.int 1])) {k18 : Int32 → Mm → Option (Int32 × Mm)} (hk18 : ∀ (v3 : Int32) (mm : Mm), k18 v3 mm = some q → ∀ (H : Heap) (locs : List Loc) (ls : Array Slot), Hx WN ad ca WS D A s.heap mm H locs → lv_has ls 4 [(0, .ref b), (1, .ref (ad 0)), (2, .ref (ad 58)), (3, .int v3)] → W p l e room_1 s m args below meth c H locs cells slots Q (F0 m 18 ls [])) {v3 : Int32} {mm : Mm} (h : DL_law_541 L xs k18 v3 mm = some q) (hH : Hx WN ad ca WS D A s.heap mm H locs) (hl : lv_has ls 4 [(0, .ref b), (1, .ref (ad 0)), (2, .ref (ad 58)), (3, .int v3)]) : W p l e room_1 s m args below meth c H locs cells slots Q (F0 m 541 ls []) := by
  unfold DL_law_541 at h
  have hx := C.1
  have hb := C.2.1
  refine lv_aload_n hx hb dL_law_541 rfl (lv_at hl 1 rfl) ?_
  refine lv_aload_n hx hb dL_law_542 rfl (lv_at hl 0 rfl) ?_
  refine lv_iload_n hx hb dL_law_543 rfl (lv_at hl 3 rfl) ?_
  refine lv_iconst (v := 1) hx hb dL_law_544 (by decide) ?_
  refine lv_iadd hx hb dL_law_545 ?_
  obtain ⟨hi546, h⟩ := tC h
  refine va_sld hx hb hX hbl hbA hH.2.2 hi546 dL_law_546 ?_
  refine lv_aload_n hx hb dL_law_547 rfl (lv_at hl 0 rfl) ?_
  refine lv_iload_n hx hb dL_law_548 rfl (lv_at hl 3 rfl) ?_
  refine lv_iconst (v := 2) hx hb dL_law_549 (by decide) ?_
  refine lv_iadd hx hb dL_law_550 ?_
  obtain ⟨hi551, h⟩ := tC h
  refine va_sld hx hb hX hbl hbA hH.2.2 hi551 dL_law_551 ?_
  refine lv_aload_n hx hb dL_law_552 rfl (lv_at hl 0 rfl) ?_
  refine lv_iload_n hx hb dL_law_553 rfl (lv_at hl 3 rfl) ?_
  refine lv_iconst (v := 3) hx hb dL_law_554 (by decide) ?_
  refine lv_iadd hx hb dL_law_555 ?_
  obtain ⟨hi556, h⟩ := tC h
  refine va_sld hx hb hX hbl hbA hH.2.2 hi556 dL_law_556 ?_
  obtain ⟨q557, e557, h⟩ := tB h
  refine rcL C hH hl.1 (mX9_worth l e557) cf_RL_58 ro_0 (hRR 6 4 (by decide) (by decide)) rfl (rest := []) rfl (Nat.le_of_ble_eq_true rfl) dL_law_557 ?_
  intro H locs hH
  refine lv_aload_n hx hb dL_law_560 rfl (lv_at hl 2 rfl) ?_
  refine lv_aload_n hx hb dL_law_561 rfl (lv_at hl 0 rfl) ?_
  refine lv_iload_n hx hb dL_law_562 rfl (lv_at hl 3 rfl) ?_
  refine lv_iconst (v := 1) hx hb dL_law_563 (by decide) ?_
  refine lv_iadd hx hb dL_law_564 ?_
  obtain ⟨hi565, h⟩ := tC h
  refine va_sld hx hb hX hbl hbA hH.2.2 hi565 dL_law_565 ?_
  refine lv_aload_n hx hb dL_law_566 rfl (lv_at hl 0 rfl) ?_
  refine lv_iload_n hx hb dL_law_567 rfl (lv_at hl 3 rfl) ?_
  refine lv_iconst (v := 2) hx hb dL_law_568 (by decide) ?_
  refine lv_iadd hx hb dL_law_569 ?_
  obtain ⟨hi570, h⟩ := tC h
  refine va_sld hx hb hX hbl hbA hH.2.2 hi570 dL_law_570 ?_
  refine lv_aload_n hx hb dL_law_571 rfl (lv_at hl 0 rfl) ?_
  refine lv_iload_n hx hb dL_law_572 rfl (lv_at hl 3 rfl) ?_
  refine lv_iconst (v := 3) hx hb dL_law_573 (by decide) ?_
  refine lv_iadd hx hb dL_law_574 ?_
  obtain ⟨hi575, h⟩ := tC h
  refine va_sld hx hb hX hbl hbA hH.2.2 hi575 dL_law_575 ?_
  obtain ⟨q576, e576, h⟩ := tB h
  refine rcL C hH hl.1 (mX10_worth l e576) cf_RL_62 ro_58 (hRR 107 4 (by decide) (by decide)) rfl (rest := [.long q557.1]) rfl (Nat.le_of_ble_eq_true rfl) dL_law_576 ?_
  intro H locs hH
  refine lc_eq (tgt := 1449) hx hb dL_law_579 dL_law_580 (by decide) (fun hc580 => ?_) (fun hc580 => ?_)
  · replace h := tT hc580 h
    exact wL_law_1449 C hX hbl hbA hRR hq hend hk18 h hH (lv_sub hl [0, 1, 2, 3] rfl)
  · replace h := tF hc580 h
    refine lv_iconst (v := 0) hx hb dL_law_583 (by decide) ?_
    have h := Option.some.inj h
    subst h
    exact absurd (show (0 : Int32) = 1 from hq) (by decide)
set_option maxHeartbeats 2000000 in
set_option maxRecDepth 20000 in
theorem wL_law_585 (C : Cx D ca A p s m args meth c cL_law RL 4 (some .boolean)) {q : Int32 × Mm} {b L : Nat} {xs : Nat → Int32} (hX : va_X b L xs s s.heap) (hbl : b < s.heap.size) (hbA : ¬ A b) (hRR : ∀ lev n, lev ≤ 1000 → n ≤ 21 → RR room_1 lev n cells slots) (hq : q.1 = 1) (hend : ∀ {mm : Mm} {H : Heap} {locs : List Loc} {ls : Array Slot}, Hx WN ad ca WS D A s.heap mm H locs → W p l e room_1 s m args below meth c H locs cells slots Q (F0 m 1456 ls [.int 1])) {k18 : Int32 → Mm → Option (Int32 × Mm)} (hk18 : ∀ (v3 : Int32) (mm : Mm), k18 v3 mm = some q → ∀ (H : Heap) (locs : List Loc) (ls : Array Slot), Hx WN ad ca WS D A s.heap mm H locs → lv_has ls 4 [(0, .ref b), (1, .ref (ad 0)), (2, .ref (ad 58)), (3, .int v3)] → W p l e room_1 s m args below meth c H locs cells slots Q (F0 m 18 ls [])) {v3 : Int32} {mm : Mm} (h : DL_law_585 L xs k18 v3 mm = some q) (hH : Hx WN ad ca WS D A s.heap mm H locs) (hl : lv_has ls 4 [(0, .ref b), (1, .ref (ad 0)), (2, .ref (ad 58)), (3, .int v3)]) : W p l e room_1 s m args below meth c H locs cells slots Q (F0 m 585 ls []) := by
  unfold DL_law_585 at h
  have hx := C.1
  have hb := C.2.1
  refine lv_aload_n hx hb dL_law_585 rfl (lv_at hl 1 rfl) ?_
  refine lv_aload_n hx hb dL_law_586 rfl (lv_at hl 0 rfl) ?_
  refine lv_iload_n hx hb dL_law_587 rfl (lv_at hl 3 rfl) ?_
  refine lv_iconst (v := 1) hx hb dL_law_588 (by decide) ?_
  refine lv_iadd hx hb dL_law_589 ?_
  obtain ⟨hi590, h⟩ := tC h
  refine va_sld hx hb hX hbl hbA hH.2.2 hi590 dL_law_590 ?_
  refine lv_aload_n hx hb dL_law_591 rfl (lv_at hl 0 rfl) ?_
  refine lv_iload_n hx hb dL_law_592 rfl (lv_at hl 3 rfl) ?_
  refine lv_iconst (v := 2) hx hb dL_law_593 (by decide) ?_
  refine lv_iadd hx hb dL_law_594 ?_
  obtain ⟨hi595, h⟩ := tC h
  refine va_sld hx hb hX hbl hbA hH.2.2 hi595 dL_law_595 ?_
  obtain ⟨q596, e596, h⟩ := tB h
  refine rcI C hH hl.1 (mX9_next l e596) cf_RL_63 ro_0 (hRR 6 4 (by decide) (by decide)) rfl (rest := []) rfl (Nat.le_of_ble_eq_true rfl) dL_law_596 ?_
  intro hz596 H locs hH
  refine lv_aload_n hx hb dL_law_599 rfl (lv_at hl 2 rfl) ?_
  refine lv_aload_n hx hb dL_law_600 rfl (lv_at hl 0 rfl) ?_
  refine lv_iload_n hx hb dL_law_601 rfl (lv_at hl 3 rfl) ?_
  refine lv_iconst (v := 1) hx hb dL_law_602 (by decide) ?_
  refine lv_iadd hx hb dL_law_603 ?_
  obtain ⟨hi604, h⟩ := tC h
  refine va_sld hx hb hX hbl hbA hH.2.2 hi604 dL_law_604 ?_
  refine lv_aload_n hx hb dL_law_605 rfl (lv_at hl 0 rfl) ?_
  refine lv_iload_n hx hb dL_law_606 rfl (lv_at hl 3 rfl) ?_
  refine lv_iconst (v := 2) hx hb dL_law_607 (by decide) ?_
  refine lv_iadd hx hb dL_law_608 ?_
  obtain ⟨hi609, h⟩ := tC h
  refine va_sld hx hb hX hbl hbA hH.2.2 hi609 dL_law_609 ?_
  obtain ⟨q610, e610, h⟩ := tB h
  refine rcI C hH hl.1 (mX10_next l e610) cf_RL_66 ro_58 (hRR 4 3 (by decide) (by decide)) rfl (rest := [.int q596.1]) rfl (Nat.le_of_ble_eq_true rfl) dL_law_610 ?_
  intro hz610 H locs hH
  refine lv_icmp_eq (tgt := 1449) hx hb dL_law_613 (by decide) (fun hc613 => ?_) (fun hc613 => ?_)
  · replace h := tT hc613 h
    exact wL_law_1449 C hX hbl hbA hRR hq hend hk18 h hH (lv_sub hl [0, 1, 2, 3] rfl)
  · replace h := tF hc613 h
    refine lv_iconst (v := 0) hx hb dL_law_616 (by decide) ?_
    have h := Option.some.inj h
    subst h
    exact absurd (show (0 : Int32) = 1 from hq) (by decide)
set_option maxHeartbeats 2000000 in
set_option maxRecDepth 20000 in
theorem wL_law_618 (C : Cx D ca A p s m args meth c cL_law RL 4 (some .boolean)) {q : Int32 × Mm} {b L : Nat} {xs : Nat → Int32} (hX : va_X b L xs s s.heap) (hbl : b < s.heap.size) (hbA : ¬ A b) (hRR : ∀ lev n, lev ≤ 1000 → n ≤ 21 → RR room_1 lev n cells slots) (hq : q.1 = 1) (hend : ∀ {mm : Mm} {H : Heap} {locs : List Loc} {ls : Array Slot}, Hx WN ad ca WS D A s.heap mm H locs → W p l e room_1 s m args below meth c H locs cells slots Q (F0 m 1456 ls [.int 1])) {k18 : Int32 → Mm → Option (Int32 × Mm)} (hk18 : ∀ (v3 : Int32) (mm : Mm), k18 v3 mm = some q → ∀ (H : Heap) (locs : List Loc) (ls : Array Slot), Hx WN ad ca WS D A s.heap mm H locs → lv_has ls 4 [(0, .ref b), (1, .ref (ad 0)), (2, .ref (ad 58)), (3, .int v3)] → W p l e room_1 s m args below meth c H locs cells slots Q (F0 m 18 ls [])) {v3 : Int32} {mm : Mm} (h : DL_law_618 L xs k18 v3 mm = some q) (hH : Hx WN ad ca WS D A s.heap mm H locs) (hl : lv_has ls 4 [(0, .ref b), (1, .ref (ad 0)), (2, .ref (ad 58)), (3, .int v3)]) : W p l e room_1 s m args below meth c H locs cells slots Q (F0 m 618 ls []) := by
  unfold DL_law_618 at h
  have hx := C.1
  have hb := C.2.1
  refine lv_aload_n hx hb dL_law_618 rfl (lv_at hl 1 rfl) ?_
  refine lv_aload_n hx hb dL_law_619 rfl (lv_at hl 0 rfl) ?_
  refine lv_iload_n hx hb dL_law_620 rfl (lv_at hl 3 rfl) ?_
  refine lv_iconst (v := 1) hx hb dL_law_621 (by decide) ?_
  refine lv_iadd hx hb dL_law_622 ?_
  obtain ⟨hi623, h⟩ := tC h
  refine va_sld hx hb hX hbl hbA hH.2.2 hi623 dL_law_623 ?_
  refine lv_aload_n hx hb dL_law_624 rfl (lv_at hl 0 rfl) ?_
  refine lv_iload_n hx hb dL_law_625 rfl (lv_at hl 3 rfl) ?_
  refine lv_iconst (v := 2) hx hb dL_law_626 (by decide) ?_
  refine lv_iadd hx hb dL_law_627 ?_
  obtain ⟨hi628, h⟩ := tC h
  refine va_sld hx hb hX hbl hbA hH.2.2 hi628 dL_law_628 ?_
  refine lv_aload_n hx hb dL_law_629 rfl (lv_at hl 0 rfl) ?_
  refine lv_iload_n hx hb dL_law_630 rfl (lv_at hl 3 rfl) ?_
  refine lv_iconst (v := 3) hx hb dL_law_631 (by decide) ?_
  refine lv_iadd hx hb dL_law_632 ?_
  obtain ⟨hi633, h⟩ := tC h
  refine va_sld hx hb hX hbl hbA hH.2.2 hi633 dL_law_633 ?_
  obtain ⟨q634, e634, h⟩ := tB h
  refine rcL C hH hl.1 (mX9_right l e634) cf_RL_67 ro_0 (hRR 6 5 (by decide) (by decide)) rfl (rest := []) rfl (Nat.le_of_ble_eq_true rfl) dL_law_634 ?_
  intro H locs hH
  refine lv_aload_n hx hb dL_law_637 rfl (lv_at hl 2 rfl) ?_
  refine lv_aload_n hx hb dL_law_638 rfl (lv_at hl 0 rfl) ?_
  refine lv_iload_n hx hb dL_law_639 rfl (lv_at hl 3 rfl) ?_
  refine lv_iconst (v := 1) hx hb dL_law_640 (by decide) ?_
  refine lv_iadd hx hb dL_law_641 ?_
  obtain ⟨hi642, h⟩ := tC h
  refine va_sld hx hb hX hbl hbA hH.2.2 hi642 dL_law_642 ?_
  refine lv_aload_n hx hb dL_law_643 rfl (lv_at hl 0 rfl) ?_
  refine lv_iload_n hx hb dL_law_644 rfl (lv_at hl 3 rfl) ?_
  refine lv_iconst (v := 2) hx hb dL_law_645 (by decide) ?_
  refine lv_iadd hx hb dL_law_646 ?_
  obtain ⟨hi647, h⟩ := tC h
  refine va_sld hx hb hX hbl hbA hH.2.2 hi647 dL_law_647 ?_
  refine lv_aload_n hx hb dL_law_648 rfl (lv_at hl 0 rfl) ?_
  refine lv_iload_n hx hb dL_law_649 rfl (lv_at hl 3 rfl) ?_
  refine lv_iconst (v := 3) hx hb dL_law_650 (by decide) ?_
  refine lv_iadd hx hb dL_law_651 ?_
  obtain ⟨hi652, h⟩ := tC h
  refine va_sld hx hb hX hbl hbA hH.2.2 hi652 dL_law_652 ?_
  obtain ⟨q653, e653, h⟩ := tB h
  refine rcL C hH hl.1 (mX10_right l e653) cf_RL_70 ro_58 (hRR 4 5 (by decide) (by decide)) rfl (rest := [.long q634.1]) rfl (Nat.le_of_ble_eq_true rfl) dL_law_653 ?_
  intro H locs hH
  refine lc_eq (tgt := 1449) hx hb dL_law_656 dL_law_657 (by decide) (fun hc657 => ?_) (fun hc657 => ?_)
  · replace h := tT hc657 h
    exact wL_law_1449 C hX hbl hbA hRR hq hend hk18 h hH (lv_sub hl [0, 1, 2, 3] rfl)
  · replace h := tF hc657 h
    refine lv_iconst (v := 0) hx hb dL_law_660 (by decide) ?_
    have h := Option.some.inj h
    subst h
    exact absurd (show (0 : Int32) = 1 from hq) (by decide)
set_option maxHeartbeats 2000000 in
set_option maxRecDepth 20000 in
theorem wL_law_662 (C : Cx D ca A p s m args meth c cL_law RL 4 (some .boolean)) {q : Int32 × Mm} {b L : Nat} {xs : Nat → Int32} (hX : va_X b L xs s s.heap) (hbl : b < s.heap.size) (hbA : ¬ A b) (hRR : ∀ lev n, lev ≤ 1000 → n ≤ 21 → RR room_1 lev n cells slots) (hq : q.1 = 1) (hend : ∀ {mm : Mm} {H : Heap} {locs : List Loc} {ls : Array Slot}, Hx WN ad ca WS D A s.heap mm H locs → W p l e room_1 s m args below meth c H locs cells slots Q (F0 m 1456 ls [.int 1])) {k18 : Int32 → Mm → Option (Int32 × Mm)} (hk18 : ∀ (v3 : Int32) (mm : Mm), k18 v3 mm = some q → ∀ (H : Heap) (locs : List Loc) (ls : Array Slot), Hx WN ad ca WS D A s.heap mm H locs → lv_has ls 4 [(0, .ref b), (1, .ref (ad 0)), (2, .ref (ad 58)), (3, .int v3)] → W p l e room_1 s m args below meth c H locs cells slots Q (F0 m 18 ls [])) {v3 : Int32} {mm : Mm} (h : DL_law_662 L xs k18 v3 mm = some q) (hH : Hx WN ad ca WS D A s.heap mm H locs) (hl : lv_has ls 4 [(0, .ref b), (1, .ref (ad 0)), (2, .ref (ad 58)), (3, .int v3)]) : W p l e room_1 s m args below meth c H locs cells slots Q (F0 m 662 ls []) := by
  unfold DL_law_662 at h
  have hx := C.1
  have hb := C.2.1
  refine lv_aload_n hx hb dL_law_662 rfl (lv_at hl 1 rfl) ?_
  refine lv_aload_n hx hb dL_law_663 rfl (lv_at hl 0 rfl) ?_
  refine lv_iload_n hx hb dL_law_664 rfl (lv_at hl 3 rfl) ?_
  refine lv_iconst (v := 1) hx hb dL_law_665 (by decide) ?_
  refine lv_iadd hx hb dL_law_666 ?_
  obtain ⟨hi667, h⟩ := tC h
  refine va_sld hx hb hX hbl hbA hH.2.2 hi667 dL_law_667 ?_
  refine lv_aload_n hx hb dL_law_668 rfl (lv_at hl 0 rfl) ?_
  refine lv_iload_n hx hb dL_law_669 rfl (lv_at hl 3 rfl) ?_
  refine lv_iconst (v := 2) hx hb dL_law_670 (by decide) ?_
  refine lv_iadd hx hb dL_law_671 ?_
  obtain ⟨hi672, h⟩ := tC h
  refine va_sld hx hb hX hbl hbA hH.2.2 hi672 dL_law_672 ?_
  refine lv_aload_n hx hb dL_law_673 rfl (lv_at hl 0 rfl) ?_
  refine lv_iload_n hx hb dL_law_674 rfl (lv_at hl 3 rfl) ?_
  refine lv_iconst (v := 3) hx hb dL_law_675 (by decide) ?_
  refine lv_iadd hx hb dL_law_676 ?_
  obtain ⟨hi677, h⟩ := tC h
  refine va_sld hx hb hX hbl hbA hH.2.2 hi677 dL_law_677 ?_
  obtain ⟨q678, e678, h⟩ := tB h
  refine rcI C hH hl.1 (mX9_buys l e678) cf_RL_71 ro_0 (hRR 105 6 (by decide) (by decide)) rfl (rest := []) rfl (Nat.le_of_ble_eq_true rfl) dL_law_678 ?_
  intro hz678 H locs hH
  refine lv_aload_n hx hb dL_law_681 rfl (lv_at hl 2 rfl) ?_
  refine lv_aload_n hx hb dL_law_682 rfl (lv_at hl 0 rfl) ?_
  refine lv_iload_n hx hb dL_law_683 rfl (lv_at hl 3 rfl) ?_
  refine lv_iconst (v := 1) hx hb dL_law_684 (by decide) ?_
  refine lv_iadd hx hb dL_law_685 ?_
  obtain ⟨hi686, h⟩ := tC h
  refine va_sld hx hb hX hbl hbA hH.2.2 hi686 dL_law_686 ?_
  refine lv_aload_n hx hb dL_law_687 rfl (lv_at hl 0 rfl) ?_
  refine lv_iload_n hx hb dL_law_688 rfl (lv_at hl 3 rfl) ?_
  refine lv_iconst (v := 2) hx hb dL_law_689 (by decide) ?_
  refine lv_iadd hx hb dL_law_690 ?_
  obtain ⟨hi691, h⟩ := tC h
  refine va_sld hx hb hX hbl hbA hH.2.2 hi691 dL_law_691 ?_
  refine lv_aload_n hx hb dL_law_692 rfl (lv_at hl 0 rfl) ?_
  refine lv_iload_n hx hb dL_law_693 rfl (lv_at hl 3 rfl) ?_
  refine lv_iconst (v := 3) hx hb dL_law_694 (by decide) ?_
  refine lv_iadd hx hb dL_law_695 ?_
  obtain ⟨hi696, h⟩ := tC h
  refine va_sld hx hb hX hbl hbA hH.2.2 hi696 dL_law_696 ?_
  obtain ⟨q697, e697, h⟩ := tB h
  refine rcI C hH hl.1 (mX10_buys l e697) cf_RL_74 ro_58 (hRR 108 11 (by decide) (by decide)) rfl (rest := [.int q678.1]) rfl (Nat.le_of_ble_eq_true rfl) dL_law_697 ?_
  intro hz697 H locs hH
  refine lv_icmp_eq (tgt := 1449) hx hb dL_law_700 (by decide) (fun hc700 => ?_) (fun hc700 => ?_)
  · replace h := tT hc700 h
    exact wL_law_1449 C hX hbl hbA hRR hq hend hk18 h hH (lv_sub hl [0, 1, 2, 3] rfl)
  · replace h := tF hc700 h
    refine lv_iconst (v := 0) hx hb dL_law_703 (by decide) ?_
    have h := Option.some.inj h
    subst h
    exact absurd (show (0 : Int32) = 1 from hq) (by decide)
set_option maxHeartbeats 2000000 in
set_option maxRecDepth 20000 in
theorem wL_law_705 (C : Cx D ca A p s m args meth c cL_law RL 4 (some .boolean)) {q : Int32 × Mm} {b L : Nat} {xs : Nat → Int32} (hX : va_X b L xs s s.heap) (hbl : b < s.heap.size) (hbA : ¬ A b) (hRR : ∀ lev n, lev ≤ 1000 → n ≤ 21 → RR room_1 lev n cells slots) (hq : q.1 = 1) (hend : ∀ {mm : Mm} {H : Heap} {locs : List Loc} {ls : Array Slot}, Hx WN ad ca WS D A s.heap mm H locs → W p l e room_1 s m args below meth c H locs cells slots Q (F0 m 1456 ls [.int 1])) {k18 : Int32 → Mm → Option (Int32 × Mm)} (hk18 : ∀ (v3 : Int32) (mm : Mm), k18 v3 mm = some q → ∀ (H : Heap) (locs : List Loc) (ls : Array Slot), Hx WN ad ca WS D A s.heap mm H locs → lv_has ls 4 [(0, .ref b), (1, .ref (ad 0)), (2, .ref (ad 58)), (3, .int v3)] → W p l e room_1 s m args below meth c H locs cells slots Q (F0 m 18 ls [])) {v3 : Int32} {mm : Mm} (h : DL_law_705 L xs k18 v3 mm = some q) (hH : Hx WN ad ca WS D A s.heap mm H locs) (hl : lv_has ls 4 [(0, .ref b), (1, .ref (ad 0)), (2, .ref (ad 58)), (3, .int v3)]) : W p l e room_1 s m args below meth c H locs cells slots Q (F0 m 705 ls []) := by
  unfold DL_law_705 at h
  have hx := C.1
  have hb := C.2.1
  refine lv_aload_n hx hb dL_law_705 rfl (lv_at hl 1 rfl) ?_
  refine lv_aload_n hx hb dL_law_706 rfl (lv_at hl 0 rfl) ?_
  refine lv_iload_n hx hb dL_law_707 rfl (lv_at hl 3 rfl) ?_
  refine lv_iconst (v := 1) hx hb dL_law_708 (by decide) ?_
  refine lv_iadd hx hb dL_law_709 ?_
  obtain ⟨hi710, h⟩ := tC h
  refine va_sld hx hb hX hbl hbA hH.2.2 hi710 dL_law_710 ?_
  obtain ⟨q711, e711, h⟩ := tB h
  refine rcI C hH hl.1 (mX9_dealt l e711) cf_RL_75 ro_0 (hRR 7 4 (by decide) (by decide)) rfl (rest := []) rfl (Nat.le_of_ble_eq_true rfl) dL_law_711 ?_
  intro hz711 H locs hH
  refine lv_aload_n hx hb dL_law_714 rfl (lv_at hl 2 rfl) ?_
  refine lv_aload_n hx hb dL_law_715 rfl (lv_at hl 0 rfl) ?_
  refine lv_iload_n hx hb dL_law_716 rfl (lv_at hl 3 rfl) ?_
  refine lv_iconst (v := 1) hx hb dL_law_717 (by decide) ?_
  refine lv_iadd hx hb dL_law_718 ?_
  obtain ⟨hi719, h⟩ := tC h
  refine va_sld hx hb hX hbl hbA hH.2.2 hi719 dL_law_719 ?_
  obtain ⟨q720, e720, h⟩ := tB h
  refine rcI C hH hl.1 (mX10_dealt l e720) cf_RL_78 ro_58 (hRR 108 8 (by decide) (by decide)) rfl (rest := [.int q711.1]) rfl (Nat.le_of_ble_eq_true rfl) dL_law_720 ?_
  intro hz720 H locs hH
  refine lv_icmp_eq (tgt := 1449) hx hb dL_law_723 (by decide) (fun hc723 => ?_) (fun hc723 => ?_)
  · replace h := tT hc723 h
    exact wL_law_1449 C hX hbl hbA hRR hq hend hk18 h hH (lv_sub hl [0, 1, 2, 3] rfl)
  · replace h := tF hc723 h
    refine lv_iconst (v := 0) hx hb dL_law_726 (by decide) ?_
    have h := Option.some.inj h
    subst h
    exact absurd (show (0 : Int32) = 1 from hq) (by decide)
set_option maxHeartbeats 2000000 in
set_option maxRecDepth 20000 in
theorem wL_law_728 (C : Cx D ca A p s m args meth c cL_law RL 4 (some .boolean)) {q : Int32 × Mm} {b L : Nat} {xs : Nat → Int32} (hX : va_X b L xs s s.heap) (hbl : b < s.heap.size) (hbA : ¬ A b) (hRR : ∀ lev n, lev ≤ 1000 → n ≤ 21 → RR room_1 lev n cells slots) (hq : q.1 = 1) (hend : ∀ {mm : Mm} {H : Heap} {locs : List Loc} {ls : Array Slot}, Hx WN ad ca WS D A s.heap mm H locs → W p l e room_1 s m args below meth c H locs cells slots Q (F0 m 1456 ls [.int 1])) {k18 : Int32 → Mm → Option (Int32 × Mm)} (hk18 : ∀ (v3 : Int32) (mm : Mm), k18 v3 mm = some q → ∀ (H : Heap) (locs : List Loc) (ls : Array Slot), Hx WN ad ca WS D A s.heap mm H locs → lv_has ls 4 [(0, .ref b), (1, .ref (ad 0)), (2, .ref (ad 58)), (3, .int v3)] → W p l e room_1 s m args below meth c H locs cells slots Q (F0 m 18 ls [])) {v3 : Int32} {mm : Mm} (h : DL_law_728 L xs k18 v3 mm = some q) (hH : Hx WN ad ca WS D A s.heap mm H locs) (hl : lv_has ls 4 [(0, .ref b), (1, .ref (ad 0)), (2, .ref (ad 58)), (3, .int v3)]) : W p l e room_1 s m args below meth c H locs cells slots Q (F0 m 728 ls []) := by
  unfold DL_law_728 at h
  have hx := C.1
  have hb := C.2.1
  refine lv_aload_n hx hb dL_law_728 rfl (lv_at hl 1 rfl) ?_
  refine lv_aload_n hx hb dL_law_729 rfl (lv_at hl 0 rfl) ?_
  refine lv_iload_n hx hb dL_law_730 rfl (lv_at hl 3 rfl) ?_
  refine lv_iconst (v := 1) hx hb dL_law_731 (by decide) ?_
  refine lv_iadd hx hb dL_law_732 ?_
  obtain ⟨hi733, h⟩ := tC h
  refine va_sld hx hb hX hbl hbA hH.2.2 hi733 dL_law_733 ?_
  refine lv_aload_n hx hb dL_law_734 rfl (lv_at hl 0 rfl) ?_
  refine lv_iload_n hx hb dL_law_735 rfl (lv_at hl 3 rfl) ?_
  refine lv_iconst (v := 2) hx hb dL_law_736 (by decide) ?_
  refine lv_iadd hx hb dL_law_737 ?_
  obtain ⟨hi738, h⟩ := tC h
  refine va_sld hx hb hX hbl hbA hH.2.2 hi738 dL_law_738 ?_
  obtain ⟨q739, e739, h⟩ := tB h
  refine rcI C hH hl.1 (mX9_groan l e739) cf_RL_79 ro_0 (hRR 6 4 (by decide) (by decide)) rfl (rest := []) rfl (Nat.le_of_ble_eq_true rfl) dL_law_739 ?_
  intro hz739 H locs hH
  refine lv_aload_n hx hb dL_law_742 rfl (lv_at hl 2 rfl) ?_
  refine lv_aload_n hx hb dL_law_743 rfl (lv_at hl 0 rfl) ?_
  refine lv_iload_n hx hb dL_law_744 rfl (lv_at hl 3 rfl) ?_
  refine lv_iconst (v := 1) hx hb dL_law_745 (by decide) ?_
  refine lv_iadd hx hb dL_law_746 ?_
  obtain ⟨hi747, h⟩ := tC h
  refine va_sld hx hb hX hbl hbA hH.2.2 hi747 dL_law_747 ?_
  refine lv_aload_n hx hb dL_law_748 rfl (lv_at hl 0 rfl) ?_
  refine lv_iload_n hx hb dL_law_749 rfl (lv_at hl 3 rfl) ?_
  refine lv_iconst (v := 2) hx hb dL_law_750 (by decide) ?_
  refine lv_iadd hx hb dL_law_751 ?_
  obtain ⟨hi752, h⟩ := tC h
  refine va_sld hx hb hX hbl hbA hH.2.2 hi752 dL_law_752 ?_
  obtain ⟨q753, e753, h⟩ := tB h
  refine rcI C hH hl.1 (mX10_groan l e753) cf_RL_82 ro_58 (hRR 106 11 (by decide) (by decide)) rfl (rest := [.int q739.1]) rfl (Nat.le_of_ble_eq_true rfl) dL_law_753 ?_
  intro hz753 H locs hH
  refine lv_icmp_eq (tgt := 1449) hx hb dL_law_756 (by decide) (fun hc756 => ?_) (fun hc756 => ?_)
  · replace h := tT hc756 h
    exact wL_law_1449 C hX hbl hbA hRR hq hend hk18 h hH (lv_sub hl [0, 1, 2, 3] rfl)
  · replace h := tF hc756 h
    refine lv_iconst (v := 0) hx hb dL_law_759 (by decide) ?_
    have h := Option.some.inj h
    subst h
    exact absurd (show (0 : Int32) = 1 from hq) (by decide)
set_option maxHeartbeats 2000000 in
set_option maxRecDepth 20000 in
theorem wL_law_761 (C : Cx D ca A p s m args meth c cL_law RL 4 (some .boolean)) {q : Int32 × Mm} {b L : Nat} {xs : Nat → Int32} (hX : va_X b L xs s s.heap) (hbl : b < s.heap.size) (hbA : ¬ A b) (hRR : ∀ lev n, lev ≤ 1000 → n ≤ 21 → RR room_1 lev n cells slots) (hq : q.1 = 1) (hend : ∀ {mm : Mm} {H : Heap} {locs : List Loc} {ls : Array Slot}, Hx WN ad ca WS D A s.heap mm H locs → W p l e room_1 s m args below meth c H locs cells slots Q (F0 m 1456 ls [.int 1])) {k18 : Int32 → Mm → Option (Int32 × Mm)} (hk18 : ∀ (v3 : Int32) (mm : Mm), k18 v3 mm = some q → ∀ (H : Heap) (locs : List Loc) (ls : Array Slot), Hx WN ad ca WS D A s.heap mm H locs → lv_has ls 4 [(0, .ref b), (1, .ref (ad 0)), (2, .ref (ad 58)), (3, .int v3)] → W p l e room_1 s m args below meth c H locs cells slots Q (F0 m 18 ls [])) {v3 : Int32} {mm : Mm} (h : DL_law_761 L xs k18 v3 mm = some q) (hH : Hx WN ad ca WS D A s.heap mm H locs) (hl : lv_has ls 4 [(0, .ref b), (1, .ref (ad 0)), (2, .ref (ad 58)), (3, .int v3)]) : W p l e room_1 s m args below meth c H locs cells slots Q (F0 m 761 ls []) := by
  unfold DL_law_761 at h
  have hx := C.1
  have hb := C.2.1
  refine lv_aload_n hx hb dL_law_761 rfl (lv_at hl 1 rfl) ?_
  refine lv_aload_n hx hb dL_law_762 rfl (lv_at hl 0 rfl) ?_
  refine lv_iload_n hx hb dL_law_763 rfl (lv_at hl 3 rfl) ?_
  refine lv_iconst (v := 1) hx hb dL_law_764 (by decide) ?_
  refine lv_iadd hx hb dL_law_765 ?_
  obtain ⟨hi766, h⟩ := tC h
  refine va_sld hx hb hX hbl hbA hH.2.2 hi766 dL_law_766 ?_
  refine lv_aload_n hx hb dL_law_767 rfl (lv_at hl 0 rfl) ?_
  refine lv_iload_n hx hb dL_law_768 rfl (lv_at hl 3 rfl) ?_
  refine lv_iconst (v := 2) hx hb dL_law_769 (by decide) ?_
  refine lv_iadd hx hb dL_law_770 ?_
  obtain ⟨hi771, h⟩ := tC h
  refine va_sld hx hb hX hbl hbA hH.2.2 hi771 dL_law_771 ?_
  obtain ⟨q772, e772, h⟩ := tB h
  refine rcL C hH hl.1 (mX9_stock l e772) cf_RL_83 ro_0 (hRR 7 3 (by decide) (by decide)) rfl (rest := []) rfl (Nat.le_of_ble_eq_true rfl) dL_law_772 ?_
  intro H locs hH
  refine lv_aload_n hx hb dL_law_775 rfl (lv_at hl 2 rfl) ?_
  refine lv_aload_n hx hb dL_law_776 rfl (lv_at hl 0 rfl) ?_
  refine lv_iload_n hx hb dL_law_777 rfl (lv_at hl 3 rfl) ?_
  refine lv_iconst (v := 1) hx hb dL_law_778 (by decide) ?_
  refine lv_iadd hx hb dL_law_779 ?_
  obtain ⟨hi780, h⟩ := tC h
  refine va_sld hx hb hX hbl hbA hH.2.2 hi780 dL_law_780 ?_
  refine lv_aload_n hx hb dL_law_781 rfl (lv_at hl 0 rfl) ?_
  refine lv_iload_n hx hb dL_law_782 rfl (lv_at hl 3 rfl) ?_
  refine lv_iconst (v := 2) hx hb dL_law_783 (by decide) ?_
  refine lv_iadd hx hb dL_law_784 ?_
  obtain ⟨hi785, h⟩ := tC h
  refine va_sld hx hb hX hbl hbA hH.2.2 hi785 dL_law_785 ?_
  obtain ⟨q786, e786, h⟩ := tB h
  refine rcL C hH hl.1 (mX10_stock l e786) cf_RL_87 ro_58 (hRR 4 10 (by decide) (by decide)) rfl (rest := [.long q772.1]) rfl (Nat.le_of_ble_eq_true rfl) dL_law_786 ?_
  intro H locs hH
  refine lc_eq (tgt := 1449) hx hb dL_law_789 dL_law_790 (by decide) (fun hc790 => ?_) (fun hc790 => ?_)
  · replace h := tT hc790 h
    exact wL_law_1449 C hX hbl hbA hRR hq hend hk18 h hH (lv_sub hl [0, 1, 2, 3] rfl)
  · replace h := tF hc790 h
    refine lv_iconst (v := 0) hx hb dL_law_793 (by decide) ?_
    have h := Option.some.inj h
    subst h
    exact absurd (show (0 : Int32) = 1 from hq) (by decide)
set_option maxHeartbeats 2000000 in
set_option maxRecDepth 20000 in
theorem wL_law_795 (C : Cx D ca A p s m args meth c cL_law RL 4 (some .boolean)) {q : Int32 × Mm} {b L : Nat} {xs : Nat → Int32} (hX : va_X b L xs s s.heap) (hbl : b < s.heap.size) (hbA : ¬ A b) (hRR : ∀ lev n, lev ≤ 1000 → n ≤ 21 → RR room_1 lev n cells slots) (hq : q.1 = 1) (hend : ∀ {mm : Mm} {H : Heap} {locs : List Loc} {ls : Array Slot}, Hx WN ad ca WS D A s.heap mm H locs → W p l e room_1 s m args below meth c H locs cells slots Q (F0 m 1456 ls [.int 1])) {k18 : Int32 → Mm → Option (Int32 × Mm)} (hk18 : ∀ (v3 : Int32) (mm : Mm), k18 v3 mm = some q → ∀ (H : Heap) (locs : List Loc) (ls : Array Slot), Hx WN ad ca WS D A s.heap mm H locs → lv_has ls 4 [(0, .ref b), (1, .ref (ad 0)), (2, .ref (ad 58)), (3, .int v3)] → W p l e room_1 s m args below meth c H locs cells slots Q (F0 m 18 ls [])) {v3 : Int32} {mm : Mm} (h : DL_law_795 L xs k18 v3 mm = some q) (hH : Hx WN ad ca WS D A s.heap mm H locs) (hl : lv_has ls 4 [(0, .ref b), (1, .ref (ad 0)), (2, .ref (ad 58)), (3, .int v3)]) : W p l e room_1 s m args below meth c H locs cells slots Q (F0 m 795 ls []) := by
  unfold DL_law_795 at h
  have hx := C.1
  have hb := C.2.1
  refine lv_aload_n hx hb dL_law_795 rfl (lv_at hl 1 rfl) ?_
  refine lv_aload_n hx hb dL_law_796 rfl (lv_at hl 0 rfl) ?_
  refine lv_iload_n hx hb dL_law_797 rfl (lv_at hl 3 rfl) ?_
  refine lv_iconst (v := 1) hx hb dL_law_798 (by decide) ?_
  refine lv_iadd hx hb dL_law_799 ?_
  obtain ⟨hi800, h⟩ := tC h
  refine va_sld hx hb hX hbl hbA hH.2.2 hi800 dL_law_800 ?_
  obtain ⟨q801, e801, h⟩ := tB h
  refine rcI C hH hl.1 (mX9_tells l e801) cf_RL_88 ro_0 (hRR 6 2 (by decide) (by decide)) rfl (rest := []) rfl (Nat.le_of_ble_eq_true rfl) dL_law_801 ?_
  intro hz801 H locs hH
  refine lv_aload_n hx hb dL_law_804 rfl (lv_at hl 2 rfl) ?_
  refine lv_aload_n hx hb dL_law_805 rfl (lv_at hl 0 rfl) ?_
  refine lv_iload_n hx hb dL_law_806 rfl (lv_at hl 3 rfl) ?_
  refine lv_iconst (v := 1) hx hb dL_law_807 (by decide) ?_
  refine lv_iadd hx hb dL_law_808 ?_
  obtain ⟨hi809, h⟩ := tC h
  refine va_sld hx hb hX hbl hbA hH.2.2 hi809 dL_law_809 ?_
  obtain ⟨q810, e810, h⟩ := tB h
  refine rcI C hH hl.1 (mX10_tells l e810) cf_RL_91 ro_58 (hRR 4 4 (by decide) (by decide)) rfl (rest := [.int q801.1]) rfl (Nat.le_of_ble_eq_true rfl) dL_law_810 ?_
  intro hz810 H locs hH
  refine lv_icmp_eq (tgt := 1449) hx hb dL_law_813 (by decide) (fun hc813 => ?_) (fun hc813 => ?_)
  · replace h := tT hc813 h
    exact wL_law_1449 C hX hbl hbA hRR hq hend hk18 h hH (lv_sub hl [0, 1, 2, 3] rfl)
  · replace h := tF hc813 h
    refine lv_iconst (v := 0) hx hb dL_law_816 (by decide) ?_
    have h := Option.some.inj h
    subst h
    exact absurd (show (0 : Int32) = 1 from hq) (by decide)
set_option maxHeartbeats 2000000 in
set_option maxRecDepth 20000 in
theorem wL_law_818 (C : Cx D ca A p s m args meth c cL_law RL 4 (some .boolean)) {q : Int32 × Mm} {b L : Nat} {xs : Nat → Int32} (hX : va_X b L xs s s.heap) (hbl : b < s.heap.size) (hbA : ¬ A b) (hRR : ∀ lev n, lev ≤ 1000 → n ≤ 21 → RR room_1 lev n cells slots) (hq : q.1 = 1) (hend : ∀ {mm : Mm} {H : Heap} {locs : List Loc} {ls : Array Slot}, Hx WN ad ca WS D A s.heap mm H locs → W p l e room_1 s m args below meth c H locs cells slots Q (F0 m 1456 ls [.int 1])) {k18 : Int32 → Mm → Option (Int32 × Mm)} (hk18 : ∀ (v3 : Int32) (mm : Mm), k18 v3 mm = some q → ∀ (H : Heap) (locs : List Loc) (ls : Array Slot), Hx WN ad ca WS D A s.heap mm H locs → lv_has ls 4 [(0, .ref b), (1, .ref (ad 0)), (2, .ref (ad 58)), (3, .int v3)] → W p l e room_1 s m args below meth c H locs cells slots Q (F0 m 18 ls [])) {v3 : Int32} {mm : Mm} (h : DL_law_818 L xs k18 v3 mm = some q) (hH : Hx WN ad ca WS D A s.heap mm H locs) (hl : lv_has ls 4 [(0, .ref b), (1, .ref (ad 0)), (2, .ref (ad 58)), (3, .int v3)]) : W p l e room_1 s m args below meth c H locs cells slots Q (F0 m 818 ls []) := by
  unfold DL_law_818 at h
  have hx := C.1
  have hb := C.2.1
  refine lv_aload_n hx hb dL_law_818 rfl (lv_at hl 1 rfl) ?_
  refine lv_aload_n hx hb dL_law_819 rfl (lv_at hl 0 rfl) ?_
  refine lv_iload_n hx hb dL_law_820 rfl (lv_at hl 3 rfl) ?_
  refine lv_iconst (v := 1) hx hb dL_law_821 (by decide) ?_
  refine lv_iadd hx hb dL_law_822 ?_
  obtain ⟨hi823, h⟩ := tC h
  refine va_sld hx hb hX hbl hbA hH.2.2 hi823 dL_law_823 ?_
  refine lv_aload_n hx hb dL_law_824 rfl (lv_at hl 0 rfl) ?_
  refine lv_iload_n hx hb dL_law_825 rfl (lv_at hl 3 rfl) ?_
  refine lv_iconst (v := 2) hx hb dL_law_826 (by decide) ?_
  refine lv_iadd hx hb dL_law_827 ?_
  obtain ⟨hi828, h⟩ := tC h
  refine va_sld hx hb hX hbl hbA hH.2.2 hi828 dL_law_828 ?_
  refine lv_aload_n hx hb dL_law_829 rfl (lv_at hl 0 rfl) ?_
  refine lv_iload_n hx hb dL_law_830 rfl (lv_at hl 3 rfl) ?_
  refine lv_iconst (v := 3) hx hb dL_law_831 (by decide) ?_
  refine lv_iadd hx hb dL_law_832 ?_
  obtain ⟨hi833, h⟩ := tC h
  refine va_sld hx hb hX hbl hbA hH.2.2 hi833 dL_law_833 ?_
  obtain ⟨q834, e834, h⟩ := tB h
  refine rcI C hH hl.1 (mX9_byTurns l e834) cf_RL_92 ro_0 (hRR 108 4 (by decide) (by decide)) rfl (rest := []) rfl (Nat.le_of_ble_eq_true rfl) dL_law_834 ?_
  intro hz834 H locs hH
  refine lv_aload_n hx hb dL_law_837 rfl (lv_at hl 2 rfl) ?_
  refine lv_aload_n hx hb dL_law_838 rfl (lv_at hl 0 rfl) ?_
  refine lv_iload_n hx hb dL_law_839 rfl (lv_at hl 3 rfl) ?_
  refine lv_iconst (v := 1) hx hb dL_law_840 (by decide) ?_
  refine lv_iadd hx hb dL_law_841 ?_
  obtain ⟨hi842, h⟩ := tC h
  refine va_sld hx hb hX hbl hbA hH.2.2 hi842 dL_law_842 ?_
  refine lv_aload_n hx hb dL_law_843 rfl (lv_at hl 0 rfl) ?_
  refine lv_iload_n hx hb dL_law_844 rfl (lv_at hl 3 rfl) ?_
  refine lv_iconst (v := 2) hx hb dL_law_845 (by decide) ?_
  refine lv_iadd hx hb dL_law_846 ?_
  obtain ⟨hi847, h⟩ := tC h
  refine va_sld hx hb hX hbl hbA hH.2.2 hi847 dL_law_847 ?_
  refine lv_aload_n hx hb dL_law_848 rfl (lv_at hl 0 rfl) ?_
  refine lv_iload_n hx hb dL_law_849 rfl (lv_at hl 3 rfl) ?_
  refine lv_iconst (v := 3) hx hb dL_law_850 (by decide) ?_
  refine lv_iadd hx hb dL_law_851 ?_
  obtain ⟨hi852, h⟩ := tC h
  refine va_sld hx hb hX hbl hbA hH.2.2 hi852 dL_law_852 ?_
  obtain ⟨q853, e853, h⟩ := tB h
  refine rcI C hH hl.1 (mX10_byTurns l e853) cf_RL_95 ro_58 (hRR 210 9 (by decide) (by decide)) rfl (rest := [.int q834.1]) rfl (Nat.le_of_ble_eq_true rfl) dL_law_853 ?_
  intro hz853 H locs hH
  refine lv_icmp_eq (tgt := 1449) hx hb dL_law_856 (by decide) (fun hc856 => ?_) (fun hc856 => ?_)
  · replace h := tT hc856 h
    exact wL_law_1449 C hX hbl hbA hRR hq hend hk18 h hH (lv_sub hl [0, 1, 2, 3] rfl)
  · replace h := tF hc856 h
    refine lv_iconst (v := 0) hx hb dL_law_859 (by decide) ?_
    have h := Option.some.inj h
    subst h
    exact absurd (show (0 : Int32) = 1 from hq) (by decide)
set_option maxHeartbeats 2000000 in
set_option maxRecDepth 20000 in
theorem wL_law_861 (C : Cx D ca A p s m args meth c cL_law RL 4 (some .boolean)) {q : Int32 × Mm} {b L : Nat} {xs : Nat → Int32} (hX : va_X b L xs s s.heap) (hbl : b < s.heap.size) (hbA : ¬ A b) (hRR : ∀ lev n, lev ≤ 1000 → n ≤ 21 → RR room_1 lev n cells slots) (hq : q.1 = 1) (hend : ∀ {mm : Mm} {H : Heap} {locs : List Loc} {ls : Array Slot}, Hx WN ad ca WS D A s.heap mm H locs → W p l e room_1 s m args below meth c H locs cells slots Q (F0 m 1456 ls [.int 1])) {k18 : Int32 → Mm → Option (Int32 × Mm)} (hk18 : ∀ (v3 : Int32) (mm : Mm), k18 v3 mm = some q → ∀ (H : Heap) (locs : List Loc) (ls : Array Slot), Hx WN ad ca WS D A s.heap mm H locs → lv_has ls 4 [(0, .ref b), (1, .ref (ad 0)), (2, .ref (ad 58)), (3, .int v3)] → W p l e room_1 s m args below meth c H locs cells slots Q (F0 m 18 ls [])) {v3 : Int32} {mm : Mm} (h : DL_law_861 L xs k18 v3 mm = some q) (hH : Hx WN ad ca WS D A s.heap mm H locs) (hl : lv_has ls 4 [(0, .ref b), (1, .ref (ad 0)), (2, .ref (ad 58)), (3, .int v3)]) : W p l e room_1 s m args below meth c H locs cells slots Q (F0 m 861 ls []) := by
  unfold DL_law_861 at h
  have hx := C.1
  have hb := C.2.1
  refine lv_aload_n hx hb dL_law_861 rfl (lv_at hl 1 rfl) ?_
  refine lv_aload_n hx hb dL_law_862 rfl (lv_at hl 0 rfl) ?_
  refine lv_iload_n hx hb dL_law_863 rfl (lv_at hl 3 rfl) ?_
  refine lv_iconst (v := 1) hx hb dL_law_864 (by decide) ?_
  refine lv_iadd hx hb dL_law_865 ?_
  obtain ⟨hi866, h⟩ := tC h
  refine va_sld hx hb hX hbl hbA hH.2.2 hi866 dL_law_866 ?_
  refine lv_aload_n hx hb dL_law_867 rfl (lv_at hl 0 rfl) ?_
  refine lv_iload_n hx hb dL_law_868 rfl (lv_at hl 3 rfl) ?_
  refine lv_iconst (v := 2) hx hb dL_law_869 (by decide) ?_
  refine lv_iadd hx hb dL_law_870 ?_
  obtain ⟨hi871, h⟩ := tC h
  refine va_sld hx hb hX hbl hbA hH.2.2 hi871 dL_law_871 ?_
  refine lv_aload_n hx hb dL_law_872 rfl (lv_at hl 0 rfl) ?_
  refine lv_iload_n hx hb dL_law_873 rfl (lv_at hl 3 rfl) ?_
  refine lv_iconst (v := 3) hx hb dL_law_874 (by decide) ?_
  refine lv_iadd hx hb dL_law_875 ?_
  obtain ⟨hi876, h⟩ := tC h
  refine va_sld hx hb hX hbl hbA hH.2.2 hi876 dL_law_876 ?_
  refine lv_aload_n hx hb dL_law_877 rfl (lv_at hl 0 rfl) ?_
  refine lv_iload_n hx hb dL_law_878 rfl (lv_at hl 3 rfl) ?_
  refine lv_iconst (v := 4) hx hb dL_law_879 (by decide) ?_
  refine lv_iadd hx hb dL_law_880 ?_
  obtain ⟨hi881, h⟩ := tC h
  refine va_sld hx hb hX hbl hbA hH.2.2 hi881 dL_law_881 ?_
  obtain ⟨q882, e882, h⟩ := tB h
  refine rcI C hH hl.1 (mX9_drawn l e882) cf_RL_96 ro_0 (hRR 6 5 (by decide) (by decide)) rfl (rest := []) rfl (Nat.le_of_ble_eq_true rfl) dL_law_882 ?_
  intro hz882 H locs hH
  refine lv_aload_n hx hb dL_law_885 rfl (lv_at hl 2 rfl) ?_
  refine lv_aload_n hx hb dL_law_886 rfl (lv_at hl 0 rfl) ?_
  refine lv_iload_n hx hb dL_law_887 rfl (lv_at hl 3 rfl) ?_
  refine lv_iconst (v := 1) hx hb dL_law_888 (by decide) ?_
  refine lv_iadd hx hb dL_law_889 ?_
  obtain ⟨hi890, h⟩ := tC h
  refine va_sld hx hb hX hbl hbA hH.2.2 hi890 dL_law_890 ?_
  refine lv_aload_n hx hb dL_law_891 rfl (lv_at hl 0 rfl) ?_
  refine lv_iload_n hx hb dL_law_892 rfl (lv_at hl 3 rfl) ?_
  refine lv_iconst (v := 2) hx hb dL_law_893 (by decide) ?_
  refine lv_iadd hx hb dL_law_894 ?_
  obtain ⟨hi895, h⟩ := tC h
  refine va_sld hx hb hX hbl hbA hH.2.2 hi895 dL_law_895 ?_
  refine lv_aload_n hx hb dL_law_896 rfl (lv_at hl 0 rfl) ?_
  refine lv_iload_n hx hb dL_law_897 rfl (lv_at hl 3 rfl) ?_
  refine lv_iconst (v := 3) hx hb dL_law_898 (by decide) ?_
  refine lv_iadd hx hb dL_law_899 ?_
  obtain ⟨hi900, h⟩ := tC h
  refine va_sld hx hb hX hbl hbA hH.2.2 hi900 dL_law_900 ?_
  refine lv_aload_n hx hb dL_law_901 rfl (lv_at hl 0 rfl) ?_
  refine lv_iload_n hx hb dL_law_902 rfl (lv_at hl 3 rfl) ?_
  refine lv_iconst (v := 4) hx hb dL_law_903 (by decide) ?_
  refine lv_iadd hx hb dL_law_904 ?_
  obtain ⟨hi905, h⟩ := tC h
  refine va_sld hx hb hX hbl hbA hH.2.2 hi905 dL_law_905 ?_
  obtain ⟨q906, e906, h⟩ := tB h
  refine rcI C hH hl.1 (mX10_drawn l e906) cf_RL_100 ro_58 (hRR 106 12 (by decide) (by decide)) rfl (rest := [.int q882.1]) rfl (Nat.le_of_ble_eq_true rfl) dL_law_906 ?_
  intro hz906 H locs hH
  refine lv_icmp_eq (tgt := 1449) hx hb dL_law_909 (by decide) (fun hc909 => ?_) (fun hc909 => ?_)
  · replace h := tT hc909 h
    exact wL_law_1449 C hX hbl hbA hRR hq hend hk18 h hH (lv_sub hl [0, 1, 2, 3] rfl)
  · replace h := tF hc909 h
    refine lv_iconst (v := 0) hx hb dL_law_912 (by decide) ?_
    have h := Option.some.inj h
    subst h
    exact absurd (show (0 : Int32) = 1 from hq) (by decide)
set_option maxHeartbeats 2000000 in
set_option maxRecDepth 20000 in
theorem wL_law_914 (C : Cx D ca A p s m args meth c cL_law RL 4 (some .boolean)) {q : Int32 × Mm} {b L : Nat} {xs : Nat → Int32} (hX : va_X b L xs s s.heap) (hbl : b < s.heap.size) (hbA : ¬ A b) (hRR : ∀ lev n, lev ≤ 1000 → n ≤ 21 → RR room_1 lev n cells slots) (hq : q.1 = 1) (hend : ∀ {mm : Mm} {H : Heap} {locs : List Loc} {ls : Array Slot}, Hx WN ad ca WS D A s.heap mm H locs → W p l e room_1 s m args below meth c H locs cells slots Q (F0 m 1456 ls [.int 1])) {k18 : Int32 → Mm → Option (Int32 × Mm)} (hk18 : ∀ (v3 : Int32) (mm : Mm), k18 v3 mm = some q → ∀ (H : Heap) (locs : List Loc) (ls : Array Slot), Hx WN ad ca WS D A s.heap mm H locs → lv_has ls 4 [(0, .ref b), (1, .ref (ad 0)), (2, .ref (ad 58)), (3, .int v3)] → W p l e room_1 s m args below meth c H locs cells slots Q (F0 m 18 ls [])) {v3 : Int32} {mm : Mm} (h : DL_law_914 L xs k18 v3 mm = some q) (hH : Hx WN ad ca WS D A s.heap mm H locs) (hl : lv_has ls 4 [(0, .ref b), (1, .ref (ad 0)), (2, .ref (ad 58)), (3, .int v3)]) : W p l e room_1 s m args below meth c H locs cells slots Q (F0 m 914 ls []) := by
  unfold DL_law_914 at h
  have hx := C.1
  have hb := C.2.1
  refine lv_aload_n hx hb dL_law_914 rfl (lv_at hl 1 rfl) ?_
  refine lv_aload_n hx hb dL_law_915 rfl (lv_at hl 0 rfl) ?_
  refine lv_iload_n hx hb dL_law_916 rfl (lv_at hl 3 rfl) ?_
  refine lv_iconst (v := 1) hx hb dL_law_917 (by decide) ?_
  refine lv_iadd hx hb dL_law_918 ?_
  obtain ⟨hi919, h⟩ := tC h
  refine va_sld hx hb hX hbl hbA hH.2.2 hi919 dL_law_919 ?_
  refine lv_aload_n hx hb dL_law_920 rfl (lv_at hl 0 rfl) ?_
  refine lv_iload_n hx hb dL_law_921 rfl (lv_at hl 3 rfl) ?_
  refine lv_iconst (v := 2) hx hb dL_law_922 (by decide) ?_
  refine lv_iadd hx hb dL_law_923 ?_
  obtain ⟨hi924, h⟩ := tC h
  refine va_sld hx hb hX hbl hbA hH.2.2 hi924 dL_law_924 ?_
  obtain ⟨q925, e925, h⟩ := tB h
  refine rcI C hH hl.1 (mX9_sell l e925) cf_RL_101 ro_0 (hRR 5 3 (by decide) (by decide)) rfl (rest := []) rfl (Nat.le_of_ble_eq_true rfl) dL_law_925 ?_
  intro hz925 H locs hH
  refine lv_aload_n hx hb dL_law_928 rfl (lv_at hl 2 rfl) ?_
  refine lv_aload_n hx hb dL_law_929 rfl (lv_at hl 0 rfl) ?_
  refine lv_iload_n hx hb dL_law_930 rfl (lv_at hl 3 rfl) ?_
  refine lv_iconst (v := 1) hx hb dL_law_931 (by decide) ?_
  refine lv_iadd hx hb dL_law_932 ?_
  obtain ⟨hi933, h⟩ := tC h
  refine va_sld hx hb hX hbl hbA hH.2.2 hi933 dL_law_933 ?_
  refine lv_aload_n hx hb dL_law_934 rfl (lv_at hl 0 rfl) ?_
  refine lv_iload_n hx hb dL_law_935 rfl (lv_at hl 3 rfl) ?_
  refine lv_iconst (v := 2) hx hb dL_law_936 (by decide) ?_
  refine lv_iadd hx hb dL_law_937 ?_
  obtain ⟨hi938, h⟩ := tC h
  refine va_sld hx hb hX hbl hbA hH.2.2 hi938 dL_law_938 ?_
  obtain ⟨q939, e939, h⟩ := tB h
  refine rcI C hH hl.1 (mX10_sell l e939) cf_RL_104 ro_58 (hRR 3 4 (by decide) (by decide)) rfl (rest := [.int q925.1]) rfl (Nat.le_of_ble_eq_true rfl) dL_law_939 ?_
  intro hz939 H locs hH
  refine lv_icmp_eq (tgt := 1449) hx hb dL_law_942 (by decide) (fun hc942 => ?_) (fun hc942 => ?_)
  · replace h := tT hc942 h
    exact wL_law_1449 C hX hbl hbA hRR hq hend hk18 h hH (lv_sub hl [0, 1, 2, 3] rfl)
  · replace h := tF hc942 h
    refine lv_iconst (v := 0) hx hb dL_law_945 (by decide) ?_
    have h := Option.some.inj h
    subst h
    exact absurd (show (0 : Int32) = 1 from hq) (by decide)
set_option maxHeartbeats 2000000 in
set_option maxRecDepth 20000 in
theorem wL_law_947 (C : Cx D ca A p s m args meth c cL_law RL 4 (some .boolean)) {q : Int32 × Mm} {b L : Nat} {xs : Nat → Int32} (hX : va_X b L xs s s.heap) (hbl : b < s.heap.size) (hbA : ¬ A b) (hRR : ∀ lev n, lev ≤ 1000 → n ≤ 21 → RR room_1 lev n cells slots) (hq : q.1 = 1) (hend : ∀ {mm : Mm} {H : Heap} {locs : List Loc} {ls : Array Slot}, Hx WN ad ca WS D A s.heap mm H locs → W p l e room_1 s m args below meth c H locs cells slots Q (F0 m 1456 ls [.int 1])) {k18 : Int32 → Mm → Option (Int32 × Mm)} (hk18 : ∀ (v3 : Int32) (mm : Mm), k18 v3 mm = some q → ∀ (H : Heap) (locs : List Loc) (ls : Array Slot), Hx WN ad ca WS D A s.heap mm H locs → lv_has ls 4 [(0, .ref b), (1, .ref (ad 0)), (2, .ref (ad 58)), (3, .int v3)] → W p l e room_1 s m args below meth c H locs cells slots Q (F0 m 18 ls [])) {v3 : Int32} {mm : Mm} (h : DL_law_947 L xs k18 v3 mm = some q) (hH : Hx WN ad ca WS D A s.heap mm H locs) (hl : lv_has ls 4 [(0, .ref b), (1, .ref (ad 0)), (2, .ref (ad 58)), (3, .int v3)]) : W p l e room_1 s m args below meth c H locs cells slots Q (F0 m 947 ls []) := by
  unfold DL_law_947 at h
  have hx := C.1
  have hb := C.2.1
  refine lv_aload_n hx hb dL_law_947 rfl (lv_at hl 1 rfl) ?_
  refine lv_aload_n hx hb dL_law_948 rfl (lv_at hl 0 rfl) ?_
  refine lv_iload_n hx hb dL_law_949 rfl (lv_at hl 3 rfl) ?_
  refine lv_iconst (v := 1) hx hb dL_law_950 (by decide) ?_
  refine lv_iadd hx hb dL_law_951 ?_
  obtain ⟨hi952, h⟩ := tC h
  refine va_sld hx hb hX hbl hbA hH.2.2 hi952 dL_law_952 ?_
  obtain ⟨q953, e953, h⟩ := tB h
  refine rcI C hH hl.1 (mX9_open l e953) cf_RL_105 ro_0 (hRR 6 2 (by decide) (by decide)) rfl (rest := []) rfl (Nat.le_of_ble_eq_true rfl) dL_law_953 ?_
  intro hz953 H locs hH
  refine lv_aload_n hx hb dL_law_956 rfl (lv_at hl 2 rfl) ?_
  refine lv_aload_n hx hb dL_law_957 rfl (lv_at hl 0 rfl) ?_
  refine lv_iload_n hx hb dL_law_958 rfl (lv_at hl 3 rfl) ?_
  refine lv_iconst (v := 1) hx hb dL_law_959 (by decide) ?_
  refine lv_iadd hx hb dL_law_960 ?_
  obtain ⟨hi961, h⟩ := tC h
  refine va_sld hx hb hX hbl hbA hH.2.2 hi961 dL_law_961 ?_
  obtain ⟨q962, e962, h⟩ := tB h
  refine rcI C hH hl.1 (mX10_open l e962) cf_RL_108 ro_58 (hRR 107 3 (by decide) (by decide)) rfl (rest := [.int q953.1]) rfl (Nat.le_of_ble_eq_true rfl) dL_law_962 ?_
  intro hz962 H locs hH
  refine lv_icmp_eq (tgt := 1449) hx hb dL_law_965 (by decide) (fun hc965 => ?_) (fun hc965 => ?_)
  · replace h := tT hc965 h
    exact wL_law_1449 C hX hbl hbA hRR hq hend hk18 h hH (lv_sub hl [0, 1, 2, 3] rfl)
  · replace h := tF hc965 h
    refine lv_iconst (v := 0) hx hb dL_law_968 (by decide) ?_
    have h := Option.some.inj h
    subst h
    exact absurd (show (0 : Int32) = 1 from hq) (by decide)
set_option maxHeartbeats 2000000 in
set_option maxRecDepth 20000 in
theorem wL_law_970 (C : Cx D ca A p s m args meth c cL_law RL 4 (some .boolean)) {q : Int32 × Mm} {b L : Nat} {xs : Nat → Int32} (hX : va_X b L xs s s.heap) (hbl : b < s.heap.size) (hbA : ¬ A b) (hRR : ∀ lev n, lev ≤ 1000 → n ≤ 21 → RR room_1 lev n cells slots) (hq : q.1 = 1) (hend : ∀ {mm : Mm} {H : Heap} {locs : List Loc} {ls : Array Slot}, Hx WN ad ca WS D A s.heap mm H locs → W p l e room_1 s m args below meth c H locs cells slots Q (F0 m 1456 ls [.int 1])) {k18 : Int32 → Mm → Option (Int32 × Mm)} (hk18 : ∀ (v3 : Int32) (mm : Mm), k18 v3 mm = some q → ∀ (H : Heap) (locs : List Loc) (ls : Array Slot), Hx WN ad ca WS D A s.heap mm H locs → lv_has ls 4 [(0, .ref b), (1, .ref (ad 0)), (2, .ref (ad 58)), (3, .int v3)] → W p l e room_1 s m args below meth c H locs cells slots Q (F0 m 18 ls [])) {v3 : Int32} {mm : Mm} (h : DL_law_970 L xs k18 v3 mm = some q) (hH : Hx WN ad ca WS D A s.heap mm H locs) (hl : lv_has ls 4 [(0, .ref b), (1, .ref (ad 0)), (2, .ref (ad 58)), (3, .int v3)]) : W p l e room_1 s m args below meth c H locs cells slots Q (F0 m 970 ls []) := by
  unfold DL_law_970 at h
  have hx := C.1
  have hb := C.2.1
  refine lv_aload_n hx hb dL_law_970 rfl (lv_at hl 1 rfl) ?_
  obtain ⟨q971, e971, h⟩ := tB h
  refine rcI C hH hl.1 (mX9_dusk l e971) cf_RL_109 ro_0 (hRR 7 1 (by decide) (by decide)) rfl (rest := []) rfl (Nat.le_of_ble_eq_true rfl) dL_law_971 ?_
  intro hz971 H locs hH
  refine lv_aload_n hx hb dL_law_974 rfl (lv_at hl 2 rfl) ?_
  obtain ⟨q975, e975, h⟩ := tB h
  refine rcI C hH hl.1 (mX10_dusk l e975) cf_RL_112 ro_58 (hRR 107 3 (by decide) (by decide)) rfl (rest := [.int q971.1]) rfl (Nat.le_of_ble_eq_true rfl) dL_law_975 ?_
  intro hz975 H locs hH
  refine lv_icmp_eq (tgt := 1449) hx hb dL_law_978 (by decide) (fun hc978 => ?_) (fun hc978 => ?_)
  · replace h := tT hc978 h
    exact wL_law_1449 C hX hbl hbA hRR hq hend hk18 h hH (lv_sub hl [0, 1, 2, 3] rfl)
  · replace h := tF hc978 h
    refine lv_iconst (v := 0) hx hb dL_law_981 (by decide) ?_
    have h := Option.some.inj h
    subst h
    exact absurd (show (0 : Int32) = 1 from hq) (by decide)
set_option maxHeartbeats 2000000 in
set_option maxRecDepth 20000 in
theorem wL_law_983 (C : Cx D ca A p s m args meth c cL_law RL 4 (some .boolean)) {q : Int32 × Mm} {b L : Nat} {xs : Nat → Int32} (hX : va_X b L xs s s.heap) (hbl : b < s.heap.size) (hbA : ¬ A b) (hRR : ∀ lev n, lev ≤ 1000 → n ≤ 21 → RR room_1 lev n cells slots) (hq : q.1 = 1) (hend : ∀ {mm : Mm} {H : Heap} {locs : List Loc} {ls : Array Slot}, Hx WN ad ca WS D A s.heap mm H locs → W p l e room_1 s m args below meth c H locs cells slots Q (F0 m 1456 ls [.int 1])) {k18 : Int32 → Mm → Option (Int32 × Mm)} (hk18 : ∀ (v3 : Int32) (mm : Mm), k18 v3 mm = some q → ∀ (H : Heap) (locs : List Loc) (ls : Array Slot), Hx WN ad ca WS D A s.heap mm H locs → lv_has ls 4 [(0, .ref b), (1, .ref (ad 0)), (2, .ref (ad 58)), (3, .int v3)] → W p l e room_1 s m args below meth c H locs cells slots Q (F0 m 18 ls [])) {v3 : Int32} {mm : Mm} (h : DL_law_983 L xs k18 v3 mm = some q) (hH : Hx WN ad ca WS D A s.heap mm H locs) (hl : lv_has ls 4 [(0, .ref b), (1, .ref (ad 0)), (2, .ref (ad 58)), (3, .int v3)]) : W p l e room_1 s m args below meth c H locs cells slots Q (F0 m 983 ls []) := by
  unfold DL_law_983 at h
  have hx := C.1
  have hb := C.2.1
  refine lv_aload_n hx hb dL_law_983 rfl (lv_at hl 1 rfl) ?_
  refine lv_aload_n hx hb dL_law_984 rfl (lv_at hl 0 rfl) ?_
  refine lv_iload_n hx hb dL_law_985 rfl (lv_at hl 3 rfl) ?_
  refine lv_iconst (v := 1) hx hb dL_law_986 (by decide) ?_
  refine lv_iadd hx hb dL_law_987 ?_
  obtain ⟨hi988, h⟩ := tC h
  refine va_sld hx hb hX hbl hbA hH.2.2 hi988 dL_law_988 ?_
  obtain ⟨q989, e989, h⟩ := tB h
  refine rcI C hH hl.1 (mX9_led l e989) cf_RL_113 ro_0 (hRR 2 2 (by decide) (by decide)) rfl (rest := []) rfl (Nat.le_of_ble_eq_true rfl) dL_law_989 ?_
  intro hz989 H locs hH
  refine lv_aload_n hx hb dL_law_992 rfl (lv_at hl 2 rfl) ?_
  refine lv_aload_n hx hb dL_law_993 rfl (lv_at hl 0 rfl) ?_
  refine lv_iload_n hx hb dL_law_994 rfl (lv_at hl 3 rfl) ?_
  refine lv_iconst (v := 1) hx hb dL_law_995 (by decide) ?_
  refine lv_iadd hx hb dL_law_996 ?_
  obtain ⟨hi997, h⟩ := tC h
  refine va_sld hx hb hX hbl hbA hH.2.2 hi997 dL_law_997 ?_
  obtain ⟨q998, e998, h⟩ := tB h
  refine rcI C hH hl.1 (mX10_led l e998) cf_RL_116 ro_58 (hRR 2 2 (by decide) (by decide)) rfl (rest := [.int q989.1]) rfl (Nat.le_of_ble_eq_true rfl) dL_law_998 ?_
  intro hz998 H locs hH
  refine lv_icmp_eq (tgt := 1449) hx hb dL_law_1001 (by decide) (fun hc1001 => ?_) (fun hc1001 => ?_)
  · replace h := tT hc1001 h
    exact wL_law_1449 C hX hbl hbA hRR hq hend hk18 h hH (lv_sub hl [0, 1, 2, 3] rfl)
  · replace h := tF hc1001 h
    refine lv_iconst (v := 0) hx hb dL_law_1004 (by decide) ?_
    have h := Option.some.inj h
    subst h
    exact absurd (show (0 : Int32) = 1 from hq) (by decide)
set_option maxHeartbeats 2000000 in
set_option maxRecDepth 20000 in
theorem wL_law_1006 (C : Cx D ca A p s m args meth c cL_law RL 4 (some .boolean)) {q : Int32 × Mm} {b L : Nat} {xs : Nat → Int32} (hX : va_X b L xs s s.heap) (hbl : b < s.heap.size) (hbA : ¬ A b) (hRR : ∀ lev n, lev ≤ 1000 → n ≤ 21 → RR room_1 lev n cells slots) (hq : q.1 = 1) (hend : ∀ {mm : Mm} {H : Heap} {locs : List Loc} {ls : Array Slot}, Hx WN ad ca WS D A s.heap mm H locs → W p l e room_1 s m args below meth c H locs cells slots Q (F0 m 1456 ls [.int 1])) {k18 : Int32 → Mm → Option (Int32 × Mm)} (hk18 : ∀ (v3 : Int32) (mm : Mm), k18 v3 mm = some q → ∀ (H : Heap) (locs : List Loc) (ls : Array Slot), Hx WN ad ca WS D A s.heap mm H locs → lv_has ls 4 [(0, .ref b), (1, .ref (ad 0)), (2, .ref (ad 58)), (3, .int v3)] → W p l e room_1 s m args below meth c H locs cells slots Q (F0 m 18 ls [])) {v3 : Int32} {mm : Mm} (h : DL_law_1006 L xs k18 v3 mm = some q) (hH : Hx WN ad ca WS D A s.heap mm H locs) (hl : lv_has ls 4 [(0, .ref b), (1, .ref (ad 0)), (2, .ref (ad 58)), (3, .int v3)]) : W p l e room_1 s m args below meth c H locs cells slots Q (F0 m 1006 ls []) := by
  unfold DL_law_1006 at h
  have hx := C.1
  have hb := C.2.1
  refine lv_aload_n hx hb dL_law_1006 rfl (lv_at hl 1 rfl) ?_
  obtain ⟨q1007, e1007, h⟩ := tB h
  refine rcI C hH hl.1 (mX9_image l e1007) cf_RL_117 ro_0 (hRR 4 1 (by decide) (by decide)) rfl (rest := []) rfl (Nat.le_of_ble_eq_true rfl) dL_law_1007 ?_
  intro hz1007 H locs hH
  refine lv_aload_n hx hb dL_law_1010 rfl (lv_at hl 2 rfl) ?_
  obtain ⟨q1011, e1011, h⟩ := tB h
  refine rcI C hH hl.1 (mX10_image l e1011) cf_RL_120 ro_58 (hRR 1 2 (by decide) (by decide)) rfl (rest := [.int q1007.1]) rfl (Nat.le_of_ble_eq_true rfl) dL_law_1011 ?_
  intro hz1011 H locs hH
  refine lv_icmp_eq (tgt := 1449) hx hb dL_law_1014 (by decide) (fun hc1014 => ?_) (fun hc1014 => ?_)
  · replace h := tT hc1014 h
    exact wL_law_1449 C hX hbl hbA hRR hq hend hk18 h hH (lv_sub hl [0, 1, 2, 3] rfl)
  · replace h := tF hc1014 h
    refine lv_iconst (v := 0) hx hb dL_law_1017 (by decide) ?_
    have h := Option.some.inj h
    subst h
    exact absurd (show (0 : Int32) = 1 from hq) (by decide)
set_option maxHeartbeats 2000000 in
set_option maxRecDepth 20000 in
theorem wL_law_1019 (C : Cx D ca A p s m args meth c cL_law RL 4 (some .boolean)) {q : Int32 × Mm} {b L : Nat} {xs : Nat → Int32} (hX : va_X b L xs s s.heap) (hbl : b < s.heap.size) (hbA : ¬ A b) (hRR : ∀ lev n, lev ≤ 1000 → n ≤ 21 → RR room_1 lev n cells slots) (hq : q.1 = 1) (hend : ∀ {mm : Mm} {H : Heap} {locs : List Loc} {ls : Array Slot}, Hx WN ad ca WS D A s.heap mm H locs → W p l e room_1 s m args below meth c H locs cells slots Q (F0 m 1456 ls [.int 1])) {k18 : Int32 → Mm → Option (Int32 × Mm)} (hk18 : ∀ (v3 : Int32) (mm : Mm), k18 v3 mm = some q → ∀ (H : Heap) (locs : List Loc) (ls : Array Slot), Hx WN ad ca WS D A s.heap mm H locs → lv_has ls 4 [(0, .ref b), (1, .ref (ad 0)), (2, .ref (ad 58)), (3, .int v3)] → W p l e room_1 s m args below meth c H locs cells slots Q (F0 m 18 ls [])) {v3 : Int32} {mm : Mm} (h : DL_law_1019 L xs k18 v3 mm = some q) (hH : Hx WN ad ca WS D A s.heap mm H locs) (hl : lv_has ls 4 [(0, .ref b), (1, .ref (ad 0)), (2, .ref (ad 58)), (3, .int v3)]) : W p l e room_1 s m args below meth c H locs cells slots Q (F0 m 1019 ls []) := by
  unfold DL_law_1019 at h
  have hx := C.1
  have hb := C.2.1
  refine lv_aload_n hx hb dL_law_1019 rfl (lv_at hl 1 rfl) ?_
  obtain ⟨q1020, e1020, h⟩ := tB h
  refine rcI C hH hl.1 (mX9_back l e1020) cf_RL_121 ro_0 (hRR 4 1 (by decide) (by decide)) rfl (rest := []) rfl (Nat.le_of_ble_eq_true rfl) dL_law_1020 ?_
  intro hz1020 H locs hH
  refine lv_aload_n hx hb dL_law_1023 rfl (lv_at hl 2 rfl) ?_
  obtain ⟨q1024, e1024, h⟩ := tB h
  refine rcI C hH hl.1 (mX10_back l e1024) cf_RL_124 ro_58 (hRR 1 2 (by decide) (by decide)) rfl (rest := [.int q1020.1]) rfl (Nat.le_of_ble_eq_true rfl) dL_law_1024 ?_
  intro hz1024 H locs hH
  refine lv_icmp_eq (tgt := 1449) hx hb dL_law_1027 (by decide) (fun hc1027 => ?_) (fun hc1027 => ?_)
  · replace h := tT hc1027 h
    exact wL_law_1449 C hX hbl hbA hRR hq hend hk18 h hH (lv_sub hl [0, 1, 2, 3] rfl)
  · replace h := tF hc1027 h
    refine lv_iconst (v := 0) hx hb dL_law_1030 (by decide) ?_
    have h := Option.some.inj h
    subst h
    exact absurd (show (0 : Int32) = 1 from hq) (by decide)
set_option maxHeartbeats 2000000 in
set_option maxRecDepth 20000 in
theorem wL_law_1032 (C : Cx D ca A p s m args meth c cL_law RL 4 (some .boolean)) {q : Int32 × Mm} {b L : Nat} {xs : Nat → Int32} (hX : va_X b L xs s s.heap) (hbl : b < s.heap.size) (hbA : ¬ A b) (hRR : ∀ lev n, lev ≤ 1000 → n ≤ 21 → RR room_1 lev n cells slots) (hq : q.1 = 1) (hend : ∀ {mm : Mm} {H : Heap} {locs : List Loc} {ls : Array Slot}, Hx WN ad ca WS D A s.heap mm H locs → W p l e room_1 s m args below meth c H locs cells slots Q (F0 m 1456 ls [.int 1])) {k18 : Int32 → Mm → Option (Int32 × Mm)} (hk18 : ∀ (v3 : Int32) (mm : Mm), k18 v3 mm = some q → ∀ (H : Heap) (locs : List Loc) (ls : Array Slot), Hx WN ad ca WS D A s.heap mm H locs → lv_has ls 4 [(0, .ref b), (1, .ref (ad 0)), (2, .ref (ad 58)), (3, .int v3)] → W p l e room_1 s m args below meth c H locs cells slots Q (F0 m 18 ls [])) {v3 : Int32} {mm : Mm} (h : DL_law_1032 L xs k18 v3 mm = some q) (hH : Hx WN ad ca WS D A s.heap mm H locs) (hl : lv_has ls 4 [(0, .ref b), (1, .ref (ad 0)), (2, .ref (ad 58)), (3, .int v3)]) : W p l e room_1 s m args below meth c H locs cells slots Q (F0 m 1032 ls []) := by
  unfold DL_law_1032 at h
  have hx := C.1
  have hb := C.2.1
  refine lv_aload_n hx hb dL_law_1032 rfl (lv_at hl 1 rfl) ?_
  obtain ⟨q1033, e1033, h⟩ := tB h
  refine rcI C hH hl.1 (mX9_undo l e1033) cf_RL_125 ro_0 (hRR 4 1 (by decide) (by decide)) rfl (rest := []) rfl (Nat.le_of_ble_eq_true rfl) dL_law_1033 ?_
  intro hz1033 H locs hH
  refine lv_aload_n hx hb dL_law_1036 rfl (lv_at hl 2 rfl) ?_
  obtain ⟨q1037, e1037, h⟩ := tB h
  refine rcI C hH hl.1 (mX10_undo l e1037) cf_RL_128 ro_58 (hRR 1 1 (by decide) (by decide)) rfl (rest := [.int q1033.1]) rfl (Nat.le_of_ble_eq_true rfl) dL_law_1037 ?_
  intro hz1037 H locs hH
  refine lv_icmp_eq (tgt := 1449) hx hb dL_law_1040 (by decide) (fun hc1040 => ?_) (fun hc1040 => ?_)
  · replace h := tT hc1040 h
    exact wL_law_1449 C hX hbl hbA hRR hq hend hk18 h hH (lv_sub hl [0, 1, 2, 3] rfl)
  · replace h := tF hc1040 h
    refine lv_iconst (v := 0) hx hb dL_law_1043 (by decide) ?_
    have h := Option.some.inj h
    subst h
    exact absurd (show (0 : Int32) = 1 from hq) (by decide)
set_option maxHeartbeats 2000000 in
set_option maxRecDepth 20000 in
theorem wL_law_1045 (C : Cx D ca A p s m args meth c cL_law RL 4 (some .boolean)) {q : Int32 × Mm} {b L : Nat} {xs : Nat → Int32} (hX : va_X b L xs s s.heap) (hbl : b < s.heap.size) (hbA : ¬ A b) (hRR : ∀ lev n, lev ≤ 1000 → n ≤ 21 → RR room_1 lev n cells slots) (hq : q.1 = 1) (hend : ∀ {mm : Mm} {H : Heap} {locs : List Loc} {ls : Array Slot}, Hx WN ad ca WS D A s.heap mm H locs → W p l e room_1 s m args below meth c H locs cells slots Q (F0 m 1456 ls [.int 1])) {k18 : Int32 → Mm → Option (Int32 × Mm)} (hk18 : ∀ (v3 : Int32) (mm : Mm), k18 v3 mm = some q → ∀ (H : Heap) (locs : List Loc) (ls : Array Slot), Hx WN ad ca WS D A s.heap mm H locs → lv_has ls 4 [(0, .ref b), (1, .ref (ad 0)), (2, .ref (ad 58)), (3, .int v3)] → W p l e room_1 s m args below meth c H locs cells slots Q (F0 m 18 ls [])) {v3 : Int32} {mm : Mm} (h : DL_law_1045 L xs k18 v3 mm = some q) (hH : Hx WN ad ca WS D A s.heap mm H locs) (hl : lv_has ls 4 [(0, .ref b), (1, .ref (ad 0)), (2, .ref (ad 58)), (3, .int v3)]) : W p l e room_1 s m args below meth c H locs cells slots Q (F0 m 1045 ls []) := by
  unfold DL_law_1045 at h
  have hx := C.1
  have hb := C.2.1
  refine lv_aload_n hx hb dL_law_1045 rfl (lv_at hl 1 rfl) ?_
  obtain ⟨q1046, e1046, h⟩ := tB h
  refine rcI C hH hl.1 (mX9_redo l e1046) cf_RL_129 ro_0 (hRR 4 1 (by decide) (by decide)) rfl (rest := []) rfl (Nat.le_of_ble_eq_true rfl) dL_law_1046 ?_
  intro hz1046 H locs hH
  refine lv_aload_n hx hb dL_law_1049 rfl (lv_at hl 2 rfl) ?_
  obtain ⟨q1050, e1050, h⟩ := tB h
  refine rcI C hH hl.1 (mX10_redo l e1050) cf_RL_132 ro_58 (hRR 1 1 (by decide) (by decide)) rfl (rest := [.int q1046.1]) rfl (Nat.le_of_ble_eq_true rfl) dL_law_1050 ?_
  intro hz1050 H locs hH
  refine lv_icmp_eq (tgt := 1449) hx hb dL_law_1053 (by decide) (fun hc1053 => ?_) (fun hc1053 => ?_)
  · replace h := tT hc1053 h
    exact wL_law_1449 C hX hbl hbA hRR hq hend hk18 h hH (lv_sub hl [0, 1, 2, 3] rfl)
  · replace h := tF hc1053 h
    refine lv_iconst (v := 0) hx hb dL_law_1056 (by decide) ?_
    have h := Option.some.inj h
    subst h
    exact absurd (show (0 : Int32) = 1 from hq) (by decide)
set_option maxHeartbeats 2000000 in
set_option maxRecDepth 20000 in
theorem wL_law_1058 (C : Cx D ca A p s m args meth c cL_law RL 4 (some .boolean)) {q : Int32 × Mm} {b L : Nat} {xs : Nat → Int32} (hX : va_X b L xs s s.heap) (hbl : b < s.heap.size) (hbA : ¬ A b) (hRR : ∀ lev n, lev ≤ 1000 → n ≤ 21 → RR room_1 lev n cells slots) (hq : q.1 = 1) (hend : ∀ {mm : Mm} {H : Heap} {locs : List Loc} {ls : Array Slot}, Hx WN ad ca WS D A s.heap mm H locs → W p l e room_1 s m args below meth c H locs cells slots Q (F0 m 1456 ls [.int 1])) {k18 : Int32 → Mm → Option (Int32 × Mm)} (hk18 : ∀ (v3 : Int32) (mm : Mm), k18 v3 mm = some q → ∀ (H : Heap) (locs : List Loc) (ls : Array Slot), Hx WN ad ca WS D A s.heap mm H locs → lv_has ls 4 [(0, .ref b), (1, .ref (ad 0)), (2, .ref (ad 58)), (3, .int v3)] → W p l e room_1 s m args below meth c H locs cells slots Q (F0 m 18 ls [])) {v3 : Int32} {mm : Mm} (h : DL_law_1058 L xs k18 v3 mm = some q) (hH : Hx WN ad ca WS D A s.heap mm H locs) (hl : lv_has ls 4 [(0, .ref b), (1, .ref (ad 0)), (2, .ref (ad 58)), (3, .int v3)]) : W p l e room_1 s m args below meth c H locs cells slots Q (F0 m 1058 ls []) := by
  unfold DL_law_1058 at h
  have hx := C.1
  have hb := C.2.1
  refine lv_aload_n hx hb dL_law_1058 rfl (lv_at hl 1 rfl) ?_
  refine lv_aload_n hx hb dL_law_1059 rfl (lv_at hl 0 rfl) ?_
  refine lv_iload_n hx hb dL_law_1060 rfl (lv_at hl 3 rfl) ?_
  refine lv_iconst (v := 1) hx hb dL_law_1061 (by decide) ?_
  refine lv_iadd hx hb dL_law_1062 ?_
  obtain ⟨hi1063, h⟩ := tC h
  refine va_sld hx hb hX hbl hbA hH.2.2 hi1063 dL_law_1063 ?_
  obtain ⟨q1064, e1064, h⟩ := tB h
  refine rcI C hH hl.1 (mX9_body l e1064) cf_RL_133 ro_0 (hRR 2 2 (by decide) (by decide)) rfl (rest := []) rfl (Nat.le_of_ble_eq_true rfl) dL_law_1064 ?_
  intro hz1064 H locs hH
  refine lv_aload_n hx hb dL_law_1067 rfl (lv_at hl 2 rfl) ?_
  refine lv_aload_n hx hb dL_law_1068 rfl (lv_at hl 0 rfl) ?_
  refine lv_iload_n hx hb dL_law_1069 rfl (lv_at hl 3 rfl) ?_
  refine lv_iconst (v := 1) hx hb dL_law_1070 (by decide) ?_
  refine lv_iadd hx hb dL_law_1071 ?_
  obtain ⟨hi1072, h⟩ := tC h
  refine va_sld hx hb hX hbl hbA hH.2.2 hi1072 dL_law_1072 ?_
  obtain ⟨q1073, e1073, h⟩ := tB h
  refine rcI C hH hl.1 (mX10_body l e1073) cf_RL_136 ro_58 (hRR 2 2 (by decide) (by decide)) rfl (rest := [.int q1064.1]) rfl (Nat.le_of_ble_eq_true rfl) dL_law_1073 ?_
  intro hz1073 H locs hH
  refine lv_icmp_eq (tgt := 1449) hx hb dL_law_1076 (by decide) (fun hc1076 => ?_) (fun hc1076 => ?_)
  · replace h := tT hc1076 h
    exact wL_law_1449 C hX hbl hbA hRR hq hend hk18 h hH (lv_sub hl [0, 1, 2, 3] rfl)
  · replace h := tF hc1076 h
    refine lv_iconst (v := 0) hx hb dL_law_1079 (by decide) ?_
    have h := Option.some.inj h
    subst h
    exact absurd (show (0 : Int32) = 1 from hq) (by decide)
set_option maxHeartbeats 2000000 in
set_option maxRecDepth 20000 in
theorem wL_law_1081 (C : Cx D ca A p s m args meth c cL_law RL 4 (some .boolean)) {q : Int32 × Mm} {b L : Nat} {xs : Nat → Int32} (hX : va_X b L xs s s.heap) (hbl : b < s.heap.size) (hbA : ¬ A b) (hRR : ∀ lev n, lev ≤ 1000 → n ≤ 21 → RR room_1 lev n cells slots) (hq : q.1 = 1) (hend : ∀ {mm : Mm} {H : Heap} {locs : List Loc} {ls : Array Slot}, Hx WN ad ca WS D A s.heap mm H locs → W p l e room_1 s m args below meth c H locs cells slots Q (F0 m 1456 ls [.int 1])) {k18 : Int32 → Mm → Option (Int32 × Mm)} (hk18 : ∀ (v3 : Int32) (mm : Mm), k18 v3 mm = some q → ∀ (H : Heap) (locs : List Loc) (ls : Array Slot), Hx WN ad ca WS D A s.heap mm H locs → lv_has ls 4 [(0, .ref b), (1, .ref (ad 0)), (2, .ref (ad 58)), (3, .int v3)] → W p l e room_1 s m args below meth c H locs cells slots Q (F0 m 18 ls [])) {v3 : Int32} {mm : Mm} (h : DL_law_1081 L xs k18 v3 mm = some q) (hH : Hx WN ad ca WS D A s.heap mm H locs) (hl : lv_has ls 4 [(0, .ref b), (1, .ref (ad 0)), (2, .ref (ad 58)), (3, .int v3)]) : W p l e room_1 s m args below meth c H locs cells slots Q (F0 m 1081 ls []) := by
  unfold DL_law_1081 at h
  have hx := C.1
  have hb := C.2.1
  refine lv_aload_n hx hb dL_law_1081 rfl (lv_at hl 1 rfl) ?_
  refine lv_aload_n hx hb dL_law_1082 rfl (lv_at hl 0 rfl) ?_
  refine lv_iload_n hx hb dL_law_1083 rfl (lv_at hl 3 rfl) ?_
  refine lv_iconst (v := 1) hx hb dL_law_1084 (by decide) ?_
  refine lv_iadd hx hb dL_law_1085 ?_
  obtain ⟨hi1086, h⟩ := tC h
  refine va_sld hx hb hX hbl hbA hH.2.2 hi1086 dL_law_1086 ?_
  refine lv_aload_n hx hb dL_law_1087 rfl (lv_at hl 0 rfl) ?_
  refine lv_iload_n hx hb dL_law_1088 rfl (lv_at hl 3 rfl) ?_
  refine lv_iconst (v := 2) hx hb dL_law_1089 (by decide) ?_
  refine lv_iadd hx hb dL_law_1090 ?_
  obtain ⟨hi1091, h⟩ := tC h
  refine va_sld hx hb hX hbl hbA hH.2.2 hi1091 dL_law_1091 ?_
  refine lv_aload_n hx hb dL_law_1092 rfl (lv_at hl 0 rfl) ?_
  refine lv_iload_n hx hb dL_law_1093 rfl (lv_at hl 3 rfl) ?_
  refine lv_iconst (v := 3) hx hb dL_law_1094 (by decide) ?_
  refine lv_iadd hx hb dL_law_1095 ?_
  obtain ⟨hi1096, h⟩ := tC h
  refine va_sld hx hb hX hbl hbA hH.2.2 hi1096 dL_law_1096 ?_
  obtain ⟨q1097, e1097, h⟩ := tB h
  refine rcI C hH hl.1 (mX9_act l e1097) cf_RL_137 ro_0 (hRR 104 4 (by decide) (by decide)) rfl (rest := []) rfl (Nat.le_of_ble_eq_true rfl) dL_law_1097 ?_
  intro hz1097 H locs hH
  refine lv_aload_n hx hb dL_law_1100 rfl (lv_at hl 2 rfl) ?_
  refine lv_aload_n hx hb dL_law_1101 rfl (lv_at hl 0 rfl) ?_
  refine lv_iload_n hx hb dL_law_1102 rfl (lv_at hl 3 rfl) ?_
  refine lv_iconst (v := 1) hx hb dL_law_1103 (by decide) ?_
  refine lv_iadd hx hb dL_law_1104 ?_
  obtain ⟨hi1105, h⟩ := tC h
  refine va_sld hx hb hX hbl hbA hH.2.2 hi1105 dL_law_1105 ?_
  refine lv_aload_n hx hb dL_law_1106 rfl (lv_at hl 0 rfl) ?_
  refine lv_iload_n hx hb dL_law_1107 rfl (lv_at hl 3 rfl) ?_
  refine lv_iconst (v := 2) hx hb dL_law_1108 (by decide) ?_
  refine lv_iadd hx hb dL_law_1109 ?_
  obtain ⟨hi1110, h⟩ := tC h
  refine va_sld hx hb hX hbl hbA hH.2.2 hi1110 dL_law_1110 ?_
  refine lv_aload_n hx hb dL_law_1111 rfl (lv_at hl 0 rfl) ?_
  refine lv_iload_n hx hb dL_law_1112 rfl (lv_at hl 3 rfl) ?_
  refine lv_iconst (v := 3) hx hb dL_law_1113 (by decide) ?_
  refine lv_iadd hx hb dL_law_1114 ?_
  obtain ⟨hi1115, h⟩ := tC h
  refine va_sld hx hb hX hbl hbA hH.2.2 hi1115 dL_law_1115 ?_
  obtain ⟨q1116, e1116, h⟩ := tB h
  refine rcI C hH hl.1 (mX10_act l e1116) cf_RL_140 ro_58 (hRR 406 4 (by decide) (by decide)) rfl (rest := [.int q1097.1]) rfl (Nat.le_of_ble_eq_true rfl) dL_law_1116 ?_
  intro hz1116 H locs hH
  refine lv_icmp_eq (tgt := 1449) hx hb dL_law_1119 (by decide) (fun hc1119 => ?_) (fun hc1119 => ?_)
  · replace h := tT hc1119 h
    exact wL_law_1449 C hX hbl hbA hRR hq hend hk18 h hH (lv_sub hl [0, 1, 2, 3] rfl)
  · replace h := tF hc1119 h
    refine lv_iconst (v := 0) hx hb dL_law_1122 (by decide) ?_
    have h := Option.some.inj h
    subst h
    exact absurd (show (0 : Int32) = 1 from hq) (by decide)
set_option maxHeartbeats 2000000 in
set_option maxRecDepth 20000 in
theorem wL_law_1124 (C : Cx D ca A p s m args meth c cL_law RL 4 (some .boolean)) {q : Int32 × Mm} {b L : Nat} {xs : Nat → Int32} (hX : va_X b L xs s s.heap) (hbl : b < s.heap.size) (hbA : ¬ A b) (hRR : ∀ lev n, lev ≤ 1000 → n ≤ 21 → RR room_1 lev n cells slots) (hq : q.1 = 1) (hend : ∀ {mm : Mm} {H : Heap} {locs : List Loc} {ls : Array Slot}, Hx WN ad ca WS D A s.heap mm H locs → W p l e room_1 s m args below meth c H locs cells slots Q (F0 m 1456 ls [.int 1])) {k18 : Int32 → Mm → Option (Int32 × Mm)} (hk18 : ∀ (v3 : Int32) (mm : Mm), k18 v3 mm = some q → ∀ (H : Heap) (locs : List Loc) (ls : Array Slot), Hx WN ad ca WS D A s.heap mm H locs → lv_has ls 4 [(0, .ref b), (1, .ref (ad 0)), (2, .ref (ad 58)), (3, .int v3)] → W p l e room_1 s m args below meth c H locs cells slots Q (F0 m 18 ls [])) {v3 : Int32} {mm : Mm} (h : DL_law_1124 L xs k18 v3 mm = some q) (hH : Hx WN ad ca WS D A s.heap mm H locs) (hl : lv_has ls 4 [(0, .ref b), (1, .ref (ad 0)), (2, .ref (ad 58)), (3, .int v3)]) : W p l e room_1 s m args below meth c H locs cells slots Q (F0 m 1124 ls []) := by
  unfold DL_law_1124 at h
  have hx := C.1
  have hb := C.2.1
  refine lv_aload_n hx hb dL_law_1124 rfl (lv_at hl 1 rfl) ?_
  refine lv_aload_n hx hb dL_law_1125 rfl (lv_at hl 0 rfl) ?_
  refine lv_iload_n hx hb dL_law_1126 rfl (lv_at hl 3 rfl) ?_
  refine lv_iconst (v := 1) hx hb dL_law_1127 (by decide) ?_
  refine lv_iadd hx hb dL_law_1128 ?_
  obtain ⟨hi1129, h⟩ := tC h
  refine va_sld hx hb hX hbl hbA hH.2.2 hi1129 dL_law_1129 ?_
  obtain ⟨q1130, e1130, h⟩ := tB h
  refine rcI C hH hl.1 (mX9_trace l e1130) cf_RL_141 ro_0 (hRR 2 2 (by decide) (by decide)) rfl (rest := []) rfl (Nat.le_of_ble_eq_true rfl) dL_law_1130 ?_
  intro hz1130 H locs hH
  refine lv_aload_n hx hb dL_law_1133 rfl (lv_at hl 2 rfl) ?_
  refine lv_aload_n hx hb dL_law_1134 rfl (lv_at hl 0 rfl) ?_
  refine lv_iload_n hx hb dL_law_1135 rfl (lv_at hl 3 rfl) ?_
  refine lv_iconst (v := 1) hx hb dL_law_1136 (by decide) ?_
  refine lv_iadd hx hb dL_law_1137 ?_
  obtain ⟨hi1138, h⟩ := tC h
  refine va_sld hx hb hX hbl hbA hH.2.2 hi1138 dL_law_1138 ?_
  obtain ⟨q1139, e1139, h⟩ := tB h
  refine rcI C hH hl.1 (mX10_trace l e1139) cf_RL_144 ro_58 (hRR 1 2 (by decide) (by decide)) rfl (rest := [.int q1130.1]) rfl (Nat.le_of_ble_eq_true rfl) dL_law_1139 ?_
  intro hz1139 H locs hH
  refine lv_icmp_eq (tgt := 1449) hx hb dL_law_1142 (by decide) (fun hc1142 => ?_) (fun hc1142 => ?_)
  · replace h := tT hc1142 h
    exact wL_law_1449 C hX hbl hbA hRR hq hend hk18 h hH (lv_sub hl [0, 1, 2, 3] rfl)
  · replace h := tF hc1142 h
    refine lv_iconst (v := 0) hx hb dL_law_1145 (by decide) ?_
    have h := Option.some.inj h
    subst h
    exact absurd (show (0 : Int32) = 1 from hq) (by decide)
set_option maxHeartbeats 2000000 in
set_option maxRecDepth 20000 in
theorem wL_law_1147 (C : Cx D ca A p s m args meth c cL_law RL 4 (some .boolean)) {q : Int32 × Mm} {b L : Nat} {xs : Nat → Int32} (hX : va_X b L xs s s.heap) (hbl : b < s.heap.size) (hbA : ¬ A b) (hRR : ∀ lev n, lev ≤ 1000 → n ≤ 21 → RR room_1 lev n cells slots) (hq : q.1 = 1) (hend : ∀ {mm : Mm} {H : Heap} {locs : List Loc} {ls : Array Slot}, Hx WN ad ca WS D A s.heap mm H locs → W p l e room_1 s m args below meth c H locs cells slots Q (F0 m 1456 ls [.int 1])) {k18 : Int32 → Mm → Option (Int32 × Mm)} (hk18 : ∀ (v3 : Int32) (mm : Mm), k18 v3 mm = some q → ∀ (H : Heap) (locs : List Loc) (ls : Array Slot), Hx WN ad ca WS D A s.heap mm H locs → lv_has ls 4 [(0, .ref b), (1, .ref (ad 0)), (2, .ref (ad 58)), (3, .int v3)] → W p l e room_1 s m args below meth c H locs cells slots Q (F0 m 18 ls [])) {v3 : Int32} {mm : Mm} (h : DL_law_1147 L xs k18 v3 mm = some q) (hH : Hx WN ad ca WS D A s.heap mm H locs) (hl : lv_has ls 4 [(0, .ref b), (1, .ref (ad 0)), (2, .ref (ad 58)), (3, .int v3)]) : W p l e room_1 s m args below meth c H locs cells slots Q (F0 m 1147 ls []) := by
  unfold DL_law_1147 at h
  have hx := C.1
  have hb := C.2.1
  refine lv_aload_n hx hb dL_law_1147 rfl (lv_at hl 1 rfl) ?_
  refine lv_aload_n hx hb dL_law_1148 rfl (lv_at hl 0 rfl) ?_
  refine lv_iload_n hx hb dL_law_1149 rfl (lv_at hl 3 rfl) ?_
  refine lv_iconst (v := 1) hx hb dL_law_1150 (by decide) ?_
  refine lv_iadd hx hb dL_law_1151 ?_
  obtain ⟨hi1152, h⟩ := tC h
  refine va_sld hx hb hX hbl hbA hH.2.2 hi1152 dL_law_1152 ?_
  refine lv_aload_n hx hb dL_law_1153 rfl (lv_at hl 0 rfl) ?_
  refine lv_iload_n hx hb dL_law_1154 rfl (lv_at hl 3 rfl) ?_
  refine lv_iconst (v := 2) hx hb dL_law_1155 (by decide) ?_
  refine lv_iadd hx hb dL_law_1156 ?_
  obtain ⟨hi1157, h⟩ := tC h
  refine va_sld hx hb hX hbl hbA hH.2.2 hi1157 dL_law_1157 ?_
  obtain ⟨q1158, e1158, h⟩ := tB h
  refine rcI C hH hl.1 (mX9_keep l e1158) cf_RL_145 ro_0 (hRR 2 3 (by decide) (by decide)) rfl (rest := []) rfl (Nat.le_of_ble_eq_true rfl) dL_law_1158 ?_
  intro hz1158 H locs hH
  refine lv_aload_n hx hb dL_law_1161 rfl (lv_at hl 2 rfl) ?_
  refine lv_aload_n hx hb dL_law_1162 rfl (lv_at hl 0 rfl) ?_
  refine lv_iload_n hx hb dL_law_1163 rfl (lv_at hl 3 rfl) ?_
  refine lv_iconst (v := 1) hx hb dL_law_1164 (by decide) ?_
  refine lv_iadd hx hb dL_law_1165 ?_
  obtain ⟨hi1166, h⟩ := tC h
  refine va_sld hx hb hX hbl hbA hH.2.2 hi1166 dL_law_1166 ?_
  refine lv_aload_n hx hb dL_law_1167 rfl (lv_at hl 0 rfl) ?_
  refine lv_iload_n hx hb dL_law_1168 rfl (lv_at hl 3 rfl) ?_
  refine lv_iconst (v := 2) hx hb dL_law_1169 (by decide) ?_
  refine lv_iadd hx hb dL_law_1170 ?_
  obtain ⟨hi1171, h⟩ := tC h
  refine va_sld hx hb hX hbl hbA hH.2.2 hi1171 dL_law_1171 ?_
  obtain ⟨q1172, e1172, h⟩ := tB h
  refine rcI C hH hl.1 (mX10_keep l e1172) cf_RL_148 ro_58 (hRR 3 3 (by decide) (by decide)) rfl (rest := [.int q1158.1]) rfl (Nat.le_of_ble_eq_true rfl) dL_law_1172 ?_
  intro hz1172 H locs hH
  refine lv_icmp_eq (tgt := 1449) hx hb dL_law_1175 (by decide) (fun hc1175 => ?_) (fun hc1175 => ?_)
  · replace h := tT hc1175 h
    exact wL_law_1449 C hX hbl hbA hRR hq hend hk18 h hH (lv_sub hl [0, 1, 2, 3] rfl)
  · replace h := tF hc1175 h
    refine lv_iconst (v := 0) hx hb dL_law_1178 (by decide) ?_
    have h := Option.some.inj h
    subst h
    exact absurd (show (0 : Int32) = 1 from hq) (by decide)
set_option maxHeartbeats 2000000 in
set_option maxRecDepth 20000 in
theorem wL_law_1180 (C : Cx D ca A p s m args meth c cL_law RL 4 (some .boolean)) {q : Int32 × Mm} {b L : Nat} {xs : Nat → Int32} (hX : va_X b L xs s s.heap) (hbl : b < s.heap.size) (hbA : ¬ A b) (hRR : ∀ lev n, lev ≤ 1000 → n ≤ 21 → RR room_1 lev n cells slots) (hq : q.1 = 1) (hend : ∀ {mm : Mm} {H : Heap} {locs : List Loc} {ls : Array Slot}, Hx WN ad ca WS D A s.heap mm H locs → W p l e room_1 s m args below meth c H locs cells slots Q (F0 m 1456 ls [.int 1])) {k18 : Int32 → Mm → Option (Int32 × Mm)} (hk18 : ∀ (v3 : Int32) (mm : Mm), k18 v3 mm = some q → ∀ (H : Heap) (locs : List Loc) (ls : Array Slot), Hx WN ad ca WS D A s.heap mm H locs → lv_has ls 4 [(0, .ref b), (1, .ref (ad 0)), (2, .ref (ad 58)), (3, .int v3)] → W p l e room_1 s m args below meth c H locs cells slots Q (F0 m 18 ls [])) {v3 : Int32} {mm : Mm} (h : DL_law_1180 L xs k18 v3 mm = some q) (hH : Hx WN ad ca WS D A s.heap mm H locs) (hl : lv_has ls 4 [(0, .ref b), (1, .ref (ad 0)), (2, .ref (ad 58)), (3, .int v3)]) : W p l e room_1 s m args below meth c H locs cells slots Q (F0 m 1180 ls []) := by
  unfold DL_law_1180 at h
  have hx := C.1
  have hb := C.2.1
  refine lv_aload_n hx hb dL_law_1180 rfl (lv_at hl 1 rfl) ?_
  refine lv_aload_n hx hb dL_law_1181 rfl (lv_at hl 0 rfl) ?_
  refine lv_iload_n hx hb dL_law_1182 rfl (lv_at hl 3 rfl) ?_
  refine lv_iconst (v := 1) hx hb dL_law_1183 (by decide) ?_
  refine lv_iadd hx hb dL_law_1184 ?_
  obtain ⟨hi1185, h⟩ := tC h
  refine va_sld hx hb hX hbl hbA hH.2.2 hi1185 dL_law_1185 ?_
  refine lv_aload_n hx hb dL_law_1186 rfl (lv_at hl 0 rfl) ?_
  refine lv_iload_n hx hb dL_law_1187 rfl (lv_at hl 3 rfl) ?_
  refine lv_iconst (v := 2) hx hb dL_law_1188 (by decide) ?_
  refine lv_iadd hx hb dL_law_1189 ?_
  obtain ⟨hi1190, h⟩ := tC h
  refine va_sld hx hb hX hbl hbA hH.2.2 hi1190 dL_law_1190 ?_
  refine lv_aload_n hx hb dL_law_1191 rfl (lv_at hl 0 rfl) ?_
  refine lv_iload_n hx hb dL_law_1192 rfl (lv_at hl 3 rfl) ?_
  refine lv_iconst (v := 3) hx hb dL_law_1193 (by decide) ?_
  refine lv_iadd hx hb dL_law_1194 ?_
  obtain ⟨hi1195, h⟩ := tC h
  refine va_sld hx hb hX hbl hbA hH.2.2 hi1195 dL_law_1195 ?_
  obtain ⟨q1196, e1196, h⟩ := tB h
  refine rcI C hH hl.1 (mX9_row l e1196) cf_RL_149 ro_0 (hRR 3 4 (by decide) (by decide)) rfl (rest := []) rfl (Nat.le_of_ble_eq_true rfl) dL_law_1196 ?_
  intro hz1196 H locs hH
  refine lv_aload_n hx hb dL_law_1199 rfl (lv_at hl 2 rfl) ?_
  refine lv_aload_n hx hb dL_law_1200 rfl (lv_at hl 0 rfl) ?_
  refine lv_iload_n hx hb dL_law_1201 rfl (lv_at hl 3 rfl) ?_
  refine lv_iconst (v := 1) hx hb dL_law_1202 (by decide) ?_
  refine lv_iadd hx hb dL_law_1203 ?_
  obtain ⟨hi1204, h⟩ := tC h
  refine va_sld hx hb hX hbl hbA hH.2.2 hi1204 dL_law_1204 ?_
  refine lv_aload_n hx hb dL_law_1205 rfl (lv_at hl 0 rfl) ?_
  refine lv_iload_n hx hb dL_law_1206 rfl (lv_at hl 3 rfl) ?_
  refine lv_iconst (v := 2) hx hb dL_law_1207 (by decide) ?_
  refine lv_iadd hx hb dL_law_1208 ?_
  obtain ⟨hi1209, h⟩ := tC h
  refine va_sld hx hb hX hbl hbA hH.2.2 hi1209 dL_law_1209 ?_
  refine lv_aload_n hx hb dL_law_1210 rfl (lv_at hl 0 rfl) ?_
  refine lv_iload_n hx hb dL_law_1211 rfl (lv_at hl 3 rfl) ?_
  refine lv_iconst (v := 3) hx hb dL_law_1212 (by decide) ?_
  refine lv_iadd hx hb dL_law_1213 ?_
  obtain ⟨hi1214, h⟩ := tC h
  refine va_sld hx hb hX hbl hbA hH.2.2 hi1214 dL_law_1214 ?_
  obtain ⟨q1215, e1215, h⟩ := tB h
  refine rcI C hH hl.1 (mX10_row l e1215) cf_RL_152 ro_58 (hRR 3 5 (by decide) (by decide)) rfl (rest := [.int q1196.1]) rfl (Nat.le_of_ble_eq_true rfl) dL_law_1215 ?_
  intro hz1215 H locs hH
  refine lv_icmp_eq (tgt := 1449) hx hb dL_law_1218 (by decide) (fun hc1218 => ?_) (fun hc1218 => ?_)
  · replace h := tT hc1218 h
    exact wL_law_1449 C hX hbl hbA hRR hq hend hk18 h hH (lv_sub hl [0, 1, 2, 3] rfl)
  · replace h := tF hc1218 h
    refine lv_iconst (v := 0) hx hb dL_law_1221 (by decide) ?_
    have h := Option.some.inj h
    subst h
    exact absurd (show (0 : Int32) = 1 from hq) (by decide)
set_option maxHeartbeats 2000000 in
set_option maxRecDepth 20000 in
theorem wL_law_1223 (C : Cx D ca A p s m args meth c cL_law RL 4 (some .boolean)) {q : Int32 × Mm} {b L : Nat} {xs : Nat → Int32} (hX : va_X b L xs s s.heap) (hbl : b < s.heap.size) (hbA : ¬ A b) (hRR : ∀ lev n, lev ≤ 1000 → n ≤ 21 → RR room_1 lev n cells slots) (hq : q.1 = 1) (hend : ∀ {mm : Mm} {H : Heap} {locs : List Loc} {ls : Array Slot}, Hx WN ad ca WS D A s.heap mm H locs → W p l e room_1 s m args below meth c H locs cells slots Q (F0 m 1456 ls [.int 1])) {k18 : Int32 → Mm → Option (Int32 × Mm)} (hk18 : ∀ (v3 : Int32) (mm : Mm), k18 v3 mm = some q → ∀ (H : Heap) (locs : List Loc) (ls : Array Slot), Hx WN ad ca WS D A s.heap mm H locs → lv_has ls 4 [(0, .ref b), (1, .ref (ad 0)), (2, .ref (ad 58)), (3, .int v3)] → W p l e room_1 s m args below meth c H locs cells slots Q (F0 m 18 ls [])) {v3 : Int32} {mm : Mm} (h : DL_law_1223 L xs k18 v3 mm = some q) (hH : Hx WN ad ca WS D A s.heap mm H locs) (hl : lv_has ls 4 [(0, .ref b), (1, .ref (ad 0)), (2, .ref (ad 58)), (3, .int v3)]) : W p l e room_1 s m args below meth c H locs cells slots Q (F0 m 1223 ls []) := by
  unfold DL_law_1223 at h
  have hx := C.1
  have hb := C.2.1
  refine lv_aload_n hx hb dL_law_1223 rfl (lv_at hl 1 rfl) ?_
  refine lv_aload_n hx hb dL_law_1224 rfl (lv_at hl 0 rfl) ?_
  refine lv_iload_n hx hb dL_law_1225 rfl (lv_at hl 3 rfl) ?_
  refine lv_iconst (v := 1) hx hb dL_law_1226 (by decide) ?_
  refine lv_iadd hx hb dL_law_1227 ?_
  obtain ⟨hi1228, h⟩ := tC h
  refine va_sld hx hb hX hbl hbA hH.2.2 hi1228 dL_law_1228 ?_
  refine lv_aload_n hx hb dL_law_1229 rfl (lv_at hl 0 rfl) ?_
  refine lv_iload_n hx hb dL_law_1230 rfl (lv_at hl 3 rfl) ?_
  refine lv_iconst (v := 2) hx hb dL_law_1231 (by decide) ?_
  refine lv_iadd hx hb dL_law_1232 ?_
  obtain ⟨hi1233, h⟩ := tC h
  refine va_sld hx hb hX hbl hbA hH.2.2 hi1233 dL_law_1233 ?_
  refine lv_aload_n hx hb dL_law_1234 rfl (lv_at hl 0 rfl) ?_
  refine lv_iload_n hx hb dL_law_1235 rfl (lv_at hl 3 rfl) ?_
  refine lv_iconst (v := 3) hx hb dL_law_1236 (by decide) ?_
  refine lv_iadd hx hb dL_law_1237 ?_
  obtain ⟨hi1238, h⟩ := tC h
  refine va_sld hx hb hX hbl hbA hH.2.2 hi1238 dL_law_1238 ?_
  refine lv_i2l' hx hb dL_law_1239 ?_
  refine lv_bipush (v := 32) hx hb dL_law_1240 (by decide) ?_
  refine lv_lshl' hx hb dL_law_1242 ?_
  refine lv_aload_n hx hb dL_law_1243 rfl (lv_at hl 0 rfl) ?_
  refine lv_iload_n hx hb dL_law_1244 rfl (lv_at hl 3 rfl) ?_
  refine lv_iconst (v := 4) hx hb dL_law_1245 (by decide) ?_
  refine lv_iadd hx hb dL_law_1246 ?_
  obtain ⟨hi1247, h⟩ := tC h
  refine va_sld hx hb hX hbl hbA hH.2.2 hi1247 dL_law_1247 ?_
  refine lv_i2l' hx hb dL_law_1248 ?_
  refine rldc2 C (v := 4294967295) k_RL_153 dL_law_1249 ?_
  refine lv_land hx hb dL_law_1252 ?_
  refine lv_lor hx hb dL_law_1253 ?_
  obtain ⟨q1254, e1254, h⟩ := tB h
  refine rcI C hH hl.1 (mX9_put l e1254) cf_RL_155 ro_0 (hRR 3 6 (by decide) (by decide)) rfl (rest := []) rfl (Nat.le_of_ble_eq_true rfl) dL_law_1254 ?_
  intro hz1254 H locs hH
  refine lv_aload_n hx hb dL_law_1257 rfl (lv_at hl 2 rfl) ?_
  refine lv_aload_n hx hb dL_law_1258 rfl (lv_at hl 0 rfl) ?_
  refine lv_iload_n hx hb dL_law_1259 rfl (lv_at hl 3 rfl) ?_
  refine lv_iconst (v := 1) hx hb dL_law_1260 (by decide) ?_
  refine lv_iadd hx hb dL_law_1261 ?_
  obtain ⟨hi1262, h⟩ := tC h
  refine va_sld hx hb hX hbl hbA hH.2.2 hi1262 dL_law_1262 ?_
  refine lv_aload_n hx hb dL_law_1263 rfl (lv_at hl 0 rfl) ?_
  refine lv_iload_n hx hb dL_law_1264 rfl (lv_at hl 3 rfl) ?_
  refine lv_iconst (v := 2) hx hb dL_law_1265 (by decide) ?_
  refine lv_iadd hx hb dL_law_1266 ?_
  obtain ⟨hi1267, h⟩ := tC h
  refine va_sld hx hb hX hbl hbA hH.2.2 hi1267 dL_law_1267 ?_
  refine lv_aload_n hx hb dL_law_1268 rfl (lv_at hl 0 rfl) ?_
  refine lv_iload_n hx hb dL_law_1269 rfl (lv_at hl 3 rfl) ?_
  refine lv_iconst (v := 3) hx hb dL_law_1270 (by decide) ?_
  refine lv_iadd hx hb dL_law_1271 ?_
  obtain ⟨hi1272, h⟩ := tC h
  refine va_sld hx hb hX hbl hbA hH.2.2 hi1272 dL_law_1272 ?_
  refine lv_i2l' hx hb dL_law_1273 ?_
  refine lv_bipush (v := 32) hx hb dL_law_1274 (by decide) ?_
  refine lv_lshl' hx hb dL_law_1276 ?_
  refine lv_aload_n hx hb dL_law_1277 rfl (lv_at hl 0 rfl) ?_
  refine lv_iload_n hx hb dL_law_1278 rfl (lv_at hl 3 rfl) ?_
  refine lv_iconst (v := 4) hx hb dL_law_1279 (by decide) ?_
  refine lv_iadd hx hb dL_law_1280 ?_
  obtain ⟨hi1281, h⟩ := tC h
  refine va_sld hx hb hX hbl hbA hH.2.2 hi1281 dL_law_1281 ?_
  refine lv_i2l' hx hb dL_law_1282 ?_
  refine rldc2 C (v := 4294967295) k_RL_153 dL_law_1283 ?_
  refine lv_land hx hb dL_law_1286 ?_
  refine lv_lor hx hb dL_law_1287 ?_
  obtain ⟨q1288, e1288, h⟩ := tB h
  refine rcI C hH hl.1 (mX10_put l e1288) cf_RL_159 ro_58 (hRR 4 6 (by decide) (by decide)) rfl (rest := [.int q1254.1]) rfl (Nat.le_of_ble_eq_true rfl) dL_law_1288 ?_
  intro hz1288 H locs hH
  refine lv_icmp_eq (tgt := 1449) hx hb dL_law_1291 (by decide) (fun hc1291 => ?_) (fun hc1291 => ?_)
  · replace h := tT hc1291 h
    exact wL_law_1449 C hX hbl hbA hRR hq hend hk18 h hH (lv_sub hl [0, 1, 2, 3] rfl)
  · replace h := tF hc1291 h
    refine lv_iconst (v := 0) hx hb dL_law_1294 (by decide) ?_
    have h := Option.some.inj h
    subst h
    exact absurd (show (0 : Int32) = 1 from hq) (by decide)
set_option maxHeartbeats 2000000 in
set_option maxRecDepth 20000 in
theorem wL_law_1296 (C : Cx D ca A p s m args meth c cL_law RL 4 (some .boolean)) {q : Int32 × Mm} {b L : Nat} {xs : Nat → Int32} (hX : va_X b L xs s s.heap) (hbl : b < s.heap.size) (hbA : ¬ A b) (hRR : ∀ lev n, lev ≤ 1000 → n ≤ 21 → RR room_1 lev n cells slots) (hq : q.1 = 1) (hend : ∀ {mm : Mm} {H : Heap} {locs : List Loc} {ls : Array Slot}, Hx WN ad ca WS D A s.heap mm H locs → W p l e room_1 s m args below meth c H locs cells slots Q (F0 m 1456 ls [.int 1])) {k18 : Int32 → Mm → Option (Int32 × Mm)} (hk18 : ∀ (v3 : Int32) (mm : Mm), k18 v3 mm = some q → ∀ (H : Heap) (locs : List Loc) (ls : Array Slot), Hx WN ad ca WS D A s.heap mm H locs → lv_has ls 4 [(0, .ref b), (1, .ref (ad 0)), (2, .ref (ad 58)), (3, .int v3)] → W p l e room_1 s m args below meth c H locs cells slots Q (F0 m 18 ls [])) {v3 : Int32} {mm : Mm} (h : DL_law_1296 L xs k18 v3 mm = some q) (hH : Hx WN ad ca WS D A s.heap mm H locs) (hl : lv_has ls 4 [(0, .ref b), (1, .ref (ad 0)), (2, .ref (ad 58)), (3, .int v3)]) : W p l e room_1 s m args below meth c H locs cells slots Q (F0 m 1296 ls []) := by
  unfold DL_law_1296 at h
  have hx := C.1
  have hb := C.2.1
  refine lv_aload_n hx hb dL_law_1296 rfl (lv_at hl 1 rfl) ?_
  refine lv_aload_n hx hb dL_law_1297 rfl (lv_at hl 0 rfl) ?_
  refine lv_iload_n hx hb dL_law_1298 rfl (lv_at hl 3 rfl) ?_
  refine lv_iconst (v := 1) hx hb dL_law_1299 (by decide) ?_
  refine lv_iadd hx hb dL_law_1300 ?_
  obtain ⟨hi1301, h⟩ := tC h
  refine va_sld hx hb hX hbl hbA hH.2.2 hi1301 dL_law_1301 ?_
  refine lv_aload_n hx hb dL_law_1302 rfl (lv_at hl 0 rfl) ?_
  refine lv_iload_n hx hb dL_law_1303 rfl (lv_at hl 3 rfl) ?_
  refine lv_iconst (v := 2) hx hb dL_law_1304 (by decide) ?_
  refine lv_iadd hx hb dL_law_1305 ?_
  obtain ⟨hi1306, h⟩ := tC h
  refine va_sld hx hb hX hbl hbA hH.2.2 hi1306 dL_law_1306 ?_
  obtain ⟨q1307, e1307, h⟩ := tB h
  refine rcL C hH hl.1 (mX9_element l e1307) cf_RL_160 ro_0 (hRR 3 3 (by decide) (by decide)) rfl (rest := []) rfl (Nat.le_of_ble_eq_true rfl) dL_law_1307 ?_
  intro H locs hH
  refine lv_aload_n hx hb dL_law_1310 rfl (lv_at hl 2 rfl) ?_
  refine lv_aload_n hx hb dL_law_1311 rfl (lv_at hl 0 rfl) ?_
  refine lv_iload_n hx hb dL_law_1312 rfl (lv_at hl 3 rfl) ?_
  refine lv_iconst (v := 1) hx hb dL_law_1313 (by decide) ?_
  refine lv_iadd hx hb dL_law_1314 ?_
  obtain ⟨hi1315, h⟩ := tC h
  refine va_sld hx hb hX hbl hbA hH.2.2 hi1315 dL_law_1315 ?_
  refine lv_aload_n hx hb dL_law_1316 rfl (lv_at hl 0 rfl) ?_
  refine lv_iload_n hx hb dL_law_1317 rfl (lv_at hl 3 rfl) ?_
  refine lv_iconst (v := 2) hx hb dL_law_1318 (by decide) ?_
  refine lv_iadd hx hb dL_law_1319 ?_
  obtain ⟨hi1320, h⟩ := tC h
  refine va_sld hx hb hX hbl hbA hH.2.2 hi1320 dL_law_1320 ?_
  obtain ⟨q1321, e1321, h⟩ := tB h
  refine rcL C hH hl.1 (mX10_element l e1321) cf_RL_163 ro_58 (hRR 4 3 (by decide) (by decide)) rfl (rest := [.long q1307.1]) rfl (Nat.le_of_ble_eq_true rfl) dL_law_1321 ?_
  intro H locs hH
  refine lc_eq (tgt := 1449) hx hb dL_law_1324 dL_law_1325 (by decide) (fun hc1325 => ?_) (fun hc1325 => ?_)
  · replace h := tT hc1325 h
    exact wL_law_1449 C hX hbl hbA hRR hq hend hk18 h hH (lv_sub hl [0, 1, 2, 3] rfl)
  · replace h := tF hc1325 h
    refine lv_iconst (v := 0) hx hb dL_law_1328 (by decide) ?_
    have h := Option.some.inj h
    subst h
    exact absurd (show (0 : Int32) = 1 from hq) (by decide)
set_option maxHeartbeats 2000000 in
set_option maxRecDepth 20000 in
theorem wL_law_1330 (C : Cx D ca A p s m args meth c cL_law RL 4 (some .boolean)) {q : Int32 × Mm} {b L : Nat} {xs : Nat → Int32} (hX : va_X b L xs s s.heap) (hbl : b < s.heap.size) (hbA : ¬ A b) (hRR : ∀ lev n, lev ≤ 1000 → n ≤ 21 → RR room_1 lev n cells slots) (hq : q.1 = 1) (hend : ∀ {mm : Mm} {H : Heap} {locs : List Loc} {ls : Array Slot}, Hx WN ad ca WS D A s.heap mm H locs → W p l e room_1 s m args below meth c H locs cells slots Q (F0 m 1456 ls [.int 1])) {k18 : Int32 → Mm → Option (Int32 × Mm)} (hk18 : ∀ (v3 : Int32) (mm : Mm), k18 v3 mm = some q → ∀ (H : Heap) (locs : List Loc) (ls : Array Slot), Hx WN ad ca WS D A s.heap mm H locs → lv_has ls 4 [(0, .ref b), (1, .ref (ad 0)), (2, .ref (ad 58)), (3, .int v3)] → W p l e room_1 s m args below meth c H locs cells slots Q (F0 m 18 ls [])) {v3 : Int32} {mm : Mm} (h : DL_law_1330 L xs k18 v3 mm = some q) (hH : Hx WN ad ca WS D A s.heap mm H locs) (hl : lv_has ls 4 [(0, .ref b), (1, .ref (ad 0)), (2, .ref (ad 58)), (3, .int v3)]) : W p l e room_1 s m args below meth c H locs cells slots Q (F0 m 1330 ls []) := by
  unfold DL_law_1330 at h
  have hx := C.1
  have hb := C.2.1
  refine lv_aload_n hx hb dL_law_1330 rfl (lv_at hl 1 rfl) ?_
  refine lv_aload_n hx hb dL_law_1331 rfl (lv_at hl 0 rfl) ?_
  refine lv_iload_n hx hb dL_law_1332 rfl (lv_at hl 3 rfl) ?_
  refine lv_iconst (v := 1) hx hb dL_law_1333 (by decide) ?_
  refine lv_iadd hx hb dL_law_1334 ?_
  obtain ⟨hi1335, h⟩ := tC h
  refine va_sld hx hb hX hbl hbA hH.2.2 hi1335 dL_law_1335 ?_
  refine lv_aload_n hx hb dL_law_1336 rfl (lv_at hl 0 rfl) ?_
  refine lv_iload_n hx hb dL_law_1337 rfl (lv_at hl 3 rfl) ?_
  refine lv_iconst (v := 2) hx hb dL_law_1338 (by decide) ?_
  refine lv_iadd hx hb dL_law_1339 ?_
  obtain ⟨hi1340, h⟩ := tC h
  refine va_sld hx hb hX hbl hbA hH.2.2 hi1340 dL_law_1340 ?_
  refine lv_aload_n hx hb dL_law_1341 rfl (lv_at hl 0 rfl) ?_
  refine lv_iload_n hx hb dL_law_1342 rfl (lv_at hl 3 rfl) ?_
  refine lv_iconst (v := 3) hx hb dL_law_1343 (by decide) ?_
  refine lv_iadd hx hb dL_law_1344 ?_
  obtain ⟨hi1345, h⟩ := tC h
  refine va_sld hx hb hX hbl hbA hH.2.2 hi1345 dL_law_1345 ?_
  refine lv_aload_n hx hb dL_law_1346 rfl (lv_at hl 0 rfl) ?_
  refine lv_iload_n hx hb dL_law_1347 rfl (lv_at hl 3 rfl) ?_
  refine lv_iconst (v := 4) hx hb dL_law_1348 (by decide) ?_
  refine lv_iadd hx hb dL_law_1349 ?_
  obtain ⟨hi1350, h⟩ := tC h
  refine va_sld hx hb hX hbl hbA hH.2.2 hi1350 dL_law_1350 ?_
  refine lv_aload_n hx hb dL_law_1351 rfl (lv_at hl 0 rfl) ?_
  refine lv_iload_n hx hb dL_law_1352 rfl (lv_at hl 3 rfl) ?_
  refine lv_iconst (v := 5) hx hb dL_law_1353 (by decide) ?_
  refine lv_iadd hx hb dL_law_1354 ?_
  obtain ⟨hi1355, h⟩ := tC h
  refine va_sld hx hb hX hbl hbA hH.2.2 hi1355 dL_law_1355 ?_
  obtain ⟨q1356, e1356, h⟩ := tB h
  refine rcI C hH hl.1 (mX9_shift l e1356) cf_RL_164 ro_0 (hRR 2 8 (by decide) (by decide)) rfl (rest := []) rfl (Nat.le_of_ble_eq_true rfl) dL_law_1356 ?_
  intro hz1356 H locs hH
  refine lv_aload_n hx hb dL_law_1359 rfl (lv_at hl 2 rfl) ?_
  refine lv_aload_n hx hb dL_law_1360 rfl (lv_at hl 0 rfl) ?_
  refine lv_iload_n hx hb dL_law_1361 rfl (lv_at hl 3 rfl) ?_
  refine lv_iconst (v := 1) hx hb dL_law_1362 (by decide) ?_
  refine lv_iadd hx hb dL_law_1363 ?_
  obtain ⟨hi1364, h⟩ := tC h
  refine va_sld hx hb hX hbl hbA hH.2.2 hi1364 dL_law_1364 ?_
  refine lv_aload_n hx hb dL_law_1365 rfl (lv_at hl 0 rfl) ?_
  refine lv_iload_n hx hb dL_law_1366 rfl (lv_at hl 3 rfl) ?_
  refine lv_iconst (v := 2) hx hb dL_law_1367 (by decide) ?_
  refine lv_iadd hx hb dL_law_1368 ?_
  obtain ⟨hi1369, h⟩ := tC h
  refine va_sld hx hb hX hbl hbA hH.2.2 hi1369 dL_law_1369 ?_
  refine lv_aload_n hx hb dL_law_1370 rfl (lv_at hl 0 rfl) ?_
  refine lv_iload_n hx hb dL_law_1371 rfl (lv_at hl 3 rfl) ?_
  refine lv_iconst (v := 3) hx hb dL_law_1372 (by decide) ?_
  refine lv_iadd hx hb dL_law_1373 ?_
  obtain ⟨hi1374, h⟩ := tC h
  refine va_sld hx hb hX hbl hbA hH.2.2 hi1374 dL_law_1374 ?_
  refine lv_aload_n hx hb dL_law_1375 rfl (lv_at hl 0 rfl) ?_
  refine lv_iload_n hx hb dL_law_1376 rfl (lv_at hl 3 rfl) ?_
  refine lv_iconst (v := 4) hx hb dL_law_1377 (by decide) ?_
  refine lv_iadd hx hb dL_law_1378 ?_
  obtain ⟨hi1379, h⟩ := tC h
  refine va_sld hx hb hX hbl hbA hH.2.2 hi1379 dL_law_1379 ?_
  refine lv_aload_n hx hb dL_law_1380 rfl (lv_at hl 0 rfl) ?_
  refine lv_iload_n hx hb dL_law_1381 rfl (lv_at hl 3 rfl) ?_
  refine lv_iconst (v := 5) hx hb dL_law_1382 (by decide) ?_
  refine lv_iadd hx hb dL_law_1383 ?_
  obtain ⟨hi1384, h⟩ := tC h
  refine va_sld hx hb hX hbl hbA hH.2.2 hi1384 dL_law_1384 ?_
  obtain ⟨q1385, e1385, h⟩ := tB h
  refine rcI C hH hl.1 (mX10_shift l e1385) cf_RL_168 ro_58 (hRR 3 7 (by decide) (by decide)) rfl (rest := [.int q1356.1]) rfl (Nat.le_of_ble_eq_true rfl) dL_law_1385 ?_
  intro hz1385 H locs hH
  refine lv_icmp_eq (tgt := 1449) hx hb dL_law_1388 (by decide) (fun hc1388 => ?_) (fun hc1388 => ?_)
  · replace h := tT hc1388 h
    exact wL_law_1449 C hX hbl hbA hRR hq hend hk18 h hH (lv_sub hl [0, 1, 2, 3] rfl)
  · replace h := tF hc1388 h
    refine lv_iconst (v := 0) hx hb dL_law_1391 (by decide) ?_
    have h := Option.some.inj h
    subst h
    exact absurd (show (0 : Int32) = 1 from hq) (by decide)
set_option maxHeartbeats 2000000 in
set_option maxRecDepth 20000 in
theorem wL_law_1393 (C : Cx D ca A p s m args meth c cL_law RL 4 (some .boolean)) {q : Int32 × Mm} {b L : Nat} {xs : Nat → Int32} (hX : va_X b L xs s s.heap) (hbl : b < s.heap.size) (hbA : ¬ A b) (hRR : ∀ lev n, lev ≤ 1000 → n ≤ 21 → RR room_1 lev n cells slots) (hq : q.1 = 1) (hend : ∀ {mm : Mm} {H : Heap} {locs : List Loc} {ls : Array Slot}, Hx WN ad ca WS D A s.heap mm H locs → W p l e room_1 s m args below meth c H locs cells slots Q (F0 m 1456 ls [.int 1])) {k18 : Int32 → Mm → Option (Int32 × Mm)} (hk18 : ∀ (v3 : Int32) (mm : Mm), k18 v3 mm = some q → ∀ (H : Heap) (locs : List Loc) (ls : Array Slot), Hx WN ad ca WS D A s.heap mm H locs → lv_has ls 4 [(0, .ref b), (1, .ref (ad 0)), (2, .ref (ad 58)), (3, .int v3)] → W p l e room_1 s m args below meth c H locs cells slots Q (F0 m 18 ls [])) {v3 : Int32} {mm : Mm} (h : DL_law_1393 L xs k18 v3 mm = some q) (hH : Hx WN ad ca WS D A s.heap mm H locs) (hl : lv_has ls 4 [(0, .ref b), (1, .ref (ad 0)), (2, .ref (ad 58)), (3, .int v3)]) : W p l e room_1 s m args below meth c H locs cells slots Q (F0 m 1393 ls []) := by
  unfold DL_law_1393 at h
  have hx := C.1
  have hb := C.2.1
  refine lv_aload_n hx hb dL_law_1393 rfl (lv_at hl 1 rfl) ?_
  refine lv_aload_n hx hb dL_law_1394 rfl (lv_at hl 0 rfl) ?_
  refine lv_iload_n hx hb dL_law_1395 rfl (lv_at hl 3 rfl) ?_
  refine lv_iconst (v := 1) hx hb dL_law_1396 (by decide) ?_
  refine lv_iadd hx hb dL_law_1397 ?_
  obtain ⟨hi1398, h⟩ := tC h
  refine va_sld hx hb hX hbl hbA hH.2.2 hi1398 dL_law_1398 ?_
  refine lv_aload_n hx hb dL_law_1399 rfl (lv_at hl 0 rfl) ?_
  refine lv_iload_n hx hb dL_law_1400 rfl (lv_at hl 3 rfl) ?_
  refine lv_iconst (v := 2) hx hb dL_law_1401 (by decide) ?_
  refine lv_iadd hx hb dL_law_1402 ?_
  obtain ⟨hi1403, h⟩ := tC h
  refine va_sld hx hb hX hbl hbA hH.2.2 hi1403 dL_law_1403 ?_
  obtain ⟨q1404, e1404, h⟩ := tB h
  refine rcI C hH hl.1 (mX9_taken l e1404) cf_RL_169 ro_0 (hRR 4 4 (by decide) (by decide)) rfl (rest := []) rfl (Nat.le_of_ble_eq_true rfl) dL_law_1404 ?_
  intro hz1404 H locs hH
  refine lv_aload_n hx hb dL_law_1407 rfl (lv_at hl 2 rfl) ?_
  refine lv_aload_n hx hb dL_law_1408 rfl (lv_at hl 0 rfl) ?_
  refine lv_iload_n hx hb dL_law_1409 rfl (lv_at hl 3 rfl) ?_
  refine lv_iconst (v := 1) hx hb dL_law_1410 (by decide) ?_
  refine lv_iadd hx hb dL_law_1411 ?_
  obtain ⟨hi1412, h⟩ := tC h
  refine va_sld hx hb hX hbl hbA hH.2.2 hi1412 dL_law_1412 ?_
  refine lv_aload_n hx hb dL_law_1413 rfl (lv_at hl 0 rfl) ?_
  refine lv_iload_n hx hb dL_law_1414 rfl (lv_at hl 3 rfl) ?_
  refine lv_iconst (v := 2) hx hb dL_law_1415 (by decide) ?_
  refine lv_iadd hx hb dL_law_1416 ?_
  obtain ⟨hi1417, h⟩ := tC h
  refine va_sld hx hb hX hbl hbA hH.2.2 hi1417 dL_law_1417 ?_
  obtain ⟨q1418, e1418, h⟩ := tB h
  refine rcI C hH hl.1 (mX10_taken l e1418) cf_RL_172 ro_58 (hRR 3 4 (by decide) (by decide)) rfl (rest := [.int q1404.1]) rfl (Nat.le_of_ble_eq_true rfl) dL_law_1418 ?_
  intro hz1418 H locs hH
  refine lv_icmp_eq (tgt := 1449) hx hb dL_law_1421 (by decide) (fun hc1421 => ?_) (fun hc1421 => ?_)
  · replace h := tT hc1421 h
    exact wL_law_1449 C hX hbl hbA hRR hq hend hk18 h hH (lv_sub hl [0, 1, 2, 3] rfl)
  · replace h := tF hc1421 h
    refine lv_iconst (v := 0) hx hb dL_law_1424 (by decide) ?_
    have h := Option.some.inj h
    subst h
    exact absurd (show (0 : Int32) = 1 from hq) (by decide)
set_option maxHeartbeats 2000000 in
set_option maxRecDepth 20000 in
theorem wL_law_1426 (C : Cx D ca A p s m args meth c cL_law RL 4 (some .boolean)) {q : Int32 × Mm} {b L : Nat} {xs : Nat → Int32} (hX : va_X b L xs s s.heap) (hbl : b < s.heap.size) (hbA : ¬ A b) (hRR : ∀ lev n, lev ≤ 1000 → n ≤ 21 → RR room_1 lev n cells slots) (hq : q.1 = 1) (hend : ∀ {mm : Mm} {H : Heap} {locs : List Loc} {ls : Array Slot}, Hx WN ad ca WS D A s.heap mm H locs → W p l e room_1 s m args below meth c H locs cells slots Q (F0 m 1456 ls [.int 1])) {k18 : Int32 → Mm → Option (Int32 × Mm)} (hk18 : ∀ (v3 : Int32) (mm : Mm), k18 v3 mm = some q → ∀ (H : Heap) (locs : List Loc) (ls : Array Slot), Hx WN ad ca WS D A s.heap mm H locs → lv_has ls 4 [(0, .ref b), (1, .ref (ad 0)), (2, .ref (ad 58)), (3, .int v3)] → W p l e room_1 s m args below meth c H locs cells slots Q (F0 m 18 ls [])) {v3 : Int32} {mm : Mm} (h : DL_law_1426 L xs k18 v3 mm = some q) (hH : Hx WN ad ca WS D A s.heap mm H locs) (hl : lv_has ls 4 [(0, .ref b), (1, .ref (ad 0)), (2, .ref (ad 58)), (3, .int v3)]) : W p l e room_1 s m args below meth c H locs cells slots Q (F0 m 1426 ls []) := by
  unfold DL_law_1426 at h
  have hx := C.1
  have hb := C.2.1
  refine lv_aload_n hx hb dL_law_1426 rfl (lv_at hl 1 rfl) ?_
  refine lv_aload_n hx hb dL_law_1427 rfl (lv_at hl 0 rfl) ?_
  refine lv_iload_n hx hb dL_law_1428 rfl (lv_at hl 3 rfl) ?_
  refine lv_iconst (v := 1) hx hb dL_law_1429 (by decide) ?_
  refine lv_iadd hx hb dL_law_1430 ?_
  obtain ⟨hi1431, h⟩ := tC h
  refine va_sld hx hb hX hbl hbA hH.2.2 hi1431 dL_law_1431 ?_
  obtain ⟨q1432, e1432, h⟩ := tB h
  refine rcI C hH hl.1 (mX9_count l e1432) cf_RL_173 ro_0 (hRR 1 2 (by decide) (by decide)) rfl (rest := []) rfl (Nat.le_of_ble_eq_true rfl) dL_law_1432 ?_
  intro hz1432 H locs hH
  refine lv_aload_n hx hb dL_law_1435 rfl (lv_at hl 2 rfl) ?_
  refine lv_aload_n hx hb dL_law_1436 rfl (lv_at hl 0 rfl) ?_
  refine lv_iload_n hx hb dL_law_1437 rfl (lv_at hl 3 rfl) ?_
  refine lv_iconst (v := 1) hx hb dL_law_1438 (by decide) ?_
  refine lv_iadd hx hb dL_law_1439 ?_
  obtain ⟨hi1440, h⟩ := tC h
  refine va_sld hx hb hX hbl hbA hH.2.2 hi1440 dL_law_1440 ?_
  obtain ⟨q1441, e1441, h⟩ := tB h
  refine rcI C hH hl.1 (mX10_count l e1441) cf_RL_176 ro_58 (hRR 1 2 (by decide) (by decide)) rfl (rest := [.int q1432.1]) rfl (Nat.le_of_ble_eq_true rfl) dL_law_1441 ?_
  intro hz1441 H locs hH
  refine lv_icmp_eq (tgt := 1449) hx hb dL_law_1444 (by decide) (fun hc1444 => ?_) (fun hc1444 => ?_)
  · replace h := tT hc1444 h
    exact wL_law_1449 C hX hbl hbA hRR hq hend hk18 h hH (lv_sub hl [0, 1, 2, 3] rfl)
  · replace h := tF hc1444 h
    refine lv_iconst (v := 0) hx hb dL_law_1447 (by decide) ?_
    have h := Option.some.inj h
    subst h
    exact absurd (show (0 : Int32) = 1 from hq) (by decide)
set_option maxHeartbeats 2000000 in
set_option maxRecDepth 20000 in
theorem wbL_law_18 (C : Cx D ca A p s m args meth c cL_law RL 4 (some .boolean)) {q : Int32 × Mm} {b L : Nat} {xs : Nat → Int32} (hX : va_X b L xs s s.heap) (hbl : b < s.heap.size) (hbA : ¬ A b) (hRR : ∀ lev n, lev ≤ 1000 → n ≤ 21 → RR room_1 lev n cells slots) (hq : q.1 = 1) (hend : ∀ {mm : Mm} {H : Heap} {locs : List Loc} {ls : Array Slot}, Hx WN ad ca WS D A s.heap mm H locs → W p l e room_1 s m args below meth c H locs cells slots Q (F0 m 1456 ls [.int 1])) {k18 : Int32 → Mm → Option (Int32 × Mm)} (hk18 : ∀ (v3 : Int32) (mm : Mm), k18 v3 mm = some q → ∀ (H : Heap) (locs : List Loc) (ls : Array Slot), Hx WN ad ca WS D A s.heap mm H locs → lv_has ls 4 [(0, .ref b), (1, .ref (ad 0)), (2, .ref (ad 58)), (3, .int v3)] → W p l e room_1 s m args below meth c H locs cells slots Q (F0 m 18 ls [])) {v3 : Int32} {mm : Mm} (h : BL_law_18 L xs k18 v3 mm = some q) (hH : Hx WN ad ca WS D A s.heap mm H locs) (hl : lv_has ls 4 [(0, .ref b), (1, .ref (ad 0)), (2, .ref (ad 58)), (3, .int v3)]) : W p l e room_1 s m args below meth c H locs cells slots Q (F0 m 18 ls []) := by
  unfold BL_law_18 at h
  have hx := C.1
  have hb := C.2.1
  refine lv_iload_n hx hb dL_law_18 rfl (lv_at hl 3 rfl) ?_
  refine lv_aload_n hx hb dL_law_19 rfl (lv_at hl 0 rfl) ?_
  refine va_slen hx hb hX hbl hbA hH.2.2 dL_law_20 ?_
  refine lv_bipush (v := 6) hx hb dL_law_21 (by decide) ?_
  refine lv_isub hx hb dL_law_23 ?_
  refine lv_icmp_gt (tgt := 1455) hx hb dL_law_24 (by decide) (fun hc24 => ?_) (fun hc24 => ?_)
  · replace h := tT hc24 h
    refine lv_iconst (v := 1) hx hb dL_law_1455 (by decide) ?_
    have h := Option.some.inj h
    subst h
    exact hend hH
  · replace h := tF hc24 h
    refine lv_aload_n hx hb dL_law_27 rfl (lv_at hl 0 rfl) ?_
    refine lv_iload_n hx hb dL_law_28 rfl (lv_at hl 3 rfl) ?_
    obtain ⟨hi29, h⟩ := tC h
    refine va_sld hx hb hX hbl hbA hH.2.2 hi29 dL_law_29 ?_
    refine lv_bipush (v := 63) hx hb dL_law_30 (by decide) ?_
    refine lv_iand hx hb dL_law_32 ?_
    obtain ⟨x33, ex33⟩ : ∃ z : Int32, z = ((xs (Int32.toNatClampNeg v3)) &&& 63) := ⟨_, rfl⟩
    rw [← ex33] at h ⊢
    by_cases hc33_0 : x33 = 0
    · replace h := tT hc33_0 h
      refine lv_tableIn (tgt := 200) hx hb dL_law_33 (by rw [hc33_0]; decide) (by rw [hc33_0]; decide) (by rw [hc33_0]; rfl) (by decide) ?_
      exact wL_law_200 C hX hbl hbA hRR hq hend hk18 h hH (lv_sub hl [0, 1, 2, 3] rfl)
    · replace h := tF hc33_0 h
      by_cases hc33_1 : x33 = 1
      · replace h := tT hc33_1 h
        refine lv_tableIn (tgt := 223) hx hb dL_law_33 (by rw [hc33_1]; decide) (by rw [hc33_1]; decide) (by rw [hc33_1]; rfl) (by decide) ?_
        exact wL_law_223 C hX hbl hbA hRR hq hend hk18 h hH (lv_sub hl [0, 1, 2, 3] rfl)
      · replace h := tF hc33_1 h
        by_cases hc33_2 : x33 = 2
        · replace h := tT hc33_2 h
          refine lv_tableIn (tgt := 266) hx hb dL_law_33 (by rw [hc33_2]; decide) (by rw [hc33_2]; decide) (by rw [hc33_2]; rfl) (by decide) ?_
          exact wL_law_266 C hX hbl hbA hRR hq hend hk18 h hH (lv_sub hl [0, 1, 2, 3] rfl)
        · replace h := tF hc33_2 h
          by_cases hc33_3 : x33 = 3
          · replace h := tT hc33_3 h
            refine lv_tableIn (tgt := 299) hx hb dL_law_33 (by rw [hc33_3]; decide) (by rw [hc33_3]; decide) (by rw [hc33_3]; rfl) (by decide) ?_
            exact wL_law_299 C hX hbl hbA hRR hq hend hk18 h hH (lv_sub hl [0, 1, 2, 3] rfl)
          · replace h := tF hc33_3 h
            by_cases hc33_4 : x33 = 4
            · replace h := tT hc33_4 h
              refine lv_tableIn (tgt := 342) hx hb dL_law_33 (by rw [hc33_4]; decide) (by rw [hc33_4]; decide) (by rw [hc33_4]; rfl) (by decide) ?_
              exact wL_law_342 C hX hbl hbA hRR hq hend hk18 h hH (lv_sub hl [0, 1, 2, 3] rfl)
            · replace h := tF hc33_4 h
              by_cases hc33_5 : x33 = 5
              · replace h := tT hc33_5 h
                refine lv_tableIn (tgt := 375) hx hb dL_law_33 (by rw [hc33_5]; decide) (by rw [hc33_5]; decide) (by rw [hc33_5]; rfl) (by decide) ?_
                exact wL_law_375 C hX hbl hbA hRR hq hend hk18 h hH (lv_sub hl [0, 1, 2, 3] rfl)
              · replace h := tF hc33_5 h
                by_cases hc33_6 : x33 = 6
                · replace h := tT hc33_6 h
                  refine lv_tableIn (tgt := 398) hx hb dL_law_33 (by rw [hc33_6]; decide) (by rw [hc33_6]; decide) (by rw [hc33_6]; rfl) (by decide) ?_
                  exact wL_law_398 C hX hbl hbA hRR hq hend hk18 h hH (lv_sub hl [0, 1, 2, 3] rfl)
                · replace h := tF hc33_6 h
                  by_cases hc33_7 : x33 = 7
                  · replace h := tT hc33_7 h
                    refine lv_tableIn (tgt := 411) hx hb dL_law_33 (by rw [hc33_7]; decide) (by rw [hc33_7]; decide) (by rw [hc33_7]; rfl) (by decide) ?_
                    exact wL_law_411 C hX hbl hbA hRR hq hend hk18 h hH (lv_sub hl [0, 1, 2, 3] rfl)
                  · replace h := tF hc33_7 h
                    by_cases hc33_8 : x33 = 8
                    · replace h := tT hc33_8 h
                      refine lv_tableIn (tgt := 444) hx hb dL_law_33 (by rw [hc33_8]; decide) (by rw [hc33_8]; decide) (by rw [hc33_8]; rfl) (by decide) ?_
                      exact wL_law_444 C hX hbl hbA hRR hq hend hk18 h hH (lv_sub hl [0, 1, 2, 3] rfl)
                    · replace h := tF hc33_8 h
                      by_cases hc33_9 : x33 = 9
                      · replace h := tT hc33_9 h
                        refine lv_tableIn (tgt := 498) hx hb dL_law_33 (by rw [hc33_9]; decide) (by rw [hc33_9]; decide) (by rw [hc33_9]; rfl) (by decide) ?_
                        exact wL_law_498 C hX hbl hbA hRR hq hend hk18 h hH (lv_sub hl [0, 1, 2, 3] rfl)
                      · replace h := tF hc33_9 h
                        by_cases hc33_10 : x33 = 10
                        · replace h := tT hc33_10 h
                          refine lv_tableIn (tgt := 541) hx hb dL_law_33 (by rw [hc33_10]; decide) (by rw [hc33_10]; decide) (by rw [hc33_10]; rfl) (by decide) ?_
                          exact wL_law_541 C hX hbl hbA hRR hq hend hk18 h hH (lv_sub hl [0, 1, 2, 3] rfl)
                        · replace h := tF hc33_10 h
                          by_cases hc33_11 : x33 = 11
                          · replace h := tT hc33_11 h
                            refine lv_tableIn (tgt := 585) hx hb dL_law_33 (by rw [hc33_11]; decide) (by rw [hc33_11]; decide) (by rw [hc33_11]; rfl) (by decide) ?_
                            exact wL_law_585 C hX hbl hbA hRR hq hend hk18 h hH (lv_sub hl [0, 1, 2, 3] rfl)
                          · replace h := tF hc33_11 h
                            by_cases hc33_12 : x33 = 12
                            · replace h := tT hc33_12 h
                              refine lv_tableIn (tgt := 618) hx hb dL_law_33 (by rw [hc33_12]; decide) (by rw [hc33_12]; decide) (by rw [hc33_12]; rfl) (by decide) ?_
                              exact wL_law_618 C hX hbl hbA hRR hq hend hk18 h hH (lv_sub hl [0, 1, 2, 3] rfl)
                            · replace h := tF hc33_12 h
                              by_cases hc33_13 : x33 = 13
                              · replace h := tT hc33_13 h
                                refine lv_tableIn (tgt := 662) hx hb dL_law_33 (by rw [hc33_13]; decide) (by rw [hc33_13]; decide) (by rw [hc33_13]; rfl) (by decide) ?_
                                exact wL_law_662 C hX hbl hbA hRR hq hend hk18 h hH (lv_sub hl [0, 1, 2, 3] rfl)
                              · replace h := tF hc33_13 h
                                by_cases hc33_14 : x33 = 14
                                · replace h := tT hc33_14 h
                                  refine lv_tableIn (tgt := 705) hx hb dL_law_33 (by rw [hc33_14]; decide) (by rw [hc33_14]; decide) (by rw [hc33_14]; rfl) (by decide) ?_
                                  exact wL_law_705 C hX hbl hbA hRR hq hend hk18 h hH (lv_sub hl [0, 1, 2, 3] rfl)
                                · replace h := tF hc33_14 h
                                  by_cases hc33_15 : x33 = 15
                                  · replace h := tT hc33_15 h
                                    refine lv_tableIn (tgt := 728) hx hb dL_law_33 (by rw [hc33_15]; decide) (by rw [hc33_15]; decide) (by rw [hc33_15]; rfl) (by decide) ?_
                                    exact wL_law_728 C hX hbl hbA hRR hq hend hk18 h hH (lv_sub hl [0, 1, 2, 3] rfl)
                                  · replace h := tF hc33_15 h
                                    by_cases hc33_16 : x33 = 16
                                    · replace h := tT hc33_16 h
                                      refine lv_tableIn (tgt := 761) hx hb dL_law_33 (by rw [hc33_16]; decide) (by rw [hc33_16]; decide) (by rw [hc33_16]; rfl) (by decide) ?_
                                      exact wL_law_761 C hX hbl hbA hRR hq hend hk18 h hH (lv_sub hl [0, 1, 2, 3] rfl)
                                    · replace h := tF hc33_16 h
                                      by_cases hc33_17 : x33 = 17
                                      · replace h := tT hc33_17 h
                                        refine lv_tableIn (tgt := 795) hx hb dL_law_33 (by rw [hc33_17]; decide) (by rw [hc33_17]; decide) (by rw [hc33_17]; rfl) (by decide) ?_
                                        exact wL_law_795 C hX hbl hbA hRR hq hend hk18 h hH (lv_sub hl [0, 1, 2, 3] rfl)
                                      · replace h := tF hc33_17 h
                                        by_cases hc33_18 : x33 = 18
                                        · replace h := tT hc33_18 h
                                          refine lv_tableIn (tgt := 818) hx hb dL_law_33 (by rw [hc33_18]; decide) (by rw [hc33_18]; decide) (by rw [hc33_18]; rfl) (by decide) ?_
                                          exact wL_law_818 C hX hbl hbA hRR hq hend hk18 h hH (lv_sub hl [0, 1, 2, 3] rfl)
                                        · replace h := tF hc33_18 h
                                          by_cases hc33_19 : x33 = 19
                                          · replace h := tT hc33_19 h
                                            refine lv_tableIn (tgt := 861) hx hb dL_law_33 (by rw [hc33_19]; decide) (by rw [hc33_19]; decide) (by rw [hc33_19]; rfl) (by decide) ?_
                                            exact wL_law_861 C hX hbl hbA hRR hq hend hk18 h hH (lv_sub hl [0, 1, 2, 3] rfl)
                                          · replace h := tF hc33_19 h
                                            by_cases hc33_20 : x33 = 20
                                            · replace h := tT hc33_20 h
                                              refine lv_tableIn (tgt := 914) hx hb dL_law_33 (by rw [hc33_20]; decide) (by rw [hc33_20]; decide) (by rw [hc33_20]; rfl) (by decide) ?_
                                              exact wL_law_914 C hX hbl hbA hRR hq hend hk18 h hH (lv_sub hl [0, 1, 2, 3] rfl)
                                            · replace h := tF hc33_20 h
                                              by_cases hc33_21 : x33 = 21
                                              · replace h := tT hc33_21 h
                                                refine lv_tableIn (tgt := 947) hx hb dL_law_33 (by rw [hc33_21]; decide) (by rw [hc33_21]; decide) (by rw [hc33_21]; rfl) (by decide) ?_
                                                exact wL_law_947 C hX hbl hbA hRR hq hend hk18 h hH (lv_sub hl [0, 1, 2, 3] rfl)
                                              · replace h := tF hc33_21 h
                                                by_cases hc33_22 : x33 = 22
                                                · replace h := tT hc33_22 h
                                                  refine lv_tableIn (tgt := 970) hx hb dL_law_33 (by rw [hc33_22]; decide) (by rw [hc33_22]; decide) (by rw [hc33_22]; rfl) (by decide) ?_
                                                  exact wL_law_970 C hX hbl hbA hRR hq hend hk18 h hH (lv_sub hl [0, 1, 2, 3] rfl)
                                                · replace h := tF hc33_22 h
                                                  by_cases hc33_23 : x33 = 23
                                                  · replace h := tT hc33_23 h
                                                    refine lv_tableIn (tgt := 983) hx hb dL_law_33 (by rw [hc33_23]; decide) (by rw [hc33_23]; decide) (by rw [hc33_23]; rfl) (by decide) ?_
                                                    exact wL_law_983 C hX hbl hbA hRR hq hend hk18 h hH (lv_sub hl [0, 1, 2, 3] rfl)
                                                  · replace h := tF hc33_23 h
                                                    by_cases hc33_24 : x33 = 24
                                                    · replace h := tT hc33_24 h
                                                      refine lv_tableIn (tgt := 1006) hx hb dL_law_33 (by rw [hc33_24]; decide) (by rw [hc33_24]; decide) (by rw [hc33_24]; rfl) (by decide) ?_
                                                      exact wL_law_1006 C hX hbl hbA hRR hq hend hk18 h hH (lv_sub hl [0, 1, 2, 3] rfl)
                                                    · replace h := tF hc33_24 h
                                                      by_cases hc33_25 : x33 = 25
                                                      · replace h := tT hc33_25 h
                                                        refine lv_tableIn (tgt := 1019) hx hb dL_law_33 (by rw [hc33_25]; decide) (by rw [hc33_25]; decide) (by rw [hc33_25]; rfl) (by decide) ?_
                                                        exact wL_law_1019 C hX hbl hbA hRR hq hend hk18 h hH (lv_sub hl [0, 1, 2, 3] rfl)
                                                      · replace h := tF hc33_25 h
                                                        by_cases hc33_26 : x33 = 26
                                                        · replace h := tT hc33_26 h
                                                          refine lv_tableIn (tgt := 1032) hx hb dL_law_33 (by rw [hc33_26]; decide) (by rw [hc33_26]; decide) (by rw [hc33_26]; rfl) (by decide) ?_
                                                          exact wL_law_1032 C hX hbl hbA hRR hq hend hk18 h hH (lv_sub hl [0, 1, 2, 3] rfl)
                                                        · replace h := tF hc33_26 h
                                                          by_cases hc33_27 : x33 = 27
                                                          · replace h := tT hc33_27 h
                                                            refine lv_tableIn (tgt := 1045) hx hb dL_law_33 (by rw [hc33_27]; decide) (by rw [hc33_27]; decide) (by rw [hc33_27]; rfl) (by decide) ?_
                                                            exact wL_law_1045 C hX hbl hbA hRR hq hend hk18 h hH (lv_sub hl [0, 1, 2, 3] rfl)
                                                          · replace h := tF hc33_27 h
                                                            by_cases hc33_28 : x33 = 28
                                                            · replace h := tT hc33_28 h
                                                              refine lv_tableIn (tgt := 1058) hx hb dL_law_33 (by rw [hc33_28]; decide) (by rw [hc33_28]; decide) (by rw [hc33_28]; rfl) (by decide) ?_
                                                              exact wL_law_1058 C hX hbl hbA hRR hq hend hk18 h hH (lv_sub hl [0, 1, 2, 3] rfl)
                                                            · replace h := tF hc33_28 h
                                                              by_cases hc33_29 : x33 = 29
                                                              · replace h := tT hc33_29 h
                                                                refine lv_tableIn (tgt := 1081) hx hb dL_law_33 (by rw [hc33_29]; decide) (by rw [hc33_29]; decide) (by rw [hc33_29]; rfl) (by decide) ?_
                                                                exact wL_law_1081 C hX hbl hbA hRR hq hend hk18 h hH (lv_sub hl [0, 1, 2, 3] rfl)
                                                              · replace h := tF hc33_29 h
                                                                by_cases hc33_30 : x33 = 30
                                                                · replace h := tT hc33_30 h
                                                                  refine lv_tableIn (tgt := 1124) hx hb dL_law_33 (by rw [hc33_30]; decide) (by rw [hc33_30]; decide) (by rw [hc33_30]; rfl) (by decide) ?_
                                                                  exact wL_law_1124 C hX hbl hbA hRR hq hend hk18 h hH (lv_sub hl [0, 1, 2, 3] rfl)
                                                                · replace h := tF hc33_30 h
                                                                  by_cases hc33_31 : x33 = 31
                                                                  · replace h := tT hc33_31 h
                                                                    refine lv_tableIn (tgt := 1147) hx hb dL_law_33 (by rw [hc33_31]; decide) (by rw [hc33_31]; decide) (by rw [hc33_31]; rfl) (by decide) ?_
                                                                    exact wL_law_1147 C hX hbl hbA hRR hq hend hk18 h hH (lv_sub hl [0, 1, 2, 3] rfl)
                                                                  · replace h := tF hc33_31 h
                                                                    by_cases hc33_32 : x33 = 32
                                                                    · replace h := tT hc33_32 h
                                                                      refine lv_tableIn (tgt := 1180) hx hb dL_law_33 (by rw [hc33_32]; decide) (by rw [hc33_32]; decide) (by rw [hc33_32]; rfl) (by decide) ?_
                                                                      exact wL_law_1180 C hX hbl hbA hRR hq hend hk18 h hH (lv_sub hl [0, 1, 2, 3] rfl)
                                                                    · replace h := tF hc33_32 h
                                                                      by_cases hc33_33 : x33 = 33
                                                                      · replace h := tT hc33_33 h
                                                                        refine lv_tableIn (tgt := 1223) hx hb dL_law_33 (by rw [hc33_33]; decide) (by rw [hc33_33]; decide) (by rw [hc33_33]; rfl) (by decide) ?_
                                                                        exact wL_law_1223 C hX hbl hbA hRR hq hend hk18 h hH (lv_sub hl [0, 1, 2, 3] rfl)
                                                                      · replace h := tF hc33_33 h
                                                                        by_cases hc33_34 : x33 = 34
                                                                        · replace h := tT hc33_34 h
                                                                          refine lv_tableIn (tgt := 1296) hx hb dL_law_33 (by rw [hc33_34]; decide) (by rw [hc33_34]; decide) (by rw [hc33_34]; rfl) (by decide) ?_
                                                                          exact wL_law_1296 C hX hbl hbA hRR hq hend hk18 h hH (lv_sub hl [0, 1, 2, 3] rfl)
                                                                        · replace h := tF hc33_34 h
                                                                          by_cases hc33_35 : x33 = 35
                                                                          · replace h := tT hc33_35 h
                                                                            refine lv_tableIn (tgt := 1330) hx hb dL_law_33 (by rw [hc33_35]; decide) (by rw [hc33_35]; decide) (by rw [hc33_35]; rfl) (by decide) ?_
                                                                            exact wL_law_1330 C hX hbl hbA hRR hq hend hk18 h hH (lv_sub hl [0, 1, 2, 3] rfl)
                                                                          · replace h := tF hc33_35 h
                                                                            by_cases hc33_36 : x33 = 36
                                                                            · replace h := tT hc33_36 h
                                                                              refine lv_tableIn (tgt := 1393) hx hb dL_law_33 (by rw [hc33_36]; decide) (by rw [hc33_36]; decide) (by rw [hc33_36]; rfl) (by decide) ?_
                                                                              exact wL_law_1393 C hX hbl hbA hRR hq hend hk18 h hH (lv_sub hl [0, 1, 2, 3] rfl)
                                                                            · replace h := tF hc33_36 h
                                                                              by_cases hc33_37 : x33 = 37
                                                                              · replace h := tT hc33_37 h
                                                                                refine lv_tableIn (tgt := 1426) hx hb dL_law_33 (by rw [hc33_37]; decide) (by rw [hc33_37]; decide) (by rw [hc33_37]; rfl) (by decide) ?_
                                                                                exact wL_law_1426 C hX hbl hbA hRR hq hend hk18 h hH (lv_sub hl [0, 1, 2, 3] rfl)
                                                                              · replace h := tF hc33_37 h
                                                                                have ghc33_0 := lv_neT (k := 0) (a := 0) hc33_0 rfl
                                                                                have ghc33_1 := lv_neT (k := 1) (a := 1) hc33_1 rfl
                                                                                have ghc33_2 := lv_neT (k := 2) (a := 2) hc33_2 rfl
                                                                                have ghc33_3 := lv_neT (k := 3) (a := 3) hc33_3 rfl
                                                                                have ghc33_4 := lv_neT (k := 4) (a := 4) hc33_4 rfl
                                                                                have ghc33_5 := lv_neT (k := 5) (a := 5) hc33_5 rfl
                                                                                have ghc33_6 := lv_neT (k := 6) (a := 6) hc33_6 rfl
                                                                                have ghc33_7 := lv_neT (k := 7) (a := 7) hc33_7 rfl
                                                                                have ghc33_8 := lv_neT (k := 8) (a := 8) hc33_8 rfl
                                                                                have ghc33_9 := lv_neT (k := 9) (a := 9) hc33_9 rfl
                                                                                have ghc33_10 := lv_neT (k := 10) (a := 10) hc33_10 rfl
                                                                                have ghc33_11 := lv_neT (k := 11) (a := 11) hc33_11 rfl
                                                                                have ghc33_12 := lv_neT (k := 12) (a := 12) hc33_12 rfl
                                                                                have ghc33_13 := lv_neT (k := 13) (a := 13) hc33_13 rfl
                                                                                have ghc33_14 := lv_neT (k := 14) (a := 14) hc33_14 rfl
                                                                                have ghc33_15 := lv_neT (k := 15) (a := 15) hc33_15 rfl
                                                                                have ghc33_16 := lv_neT (k := 16) (a := 16) hc33_16 rfl
                                                                                have ghc33_17 := lv_neT (k := 17) (a := 17) hc33_17 rfl
                                                                                have ghc33_18 := lv_neT (k := 18) (a := 18) hc33_18 rfl
                                                                                have ghc33_19 := lv_neT (k := 19) (a := 19) hc33_19 rfl
                                                                                have ghc33_20 := lv_neT (k := 20) (a := 20) hc33_20 rfl
                                                                                have ghc33_21 := lv_neT (k := 21) (a := 21) hc33_21 rfl
                                                                                have ghc33_22 := lv_neT (k := 22) (a := 22) hc33_22 rfl
                                                                                have ghc33_23 := lv_neT (k := 23) (a := 23) hc33_23 rfl
                                                                                have ghc33_24 := lv_neT (k := 24) (a := 24) hc33_24 rfl
                                                                                have ghc33_25 := lv_neT (k := 25) (a := 25) hc33_25 rfl
                                                                                have ghc33_26 := lv_neT (k := 26) (a := 26) hc33_26 rfl
                                                                                have ghc33_27 := lv_neT (k := 27) (a := 27) hc33_27 rfl
                                                                                have ghc33_28 := lv_neT (k := 28) (a := 28) hc33_28 rfl
                                                                                have ghc33_29 := lv_neT (k := 29) (a := 29) hc33_29 rfl
                                                                                have ghc33_30 := lv_neT (k := 30) (a := 30) hc33_30 rfl
                                                                                have ghc33_31 := lv_neT (k := 31) (a := 31) hc33_31 rfl
                                                                                have ghc33_32 := lv_neT (k := 32) (a := 32) hc33_32 rfl
                                                                                have ghc33_33 := lv_neT (k := 33) (a := 33) hc33_33 rfl
                                                                                have ghc33_34 := lv_neT (k := 34) (a := 34) hc33_34 rfl
                                                                                have ghc33_35 := lv_neT (k := 35) (a := 35) hc33_35 rfl
                                                                                have ghc33_36 := lv_neT (k := 36) (a := 36) hc33_36 rfl
                                                                                have ghc33_37 := lv_neT (k := 37) (a := 37) hc33_37 rfl
                                                                                refine lv_tableOut (tgt := 1449) hx hb dL_law_33 (by omega) (by decide) ?_
                                                                                exact wL_law_1449 C hX hbl hbA hRR hq hend hk18 h hH (lv_sub hl [0, 1, 2, 3] rfl)
set_option maxHeartbeats 2000000 in
set_option maxRecDepth 20000 in
theorem wL_law_18 (C : Cx D ca A p s m args meth c cL_law RL 4 (some .boolean)) {q : Int32 × Mm} {b L : Nat} {xs : Nat → Int32} (hX : va_X b L xs s s.heap) (hbl : b < s.heap.size) (hbA : ¬ A b) (hRR : ∀ lev n, lev ≤ 1000 → n ≤ 21 → RR room_1 lev n cells slots) (hq : q.1 = 1) (hend : ∀ {mm : Mm} {H : Heap} {locs : List Loc} {ls : Array Slot}, Hx WN ad ca WS D A s.heap mm H locs → W p l e room_1 s m args below meth c H locs cells slots Q (F0 m 1456 ls [.int 1])) : ∀ (N : Nat) (v3 : Int32) (mm : Mm), DL_law_18 L xs N v3 mm = some q → ∀ (H : Heap) (locs : List Loc) (ls : Array Slot), Hx WN ad ca WS D A s.heap mm H locs → lv_has ls 4 [(0, .ref b), (1, .ref (ad 0)), (2, .ref (ad 58)), (3, .int v3)] → W p l e room_1 s m args below meth c H locs cells slots Q (F0 m 18 ls []) := by
  intro N
  induction N with
  | zero =>
    intro v3 mm h
    have h2 : (none : Option (Int32 × Mm)) = some q := h
    cases h2
  | succ N ih =>
    intro v3 mm h H locs ls hH hl
    exact wbL_law_18 C hX hbl hbA hRR hq hend ih h hH hl
end WALK
