/-! ===== BEGIN words of one list among another's, by their places ===== -/
theorem goodIn_r {big : List Cond} (ws : List Cond) (ps : List Nat) (hp : ws = ps.filterMap (fun i => big[i]?)) (h : ws.all goodWord = true) : GoodIn big ws := by
  intro w hw
  have h1 := List.all_eq_true.mp h w hw
  rw [hp] at hw
  obtain ⟨i, -, hi⟩ := List.mem_filterMap.mp hw
  have hm : w ∈ big := by first | exact List.mem_of_getElem? hi | exact List.getElem?_mem hi
  exact ⟨hm, good_of_word h1⟩
theorem goodIn_app {big a b : List Cond} (ha : GoodIn big a) (hb : GoodIn big b) : GoodIn big (a ++ b) := fun w h => (List.mem_append.mp h).elim (ha w) (hb w)
theorem goodIn_ca {big a b : List Cond} {c : Cond} (ha : GoodIn big (c :: a)) (hb : GoodIn big b) : GoodIn big (c :: (a ++ b)) := fun w h => (List.mem_cons.mp h).elim (fun e => ha w (List.mem_cons.mpr (Or.inl e))) (fun h => (List.mem_append.mp h).elim (fun h => ha w (List.mem_cons.mpr (Or.inr h))) (hb w))
theorem goodIn_sub {big ws : List Cond} (hm : ∀ w ∈ ws, w ∈ big) (h : ws.all goodWord = true) : GoodIn big ws := fun w hw => ⟨hm w hw, good_of_word (List.all_eq_true.mp h w hw)⟩
/-! ===== END ===== -/

/-! ===== BEGIN new T[n][m]: the outer array a place, the inner ones among the pooled ===== -/
/-- f, but v at every address of l -/
def vr_up {α : Type} (f : Nat → α) (l : List Nat) (v : α) : Nat → α := fun a => if a ∈ l then v else f a
theorem vr_up_in {α : Type} {f : Nat → α} {l : List Nat} {v : α} {a : Nat} (h : a ∈ l) : vr_up f l v a = v := if_pos h
theorem vr_up_ne {α : Type} {f : Nat → α} {l : List Nat} {v : α} {a : Nat} (h : a ∉ l) : vr_up f l v a = f a := if_neg h
theorem vr_rows {L l : List Nat} {f : Nat → va_E} {e : va_E} (h : ∀ a, a ∈ l → a ∉ L) : va_pl L f ++ l.map (fun a => (a, e)) = va_pl (L ++ l) (vr_up f l e) := by
  unfold va_pl
  rw [List.map_append]
  congr 1
  · apply List.map_congr_left
    intro a ha
    rw [vr_up_ne (fun q => h a q ha)]
  · apply List.map_congr_left
    intro a ha
    rw [vr_up_in ha]
theorem vr_lay {X rows : va_W} {x : Nat × va_E} {pl : va_W} {D : va_G} {cl : List vw_C} {H : Heap} (hP : va_P D cl (((X ++ pl) ++ [x]) ++ rows) H) : va_P D cl ((X ++ [x]) ++ (pl ++ rows)) H := by
  rw [List.append_assoc (X ++ pl)] at hP
  have h := va_P.swap hP
  rw [← List.append_assoc X] at h
  have h2 := va_P.swap h
  rw [List.append_assoc (X ++ [x])] at h2
  exact h2
theorem vr_layD {X rows : va_W} {x : Nat × va_E} {pl : va_W} {A : Nat → Prop} (hD : va_D A (((X ++ pl) ++ [x]) ++ rows)) : va_D A ((X ++ [x]) ++ (pl ++ rows)) := by
  rw [List.append_assoc (X ++ pl)] at hD
  have h := va_D.swap hD
  rw [← List.append_assoc X] at h
  have h2 := va_D.swap h
  rw [List.append_assoc (X ++ [x])] at h2
  exact h2
theorem vr_outer (c : ClassId) (N h0 : Nat) : ∀ i : Nat, Jvm.Free.Multi.outerC c N h0 i = arrV c N (fun j => va_rf (if j < i then some (h0 + 1 + j) else none))
  | 0 => by
    show ({ cls := c, slots := Array.replicate N .null, vm := .none } : Cell) = _
    rw [arrV_new]
    refine congrArg (arrV c N) (funext fun j => ?_)
    simp [va_rf]
  | i + 1 => by
    show (Jvm.Free.Multi.outerC c N h0 i).setSlot i (.ref (h0 + 1 + i)) = _
    rw [vr_outer c N h0 i, arrV_store]
    refine congrArg (arrV c N) (funext fun j => ?_)
    by_cases e : j = i
    · subst e
      simp [updV, va_rf]
    · by_cases h : j < i
      · simp [updV, e, h, Nat.lt_succ_of_lt h]
      · simp [updV, e, h, show ¬ j < i + 1 by omega]
def va_AOA (ty : FieldType) (U : State) : Prop := (Cond.arrayOver (.array ty)).before #[] U = true
theorem va_AOA.of {ty : FieldType} {A : Array Value} {U : State} (h : (Cond.arrayOver (.array ty)).before A U = true) : va_AOA ty U := h
theorem va_AOA.use {ty : FieldType} {A : Array Value} {U : State} (h : va_AOA ty U) : (Cond.arrayOver (.array ty)).before A U = true := h
section VGM
variable {p : Program} {l : Launch} {e : Env} {R : Room} {s : State} {m : MethodId} {args : Array Value} {below : List Frame} {meth : Method} {c : Code} {H : Heap} {locs : List Loc} {cells slots : Nat} {Q : State → Prop}
variable {cc : ByteArray} {pc : Nat} {ls : Array Slot} {rest : List Value} {D : va_G} {cl : List vw_C} {A : Nat → Prop} {a : Nat} {tys : List (ClassId × FieldType)} {ws : va_W} {H0 : Heap}
theorem va_mna {X : va_W} {L : List Nat} {f : Nat → va_E} {cc : ByteArray} (hexec : p.tables.exec = Jvm.exec) (hb : c.code = cc) {own : String} {index : Nat} {ty : FieldType} {cy : ClassId} (hown : s.vm.findClass own = some m.cls) (hclink : (Cond.classLink own index ("[" ++ (FieldType.array ty).toString)).before args s = true) (hover : va_AOA ty s) (harr : (Cond.arrayClass ty).before args s = true) (hcy : s.vm.findClass (FieldType.array ty).toString = some cy)
    (hK : va_K D cl tys s) (hP : va_P D cl (X ++ va_pl L f) H) (hD : va_D A (X ++ va_pl L f)) (hS : va_S A H0 H locs) (hA : ∀ q, H0.size ≤ q → A q) {n k : Int32} {N' K' : Nat} {z : vp_A} (hn : ¬ n < 0) (hk : ¬ k < 0) (hN : n.toNatClampNeg = N') (hM : k.toNatClampNeg = K')
    (hb1 : N' * 4 ≤ 536870912) (hb2 : K' * componentBytes ty ≤ 536870912) (hb3 : K' ≤ 536870912) (hdf : fits ty (defaultValue ty) = true) (hdd : (defaultValue ty).isDefault = true) (hcells : cells + (1 + N') ≤ R.cells) (hslots : slots + (N' + N' * K') ≤ R.slots) (hz : ∀ c : ClassId, Jvm.Free.Multi.innerC c K' (defaultValue ty) = vp_cell c z) (hdg : decode cc pc = .ok (.multianewarray index 2, 4))
    (kk : ∀ (q : Nat) (r : Nat → Nat) (cA : ClassId) (H1 : Heap), (∀ i j : Nat, i < N' → j < N' → r i = r j → i = j) → (∀ i : Nat, i < N' → r i ∉ L) → va_K D cl (tys ++ [(cA, .array ty)]) s →
      va_P D cl ((X ++ [(q, .inl (cA, N', .inr (.inr (.inr (.inr (fun i => if i < N' then some (r i) else none))))))]) ++ va_pl (L ++ (List.range N').map r) (vr_up f ((List.range N').map r) (.inl (cy, z)))) H1 → va_D A ((X ++ [(q, .inl (cA, N', .inr (.inr (.inr (.inr (fun i => if i < N' then some (r i) else none))))))]) ++ va_pl (L ++ (List.range N').map r) (vr_up f ((List.range N').map r) (.inl (cy, z)))) → va_S A H0 H1 locs →
      W p l e R s m args below meth c H1 locs (cells + 1 + N') (slots + N' + N' * K') Q (F0 m (pc + 4) ls (.ref q :: rest))) : W p l e R s m args below meth c H locs cells slots Q (F0 m pc ls (.int k :: .int n :: rest)) := by
  subst hN
  subst hM
  intro T hT Xs
  obtain ⟨vm₁, cA, comp, -, fA, fC, hO, -, X', step⟩ := Xs.multianewarray2F hexec hown hclink (va_AOA.use hover) harr (g := F0 m pc ls (.int k :: .int n :: rest)) rfl (by rw [hb]; exact hdg) rfl hn hk hb1 hb2 hb3 hdf hdd hcells hslots
  have ec : some cy = some comp := hcy.symm.trans fC
  cases ec
  generalize hF : Jvm.Free.Multi.fill (T.setVm vm₁) cA cy n.toNatClampNeg k.toNatClampNeg (defaultValue ty) n.toNatClampNeg = F at X' step
  have hTh : (T.setVm vm₁).heap = H := hT
  obtain ⟨f1, f2, -, -⟩ := Jvm.Free.Multi.fill_facts (T.setVm vm₁) cA cy n.toNatClampNeg k.toNatClampNeg (defaultValue ty) n.toNatClampNeg
  rw [hF, hTh] at f1 f2
  have hold : ∀ x : Nat, x < H.size → F.heap[x]? = H[x]? := fun x hx => by
    have := Jvm.Free.Multi.fill_old (T.setVm vm₁) cA cy n.toNatClampNeg k.toNatClampNeg (defaultValue ty) (a := x) (by rw [hTh]; exact hx) n.toNatClampNeg
    rw [hF, hTh] at this
    exact this
  have hrow : ∀ j : Nat, j < n.toNatClampNeg → F.heap[H.size + 1 + j]? = some (vp_cell cy z) := fun j hj => by
    have := Jvm.Free.Multi.fill_inner (T.setVm vm₁) cA cy n.toNatClampNeg k.toNatClampNeg (defaultValue ty) n.toNatClampNeg j hj
    rw [hF, hTh, hz] at this
    exact this
  have hout : Jvm.Free.Multi.outerC cA n.toNatClampNeg H.size n.toNatClampNeg = vp_cell cA (n.toNatClampNeg, .inr (.inr (.inr (.inr (fun i => if i < n.toNatClampNeg then some (H.size + 1 + i) else none))))) := by
    rw [vp_cell_q]
    exact vr_outer cA n.toNatClampNeg H.size n.toNatClampNeg
  rw [hout] at f2
  have hlt : ∀ a, a ∈ L → a < H.size := fun a ha => by
    obtain ⟨k9, hk9⟩ := va_pl_get (X := X) (f := f) ha
    exact (hP k9 _ hk9).lt
  have hnl : ∀ i : Nat, i < n.toNatClampNeg → H.size + 1 + i ∉ L := fun i _ h => by
    have := hlt _ h
    omega
  have hnm : ∀ a, a ∈ (List.range n.toNatClampNeg).map (fun i => H.size + 1 + i) → a ∉ L := fun a ha h => by
    obtain ⟨i, -, rfl⟩ := List.mem_map.mp ha
    have := hlt _ h
    omega
  have hP0 : va_P D cl (X ++ va_pl L f) F.heap := hP.kept (fun k9 x hx => hold x.1 ((hP k9 x hx).lt))
  have hP1 : va_P D cl ((X ++ va_pl L f) ++ [(H.size, .inl (cA, n.toNatClampNeg, .inr (.inr (.inr (.inr (fun i => if i < n.toNatClampNeg then some (H.size + 1 + i) else none))))))]) F.heap := hP0.app (fun k9 x hx => by
    have h0 : k9 < 1 := (List.getElem?_eq_some_iff.mp hx).1
    rw [show k9 = 0 by omega] at hx
    cases hx
    exact f2)
  have hP2 : va_P D cl (((X ++ va_pl L f) ++ [(H.size, .inl (cA, n.toNatClampNeg, .inr (.inr (.inr (.inr (fun i => if i < n.toNatClampNeg then some (H.size + 1 + i) else none))))))]) ++ ((List.range n.toNatClampNeg).map (fun i => H.size + 1 + i)).map (fun a => (a, .inl (cy, z)))) F.heap := hP1.app (fun k9 x hx => by
    obtain ⟨a, ha, rfl⟩ := List.mem_map.mp (List.mem_of_getElem? hx)
    obtain ⟨i, hi, rfl⟩ := List.mem_map.mp ha
    exact hrow i (List.mem_range.mp hi))
  have hD2 : va_D A (((X ++ va_pl L f) ++ [(H.size, .inl (cA, n.toNatClampNeg, .inr (.inr (.inr (.inr (fun i => if i < n.toNatClampNeg then some (H.size + 1 + i) else none))))))]) ++ ((List.range n.toNatClampNeg).map (fun i => H.size + 1 + i)).map (fun a => (a, .inl (cy, z)))) := by
    have hD1 := hD.push (e := .inl (cA, n.toNatClampNeg, .inr (.inr (.inr (.inr (fun i => if i < n.toNatClampNeg then some (H.size + 1 + i) else none)))))) hP rfl (hA _ hS.1)
    generalize hW1 : (X ++ va_pl L f) ++ [(H.size, .inl (cA, n.toNatClampNeg, .inr (.inr (.inr (.inr (fun i => if i < n.toNatClampNeg then some (H.size + 1 + i) else none))))))] = W1 at hD1 hP1 ⊢
    have hle : ∀ (k9 : Nat) (x : Nat × va_E), W1[k9]? = some x → x.1 ≤ H.size := fun k9 x hx => by
      rw [← hW1] at hx
      by_cases hl : k9 < (X ++ va_pl L f).length
      · rw [List.getElem?_append_left hl] at hx
        exact Nat.le_of_lt ((hP k9 x hx).lt)
      · rw [List.getElem?_append_right (by omega)] at hx
        have h0 : k9 - (X ++ va_pl L f).length < 1 := (List.getElem?_eq_some_iff.mp hx).1
        rw [show k9 - (X ++ va_pl L f).length = 0 by omega] at hx
        cases hx
        exact Nat.le_refl _
    have hr : ∀ (k9 : Nat) (x : Nat × va_E), (((List.range n.toNatClampNeg).map (fun i => H.size + 1 + i)).map (fun a => ((a, .inl (cy, z)) : Nat × va_E)))[k9]? = some x → x.1 = H.size + 1 + k9 := fun k9 x hx => by
      rw [List.getElem?_map, List.getElem?_map] at hx
      by_cases h9 : k9 < n.toNatClampNeg
      · rw [List.getElem?_range h9] at hx
        cases hx
        rfl
      · have hn0 : (List.range n.toNatClampNeg)[k9]? = none := List.getElem?_eq_none (by rw [List.length_range]; omega)
        rw [hn0] at hx
        cases hx
    refine ⟨fun i j x y hi hj hxy => ?_, fun k9 x hx => ?_⟩
    · by_cases h1 : i < W1.length <;> by_cases h2 : j < W1.length
      · rw [List.getElem?_append_left h1] at hi
        rw [List.getElem?_append_left h2] at hj
        exact hD1.1 i j x y hi hj hxy
      · rw [List.getElem?_append_left h1] at hi
        rw [List.getElem?_append_right (by omega)] at hj
        have := hle _ _ hi
        have := hr _ _ hj
        omega
      · rw [List.getElem?_append_right (by omega)] at hi
        rw [List.getElem?_append_left h2] at hj
        have := hle _ _ hj
        have := hr _ _ hi
        omega
      · rw [List.getElem?_append_right (by omega)] at hi hj
        have := hr _ _ hi
        have := hr _ _ hj
        omega
    · by_cases h1 : k9 < W1.length
      · rw [List.getElem?_append_left h1] at hx
        exact hD1.2 k9 x hx
      · rw [List.getElem?_append_right (by omega)] at hx
        have := hr _ _ hx
        exact hA _ (by have := hS.1; omega)
  have hAr : ArrOfT s cA (.array ty) := fun N9 z9 => by
    obtain ⟨-, k9, hk9, cm9, hkk9⟩ := (hO 0 0 0).1
    exact ⟨(fun q hq => by cases hq), k9, hk9, cm9, hkk9⟩
  have hK2 : va_K D cl (tys ++ [(cA, .array ty)]) s := ⟨hK.1, fun k9 x hx => by
    by_cases hl : k9 < tys.length
    · rw [List.getElem?_append_left hl] at hx
      exact hK.2 k9 x hx
    · rw [List.getElem?_append_right (by omega)] at hx
      have h0 : k9 - tys.length < 1 := (List.getElem?_eq_some_iff.mp hx).1
      rw [show k9 - tys.length = 0 by omega] at hx
      cases hx
      exact ⟨hAr, fA⟩⟩
  obtain ⟨t, a1, b1⟩ := kk H.size (fun i => H.size + 1 + i) cA F.heap (fun i j _ _ h => by have h9 : H.size + 1 + i = H.size + 1 + j := h; omega) hnl hK2 (by rw [← vr_rows hnm]; exact vr_lay hP2) (by rw [← vr_rows hnm]; exact vr_layD hD2) ⟨by rw [f1]; have := hS.1; omega, fun x h1 h2 => (hold x (Nat.lt_of_lt_of_le h1 hS.1)).trans (hS.2.1 x h1 h2), hS.2.2⟩ F rfl X'
  refine ⟨t, step t ?_, b1⟩
  have e : T.heap.size = H.size := by rw [hT]
  rw [e]
  exact a1
end VGM
/-! ===== END ===== -/

/-! ===== BEGIN printed: names, fields, word lists, decode rows ===== -/
def RX0 : String := "BlindSacks$Beliefs"
def TX0 : u_T := fun k => match k with
  | 0 => ("BlindSacks$Beliefs", "market", "LBlindSacks$Market;", true)
  | _ => ("BlindSacks$Beliefs", "weights", "[J", true)
def tyX0 : Nat → FieldType := fun k => match k with
  | 0 => .object "BlindSacks$Market"
  | _ => .array .long
abbrev wsX00 : List Cond := u_ws RX0 TX0 2
theorem nmX0 : ∀ a, a < 2 → ∀ b, b < 2 → a ≠ b → (TX0 a).2.1 ≠ (TX0 b).2.1 := by decide +kernel
theorem tyX0_ok : ∀ k, k < 2 → parseFieldDescriptor (TX0 k).2.2.1 = some (tyX0 k) := by decide +kernel
abbrev cX0_init : ByteArray := prog_2_method_1_code
def yX0_init : MethodName := ⟨RX0, "<init>", "(LBlindSacks$Market;)V"⟩
abbrev cX0_weigh : ByteArray := prog_2_method_2_code
def yX0_weigh : MethodName := ⟨RX0, "weigh", "(LBlindSacks$Shelf;II)V"⟩
abbrev cX0_know : ByteArray := prog_2_method_3_code
def yX0_know : MethodName := ⟨RX0, "know", "(I)V"⟩
abbrev cX0_learn : ByteArray := prog_2_method_4_code
def yX0_learn : MethodName := ⟨RX0, "learn", "(III)V"⟩
abbrev cX0_seeming : ByteArray := prog_2_method_5_code
def yX0_seeming : MethodName := ⟨RX0, "seeming", "(IIII)I"⟩
abbrev cX0_weight : ByteArray := prog_2_method_6_code
def yX0_weight : MethodName := ⟨RX0, "weight", "(I)J"⟩
abbrev cX0_total : ByteArray := prog_2_method_7_code
def yX0_total : MethodName := ⟨RX0, "total", "()J"⟩
abbrev cX0_mostLikely : ByteArray := prog_2_method_8_code
def yX0_mostLikely : MethodName := ⟨RX0, "mostLikely", "()I"⟩
abbrev cX0_worthSum : ByteArray := prog_2_method_9_code
def yX0_worthSum : MethodName := ⟨RX0, "worthSum", "(II)J"⟩
abbrev cX0_cutWorth : ByteArray := prog_2_method_10_code
def yX0_cutWorth : MethodName := ⟨RX0, "cutWorth", "(II)I"⟩
abbrev cX0_bestLook : ByteArray := prog_2_method_11_code
def yX0_bestLook : MethodName := ⟨RX0, "bestLook", "(I)I"⟩
abbrev cX0_followed : ByteArray := prog_2_method_12_code
def yX0_followed : MethodName := ⟨RX0, "followed", "(II)J"⟩
def RX1 : String := "BlindSacks$Changes"
def TX1 : u_T := fun k => match k with
  | 0 => ("BlindSacks$Changes", "whats", "[I", true)
  | 1 => ("BlindSacks$Changes", "numbers", "[I", true)
  | 2 => ("BlindSacks$Changes", "before", "[I", true)
  | 3 => ("BlindSacks$Changes", "behind", "[I", true)
  | 4 => ("BlindSacks$Changes", "done", "I", false)
  | _ => ("BlindSacks$Changes", "kept", "I", false)
def tyX1 : Nat → FieldType := fun k => match k with
  | 0 => .array .int
  | 1 => .array .int
  | 2 => .array .int
  | 3 => .array .int
  | 4 => .int
  | _ => .int
abbrev wsX10 : List Cond := u_ws RX1 TX1 6
theorem nmX1 : ∀ a, a < 6 → ∀ b, b < 6 → a ≠ b → (TX1 a).2.1 ≠ (TX1 b).2.1 := by decide +kernel
theorem tyX1_ok : ∀ k, k < 6 → parseFieldDescriptor (TX1 k).2.2.1 = some (tyX1 k) := by decide +kernel
abbrev cX1_init : ByteArray := prog_3_method_1_code
def yX1_init : MethodName := ⟨RX1, "<init>", "()V"⟩
abbrev cX1_note : ByteArray := prog_3_method_2_code
def yX1_note : MethodName := ⟨RX1, "note", "(IIII)V"⟩
abbrev cX1_forgetFirst : ByteArray := prog_3_method_3_code
def yX1_forgetFirst : MethodName := ⟨RX1, "forgetFirst", "()V"⟩
abbrev cX1_takeBack : ByteArray := prog_3_method_4_code
def yX1_takeBack : MethodName := ⟨RX1, "takeBack", "(LBlindSacks$Market;)Z"⟩
abbrev cX1_bringBack : ByteArray := prog_3_method_5_code
def yX1_bringBack : MethodName := ⟨RX1, "bringBack", "(LBlindSacks$Market;)Z"⟩
def RX2 : String := "BlindSacks$Dealing"
def TX2 : u_T := fun k => match k with
  | 0 => ("BlindSacks$Dealing", "market", "LBlindSacks$Market;", true)
  | 1 => ("BlindSacks$Dealing", "gains", "[I", true)
  | 2 => ("BlindSacks$Dealing", "deals", "[J", true)
  | 3 => ("BlindSacks$Dealing", "left", "[I", true)
  | 4 => ("BlindSacks$Dealing", "chosenBits", "I", false)
  | _ => ("BlindSacks$Dealing", "chosenGain", "I", false)
def tyX2 : Nat → FieldType := fun k => match k with
  | 0 => .object "BlindSacks$Market"
  | 1 => .array .int
  | 2 => .array .long
  | 3 => .array .int
  | 4 => .int
  | _ => .int
abbrev wsX20 : List Cond := u_ws RX2 TX2 6
theorem nmX2 : ∀ a, a < 6 → ∀ b, b < 6 → a ≠ b → (TX2 a).2.1 ≠ (TX2 b).2.1 := by decide +kernel
theorem tyX2_ok : ∀ k, k < 6 → parseFieldDescriptor (TX2 k).2.2.1 = some (tyX2 k) := by decide +kernel
abbrev cX2_init : ByteArray := prog_4_method_1_code
def yX2_init : MethodName := ⟨RX2, "<init>", "(LBlindSacks$Market;)V"⟩
abbrev cX2_noOffers : ByteArray := prog_4_method_2_code
def yX2_noOffers : MethodName := ⟨RX2, "noOffers", "()V"⟩
abbrev cX2_offer : ByteArray := prog_4_method_3_code
def yX2_offer : MethodName := ⟨RX2, "offer", "(II)V"⟩
abbrev cX2_choose : ByteArray := prog_4_method_4_code
def yX2_choose : MethodName := ⟨RX2, "choose", "(I)V"⟩
abbrev cX2_choose_ : ByteArray := prog_4_method_5_code
def yX2_choose_ : MethodName := ⟨RX2, "choose", "(IIII)V"⟩
abbrev cX2_isBetter : ByteArray := prog_4_method_6_code
def yX2_isBetter : MethodName := ⟨RX2, "isBetter", "(II)Z"⟩
abbrev cX2_bestDeal : ByteArray := prog_4_method_7_code
def yX2_bestDeal : MethodName := ⟨RX2, "bestDeal", "()J"⟩
abbrev cX2_dealOne : ByteArray := prog_4_method_8_code
def yX2_dealOne : MethodName := ⟨RX2, "dealOne", "(I)V"⟩
abbrev cX2_dealtWorth : ByteArray := prog_4_method_9_code
def yX2_dealtWorth : MethodName := ⟨RX2, "dealtWorth", "(J)I"⟩
abbrev cX2_dealtSack : ByteArray := prog_4_method_10_code
def yX2_dealtSack : MethodName := ⟨RX2, "dealtSack", "(JI)I"⟩
abbrev cX2_stocked : ByteArray := prog_4_method_11_code
def yX2_stocked : MethodName := ⟨RX2, "stocked", "(LBlindSacks$Shelf;)Z"⟩
abbrev cX2_tied : ByteArray := prog_4_method_12_code
def yX2_tied : MethodName := ⟨RX2, "tied", "()I"⟩
abbrev cX2_ways : ByteArray := prog_4_method_13_code
def yX2_ways : MethodName := ⟨RX2, "ways", "()J"⟩
abbrev cX2_waysWith : ByteArray := prog_4_method_14_code
def yX2_waysWith : MethodName := ⟨RX2, "waysWith", "(II)J"⟩
abbrev cX2_waysOf : ByteArray := prog_4_method_15_code
def yX2_waysOf : MethodName := ⟨RX2, "waysOf", "(I)J"⟩
abbrev cX2_turnsPaid : ByteArray := prog_4_method_16_code
def yX2_turnsPaid : MethodName := ⟨RX2, "turnsPaid", "(III)I"⟩
abbrev cX2_turnsRaised : ByteArray := prog_4_method_17_code
def yX2_turnsRaised : MethodName := ⟨RX2, "turnsRaised", "(III)I"⟩
abbrev cX2_paid : ByteArray := prog_4_method_18_code
def yX2_paid : MethodName := ⟨RX2, "paid", "(I)I"⟩
abbrev cX2_gained : ByteArray := prog_4_method_19_code
def yX2_gained : MethodName := ⟨RX2, "gained", "(I)I"⟩
abbrev cX2_moved : ByteArray := prog_4_method_20_code
def yX2_moved : MethodName := ⟨RX2, "moved", "(IZ)I"⟩
abbrev cX2_outcome : ByteArray := prog_4_method_21_code
def yX2_outcome : MethodName := ⟨RX2, "outcome", "(IIII)I"⟩
abbrev cX2_sale : ByteArray := prog_4_method_22_code
def yX2_sale : MethodName := ⟨RX2, "sale", "(II)I"⟩
abbrev cX2_days : ByteArray := prog_4_method_23_code
def yX2_days : MethodName := ⟨RX2, "days", "(IIII)I"⟩
def RX3 : String := "BlindSacks$Deeds"
def TX3 : u_T := fun k => match k with
  | 0 => ("BlindSacks$Deeds", "market", "LBlindSacks$Market;", true)
  | 1 => ("BlindSacks$Deeds", "lines", "[I", true)
  | 2 => ("BlindSacks$Deeds", "keptLines", "[I", true)
  | 3 => ("BlindSacks$Deeds", "keptSold", "[I", true)
  | 4 => ("BlindSacks$Deeds", "keptOpen", "[I", true)
  | 5 => ("BlindSacks$Deeds", "keptPurses", "[I", true)
  | 6 => ("BlindSacks$Deeds", "keptSacks", "I", false)
  | 7 => ("BlindSacks$Deeds", "keptBuyers", "I", false)
  | _ => ("BlindSacks$Deeds", "hasImage", "Z", false)
def tyX3 : Nat → FieldType := fun k => match k with
  | 0 => .object "BlindSacks$Market"
  | 1 => .array .int
  | 2 => .array .int
  | 3 => .array .int
  | 4 => .array .int
  | 5 => .array .int
  | 6 => .int
  | 7 => .int
  | _ => .boolean
abbrev wsX30 : List Cond := u_ws RX3 TX3 9
theorem nmX3 : ∀ a, a < 9 → ∀ b, b < 9 → a ≠ b → (TX3 a).2.1 ≠ (TX3 b).2.1 := by decide +kernel
theorem tyX3_ok : ∀ k, k < 9 → parseFieldDescriptor (TX3 k).2.2.1 = some (tyX3 k) := by decide +kernel
abbrev cX3_init : ByteArray := prog_5_method_1_code
def yX3_init : MethodName := ⟨RX3, "<init>", "(LBlindSacks$Market;)V"⟩
abbrev cX3_line : ByteArray := prog_5_method_2_code
def yX3_line : MethodName := ⟨RX3, "line", "(I)I"⟩
abbrev cX3_handOver : ByteArray := prog_5_method_3_code
def yX3_handOver : MethodName := ⟨RX3, "handOver", "(II)I"⟩
abbrev cX3_untie : ByteArray := prog_5_method_4_code
def yX3_untie : MethodName := ⟨RX3, "untie", "(I)V"⟩
abbrev cX3_untieAll : ByteArray := prog_5_method_5_code
def yX3_untieAll : MethodName := ⟨RX3, "untieAll", "()I"⟩
abbrev cX3_keepImage : ByteArray := prog_5_method_6_code
def yX3_keepImage : MethodName := ⟨RX3, "keepImage", "()V"⟩
abbrev cX3_layBack : ByteArray := prog_5_method_7_code
def yX3_layBack : MethodName := ⟨RX3, "layBack", "()V"⟩
def RX4 : String := "BlindSacks$Knots"
def TX4 : u_T := fun k => match k with
  | 0 => ("BlindSacks$Knots", "kinds", "[I", true)
  | 1 => ("BlindSacks$Knots", "traced", "[I", true)
  | 2 => ("BlindSacks$Knots", "self", "I", false)
  | 3 => ("BlindSacks$Knots", "number", "I", false)
  | _ => ("BlindSacks$Knots", "ran", "I", false)
def tyX4 : Nat → FieldType := fun k => match k with
  | 0 => .array .int
  | 1 => .array .int
  | 2 => .int
  | 3 => .int
  | _ => .int
abbrev wsX40 : List Cond := u_ws RX4 TX4 5
theorem nmX4 : ∀ a, a < 5 → ∀ b, b < 5 → a ≠ b → (TX4 a).2.1 ≠ (TX4 b).2.1 := by decide +kernel
theorem tyX4_ok : ∀ k, k < 5 → parseFieldDescriptor (TX4 k).2.2.1 = some (tyX4 k) := by decide +kernel
abbrev cX4_init : ByteArray := prog_6_method_1_code
def yX4_init : MethodName := ⟨RX4, "<init>", "()V"⟩
abbrev cX4_add : ByteArray := prog_6_method_2_code
def yX4_add : MethodName := ⟨RX4, "add", "(I)I"⟩
abbrev cX4_has : ByteArray := prog_6_method_3_code
def yX4_has : MethodName := ⟨RX4, "has", "(I)Z"⟩
abbrev cX4_kindOf : ByteArray := prog_6_method_4_code
def yX4_kindOf : MethodName := ⟨RX4, "kindOf", "(I)I"⟩
abbrev cX4_isUnder : ByteArray := prog_6_method_5_code
def yX4_isUnder : MethodName := ⟨RX4, "isUnder", "(II)Z"⟩
abbrev cX4_start : ByteArray := prog_6_method_6_code
def yX4_start : MethodName := ⟨RX4, "start", "(III)I"⟩
abbrev cX4_ranAt : ByteArray := prog_6_method_7_code
def yX4_ranAt : MethodName := ⟨RX4, "ranAt", "(I)I"⟩
abbrev cX4_ownerOf : ByteArray := prog_6_method_8_code
def yX4_ownerOf : MethodName := ⟨RX4, "ownerOf", "(II)I"⟩
abbrev cX4_note : ByteArray := prog_6_method_9_code
def yX4_note : MethodName := ⟨RX4, "note", "(I)V"⟩
abbrev cX4_run : ByteArray := prog_6_method_10_code
def yX4_run : MethodName := ⟨RX4, "run", "(IIII)I"⟩
def RX5 : String := "BlindSacks$Law"
def TX5 : u_T := fun k => match k with
  | 0 => ("BlindSacks$Law", "signs", "[C", true)
  | 1 => ("BlindSacks$Law", "operands", "[I", true)
  | 2 => ("BlindSacks$Law", "stack", "[I", true)
  | _ => ("BlindSacks$Law", "size", "I", false)
def tyX5 : Nat → FieldType := fun k => match k with
  | 0 => .array .char
  | 1 => .array .int
  | 2 => .array .int
  | _ => .int
abbrev wsX50 : List Cond := u_ws RX5 TX5 4
theorem nmX5 : ∀ a, a < 4 → ∀ b, b < 4 → a ≠ b → (TX5 a).2.1 ≠ (TX5 b).2.1 := by decide +kernel
theorem tyX5_ok : ∀ k, k < 4 → parseFieldDescriptor (TX5 k).2.2.1 = some (tyX5 k) := by decide +kernel
abbrev cX5_init : ByteArray := prog_7_method_1_code
def yX5_init : MethodName := ⟨RX5, "<init>", "()V"⟩
abbrev cX5_clear : ByteArray := prog_7_method_2_code
def yX5_clear : MethodName := ⟨RX5, "clear", "()V"⟩
abbrev cX5_add : ByteArray := prog_7_method_3_code
def yX5_add : MethodName := ⟨RX5, "add", "(CI)V"⟩
abbrev cX5_isTold : ByteArray := prog_7_method_4_code
def yX5_isTold : MethodName := ⟨RX5, "isTold", "()Z"⟩
abbrev cX5_value : ByteArray := prog_7_method_5_code
def yX5_value : MethodName := ⟨RX5, "value", "([I)I"⟩
abbrev cX5_joined : ByteArray := prog_7_method_6_code
def yX5_joined : MethodName := ⟨RX5, "joined", "(CII)I"⟩
def RX6 : String := "BlindSacks$LawReader"
def TX6 : u_T := fun k => match k with
  | 0 => ("BlindSacks$LawReader", "tape", "[C", true)
  | 1 => ("BlindSacks$LawReader", "made", "LBlindSacks$Law;", false)
  | 2 => ("BlindSacks$LawReader", "at", "I", false)
  | 3 => ("BlindSacks$LawReader", "fault", "I", false)
  | _ => ("BlindSacks$LawReader", "length", "I", false)
def tyX6 : Nat → FieldType := fun k => match k with
  | 0 => .array .char
  | 1 => .object "BlindSacks$Law"
  | 2 => .int
  | 3 => .int
  | _ => .int
abbrev wsX60 : List Cond := u_ws RX6 TX6 5
theorem nmX6 : ∀ a, a < 5 → ∀ b, b < 5 → a ≠ b → (TX6 a).2.1 ≠ (TX6 b).2.1 := by decide +kernel
theorem tyX6_ok : ∀ k, k < 5 → parseFieldDescriptor (TX6 k).2.2.1 = some (tyX6 k) := by decide +kernel
abbrev cX6_init : ByteArray := prog_8_method_1_code
def yX6_init : MethodName := ⟨RX6, "<init>", "()V"⟩
abbrev cX6_take : ByteArray := prog_8_method_2_code
def yX6_take : MethodName := ⟨RX6, "take", "(I)I"⟩
abbrev cX6_swap : ByteArray := prog_8_method_3_code
def yX6_swap : MethodName := ⟨RX6, "swap", "(LBlindSacks$Law;)LBlindSacks$Law;"⟩
abbrev cX6_read : ByteArray := prog_8_method_4_code
def yX6_read : MethodName := ⟨RX6, "read", "()I"⟩
abbrev cX6_line : ByteArray := prog_8_method_5_code
def yX6_line : MethodName := ⟨RX6, "line", "()V"⟩
abbrev cX6_ahead : ByteArray := prog_8_method_6_code
def yX6_ahead : MethodName := ⟨RX6, "ahead", "()I"⟩
abbrev cX6_passes : ByteArray := prog_8_method_7_code
def yX6_passes : MethodName := ⟨RX6, "passes", "(C)Z"⟩
abbrev cX6_joins : ByteArray := prog_8_method_8_code
def yX6_joins : MethodName := ⟨RX6, "joins", "(II)Z"⟩
abbrev cX6_level : ByteArray := prog_8_method_9_code
def yX6_level : MethodName := ⟨RX6, "level", "(II)V"⟩
abbrev cX6_operand : ByteArray := prog_8_method_10_code
def yX6_operand : MethodName := ⟨RX6, "operand", "(I)V"⟩
abbrev cX6_opened : ByteArray := prog_8_method_11_code
def yX6_opened : MethodName := ⟨RX6, "opened", "(CI)V"⟩
abbrev cX6_number : ByteArray := prog_8_method_12_code
def yX6_number : MethodName := ⟨RX6, "number", "()V"⟩
def RX7 : String := "BlindSacks$Market"
def TX7 : u_T := fun k => match k with
  | 0 => ("BlindSacks$Market", "numbers", "[[I", true)
  | 1 => ("BlindSacks$Market", "names", "[I", true)
  | 2 => ("BlindSacks$Market", "sackCount", "I", false)
  | 3 => ("BlindSacks$Market", "buyerCount", "I", false)
  | _ => ("BlindSacks$Market", "text", "LBlindSacks$Law;", false)
def tyX7 : Nat → FieldType := fun k => match k with
  | 0 => .array (.array .int)
  | 1 => .array .int
  | 2 => .int
  | 3 => .int
  | _ => .object "BlindSacks$Law"
abbrev wsX70 : List Cond := u_ws RX7 TX7 5
theorem nmX7 : ∀ a, a < 5 → ∀ b, b < 5 → a ≠ b → (TX7 a).2.1 ≠ (TX7 b).2.1 := by decide +kernel
theorem tyX7_ok : ∀ k, k < 5 → parseFieldDescriptor (TX7 k).2.2.1 = some (tyX7 k) := by decide +kernel
abbrev cX7_init : ByteArray := prog_9_method_1_code
def yX7_init : MethodName := ⟨RX7, "<init>", "()V"⟩
abbrev cX7_holds : ByteArray := prog_9_method_2_code
def yX7_holds : MethodName := ⟨RX7, "holds", "(II)Z"⟩
abbrev cX7_told : ByteArray := prog_9_method_3_code
def yX7_told : MethodName := ⟨RX7, "told", "(II)I"⟩
abbrev cX7_set : ByteArray := prog_9_method_4_code
def yX7_set : MethodName := ⟨RX7, "set", "(III)V"⟩
abbrev cX7_addSack : ByteArray := prog_9_method_5_code
def yX7_addSack : MethodName := ⟨RX7, "addSack", "(II)I"⟩
abbrev cX7_addBuyer : ByteArray := prog_9_method_6_code
def yX7_addBuyer : MethodName := ⟨RX7, "addBuyer", "(II)I"⟩
abbrev cX7_isOpen : ByteArray := prog_9_method_7_code
def yX7_isOpen : MethodName := ⟨RX7, "isOpen", "(I)Z"⟩
abbrev cX7_isFree : ByteArray := prog_9_method_8_code
def yX7_isFree : MethodName := ⟨RX7, "isFree", "(I)Z"⟩
abbrev cX7_openWith : ByteArray := prog_9_method_9_code
def yX7_openWith : MethodName := ⟨RX7, "openWith", "(I)I"⟩
abbrev cX7_soldNow : ByteArray := prog_9_method_10_code
def yX7_soldNow : MethodName := ⟨RX7, "soldNow", "()I"⟩
abbrev cX7_worthTo : ByteArray := prog_9_method_11_code
def yX7_worthTo : MethodName := ⟨RX7, "worthTo", "(III)I"⟩
abbrev cX7_plainWorth : ByteArray := prog_9_method_12_code
def yX7_plainWorth : MethodName := ⟨RX7, "plainWorth", "(II)I"⟩
abbrev cX7_groans : ByteArray := prog_9_method_13_code
def yX7_groans : MethodName := ⟨RX7, "groans", "(II)Z"⟩
abbrev cX7_alike : ByteArray := prog_9_method_14_code
def yX7_alike : MethodName := ⟨RX7, "alike", "(I)I"⟩
abbrev cX7_sameBy : ByteArray := prog_9_method_15_code
def yX7_sameBy : MethodName := ⟨RX7, "sameBy", "(III)Z"⟩
abbrev cX7_tellingBits : ByteArray := prog_9_method_16_code
def yX7_tellingBits : MethodName := ⟨RX7, "tellingBits", "()I"⟩
def RX8 : String := "BlindSacks$Shelf"
def TX8 : u_T := fun k => match k with
  | 0 => ("BlindSacks$Shelf", "elements", "[J", true)
  | 1 => ("BlindSacks$Shelf", "holds", "I", false)
  | 2 => ("BlindSacks$Shelf", "knot", "I", false)
  | 3 => ("BlindSacks$Shelf", "sort", "I", false)
  | _ => ("BlindSacks$Shelf", "length", "I", false)
def tyX8 : Nat → FieldType := fun k => match k with
  | 0 => .array .long
  | 1 => .int
  | 2 => .int
  | 3 => .int
  | _ => .int
abbrev wsX80 : List Cond := u_ws RX8 TX8 5
theorem nmX8 : ∀ a, a < 5 → ∀ b, b < 5 → a ≠ b → (TX8 a).2.1 ≠ (TX8 b).2.1 := by decide +kernel
theorem tyX8_ok : ∀ k, k < 5 → parseFieldDescriptor (TX8 k).2.2.1 = some (tyX8 k) := by decide +kernel
abbrev cX8_init : ByteArray := prog_10_method_1_code
def yX8_init : MethodName := ⟨RX8, "<init>", "()V"⟩
abbrev cX8_lay : ByteArray := prog_10_method_2_code
def yX8_lay : MethodName := ⟨RX8, "lay", "(I)V"⟩
abbrev cX8_layRow : ByteArray := prog_10_method_3_code
def yX8_layRow : MethodName := ⟨RX8, "layRow", "(II)V"⟩
abbrev cX8_bytesRefusal : ByteArray := prog_10_method_4_code
def yX8_bytesRefusal : MethodName := ⟨RX8, "bytesRefusal", "()I"⟩
abbrev cX8_byteAt : ByteArray := prog_10_method_5_code
def yX8_byteAt : MethodName := ⟨RX8, "byteAt", "(I)I"⟩
abbrev cX8_hasPlaces : ByteArray := prog_10_method_6_code
def yX8_hasPlaces : MethodName := ⟨RX8, "hasPlaces", "(II)Z"⟩
abbrev cX8_set : ByteArray := prog_10_method_7_code
def yX8_set : MethodName := ⟨RX8, "set", "(IJ)V"⟩
abbrev cX8_fitted : ByteArray := prog_10_method_8_code
def yX8_fitted : MethodName := ⟨RX8, "fitted", "(J)J"⟩
def RX9 : String := "BlindSacks"
def TX9 : u_T := fun k => match k with
  | 0 => ("BlindSacks", "market", "LBlindSacks$Market;", true)
  | 1 => ("BlindSacks", "reader", "LBlindSacks$LawReader;", true)
  | 2 => ("BlindSacks", "beliefs", "LBlindSacks$Beliefs;", true)
  | 3 => ("BlindSacks", "dealing", "LBlindSacks$Dealing;", true)
  | 4 => ("BlindSacks", "deeds", "LBlindSacks$Deeds;", true)
  | 5 => ("BlindSacks", "changes", "LBlindSacks$Changes;", true)
  | 6 => ("BlindSacks", "knots", "LBlindSacks$Knots;", true)
  | _ => ("BlindSacks", "shelves", "[LBlindSacks$Shelf;", true)
def tyX9 : Nat → FieldType := fun k => match k with
  | 0 => .object "BlindSacks$Market"
  | 1 => .object "BlindSacks$LawReader"
  | 2 => .object "BlindSacks$Beliefs"
  | 3 => .object "BlindSacks$Dealing"
  | 4 => .object "BlindSacks$Deeds"
  | 5 => .object "BlindSacks$Changes"
  | 6 => .object "BlindSacks$Knots"
  | _ => .array (.object "BlindSacks$Shelf")
abbrev wsX90 : List Cond := u_ws RX9 TX9 8
theorem nmX9 : ∀ a, a < 8 → ∀ b, b < 8 → a ≠ b → (TX9 a).2.1 ≠ (TX9 b).2.1 := by decide +kernel
theorem tyX9_ok : ∀ k, k < 8 → parseFieldDescriptor (TX9 k).2.2.1 = some (tyX9 k) := by decide +kernel
abbrev cX9_init : ByteArray := prog_1_method_1_code
def yX9_init : MethodName := ⟨RX9, "<init>", "()V"⟩
abbrev cX9_sack : ByteArray := prog_1_method_2_code
def yX9_sack : MethodName := ⟨RX9, "sack", "(I)I"⟩
abbrev cX9_sacks : ByteArray := prog_1_method_3_code
def yX9_sacks : MethodName := ⟨RX9, "sacks", "(III)I"⟩
abbrev cX9_cameFrom : ByteArray := prog_1_method_4_code
def yX9_cameFrom : MethodName := ⟨RX9, "cameFrom", "(LBlindSacks$Shelf;I)Z"⟩
abbrev cX9_buyer : ByteArray := prog_1_method_5_code
def yX9_buyer : MethodName := ⟨RX9, "buyer", "(II)I"⟩
abbrev cX9_mend : ByteArray := prog_1_method_6_code
def yX9_mend : MethodName := ⟨RX9, "mend", "(III)I"⟩
abbrev cX9_of : ByteArray := prog_1_method_7_code
def yX9_of : MethodName := ⟨RX9, "of", "(II)I"⟩
abbrev cX9_feed : ByteArray := prog_1_method_8_code
def yX9_feed : MethodName := ⟨RX9, "feed", "(I)I"⟩
abbrev cX9_law : ByteArray := prog_1_method_9_code
def yX9_law : MethodName := ⟨RX9, "law", "()I"⟩
abbrev cX9_worthOf : ByteArray := prog_1_method_10_code
def yX9_worthOf : MethodName := ⟨RX9, "worthOf", "(II)I"⟩
abbrev cX9_belief : ByteArray := prog_1_method_11_code
def yX9_belief : MethodName := ⟨RX9, "belief", "(IIII)J"⟩
abbrev cX9_likeliest : ByteArray := prog_1_method_12_code
def yX9_likeliest : MethodName := ⟨RX9, "likeliest", "(III)I"⟩
abbrev cX9_worth : ByteArray := prog_1_method_13_code
def yX9_worth : MethodName := ⟨RX9, "worth", "(III)J"⟩
abbrev cX9_next : ByteArray := prog_1_method_14_code
def yX9_next : MethodName := ⟨RX9, "next", "(II)I"⟩
abbrev cX9_right : ByteArray := prog_1_method_15_code
def yX9_right : MethodName := ⟨RX9, "right", "(III)J"⟩
abbrev cX9_buys : ByteArray := prog_1_method_16_code
def yX9_buys : MethodName := ⟨RX9, "buys", "(III)I"⟩
abbrev cX9_dealt : ByteArray := prog_1_method_17_code
def yX9_dealt : MethodName := ⟨RX9, "dealt", "(I)I"⟩
abbrev cX9_groan : ByteArray := prog_1_method_18_code
def yX9_groan : MethodName := ⟨RX9, "groan", "(II)I"⟩
abbrev cX9_groansTold : ByteArray := prog_1_method_19_code
def yX9_groansTold : MethodName := ⟨RX9, "groansTold", "(LBlindSacks$Shelf;I)I"⟩
abbrev cX9_stock : ByteArray := prog_1_method_20_code
def yX9_stock : MethodName := ⟨RX9, "stock", "(II)J"⟩
abbrev cX9_tells : ByteArray := prog_1_method_21_code
def yX9_tells : MethodName := ⟨RX9, "tells", "(I)I"⟩
abbrev cX9_byTurns : ByteArray := prog_1_method_22_code
def yX9_byTurns : MethodName := ⟨RX9, "byTurns", "(III)I"⟩
abbrev cX9_drawn : ByteArray := prog_1_method_23_code
def yX9_drawn : MethodName := ⟨RX9, "drawn", "(IIII)I"⟩
abbrev cX9_sell : ByteArray := prog_1_method_24_code
def yX9_sell : MethodName := ⟨RX9, "sell", "(II)I"⟩
abbrev cX9_open : ByteArray := prog_1_method_25_code
def yX9_open : MethodName := ⟨RX9, "open", "(I)I"⟩
abbrev cX9_dusk : ByteArray := prog_1_method_26_code
def yX9_dusk : MethodName := ⟨RX9, "dusk", "()I"⟩
abbrev cX9_led : ByteArray := prog_1_method_27_code
def yX9_led : MethodName := ⟨RX9, "led", "(I)I"⟩
abbrev cX9_image : ByteArray := prog_1_method_28_code
def yX9_image : MethodName := ⟨RX9, "image", "()I"⟩
abbrev cX9_back : ByteArray := prog_1_method_29_code
def yX9_back : MethodName := ⟨RX9, "back", "()I"⟩
abbrev cX9_undo : ByteArray := prog_1_method_30_code
def yX9_undo : MethodName := ⟨RX9, "undo", "()I"⟩
abbrev cX9_redo : ByteArray := prog_1_method_31_code
def yX9_redo : MethodName := ⟨RX9, "redo", "()I"⟩
abbrev cX9_body : ByteArray := prog_1_method_32_code
def yX9_body : MethodName := ⟨RX9, "body", "(I)I"⟩
abbrev cX9_act : ByteArray := prog_1_method_33_code
def yX9_act : MethodName := ⟨RX9, "act", "(III)I"⟩
abbrev cX9_trace : ByteArray := prog_1_method_34_code
def yX9_trace : MethodName := ⟨RX9, "trace", "(I)I"⟩
abbrev cX9_keep : ByteArray := prog_1_method_35_code
def yX9_keep : MethodName := ⟨RX9, "keep", "(II)I"⟩
abbrev cX9_row : ByteArray := prog_1_method_36_code
def yX9_row : MethodName := ⟨RX9, "row", "(III)I"⟩
abbrev cX9_put : ByteArray := prog_1_method_37_code
def yX9_put : MethodName := ⟨RX9, "put", "(IIJ)I"⟩
abbrev cX9_element : ByteArray := prog_1_method_38_code
def yX9_element : MethodName := ⟨RX9, "element", "(II)J"⟩
abbrev cX9_shift : ByteArray := prog_1_method_39_code
def yX9_shift : MethodName := ⟨RX9, "shift", "(IIIII)I"⟩
abbrev cX9_taken : ByteArray := prog_1_method_40_code
def yX9_taken : MethodName := ⟨RX9, "taken", "(II)I"⟩
abbrev cX9_count : ByteArray := prog_1_method_41_code
def yX9_count : MethodName := ⟨RX9, "count", "(I)I"⟩
abbrev cX9_isShelf : ByteArray := prog_1_method_42_code
def yX9_isShelf : MethodName := ⟨RX9, "isShelf", "(I)Z"⟩
abbrev cX9_isPart : ByteArray := prog_1_method_43_code
def yX9_isPart : MethodName := ⟨RX9, "isPart", "(I)Z"⟩
abbrev cX9_isBuyerAndSack : ByteArray := prog_1_method_44_code
def yX9_isBuyerAndSack : MethodName := ⟨RX9, "isBuyerAndSack", "(I)Z"⟩
abbrev cX9_isSackAndGood : ByteArray := prog_1_method_45_code
def yX9_isSackAndGood : MethodName := ⟨RX9, "isSackAndGood", "(I)Z"⟩
abbrev cX9_within : ByteArray := prog_1_method_46_code
def yX9_within : MethodName := ⟨RX9, "within", "(II)Z"⟩
abbrev cX9_looksRefusal : ByteArray := prog_1_method_47_code
def yX9_looksRefusal : MethodName := ⟨RX9, "looksRefusal", "(II)I"⟩
abbrev cX9_placeRefusal : ByteArray := prog_1_method_48_code
def yX9_placeRefusal : MethodName := ⟨RX9, "placeRefusal", "(II)I"⟩
abbrev cX9_reduced : ByteArray := prog_1_method_49_code
def yX9_reduced : MethodName := ⟨RX9, "reduced", "(JJI)J"⟩
def RX10 : String := "BlindSacksModel"
def TX10 : u_T := fun k => match k with
  | 0 => ("BlindSacksModel", "may", "[I", true)
  | 1 => ("BlindSacksModel", "changeAt", "[I", true)
  | 2 => ("BlindSacksModel", "changeWas", "[I", true)
  | 3 => ("BlindSacksModel", "changeIs", "[I", true)
  | 4 => ("BlindSacksModel", "keptMany", "I", false)
  | 5 => ("BlindSacksModel", "done", "I", false)
  | 6 => ("BlindSacksModel", "sacks", "I", false)
  | 7 => ("BlindSacksModel", "buyers", "I", false)
  | 8 => ("BlindSacksModel", "soldTo", "[I", true)
  | 9 => ("BlindSacksModel", "isOpen", "[Z", true)
  | 10 => ("BlindSacksModel", "tape", "[I", true)
  | 11 => ("BlindSacksModel", "tapeMany", "I", false)
  | 12 => ("BlindSacksModel", "text", "[I", true)
  | 13 => ("BlindSacksModel", "textMany", "I", false)
  | 14 => ("BlindSacksModel", "base", "I", false)
  | 15 => ("BlindSacksModel", "at", "I", false)
  | 16 => ("BlindSacksModel", "ends", "I", false)
  | 17 => ("BlindSacksModel", "fault", "I", false)
  | 18 => ("BlindSacksModel", "opened", "I", false)
  | 19 => ("BlindSacksModel", "names", "[I", true)
  | 20 => ("BlindSacksModel", "weight", "[J", true)
  | 21 => ("BlindSacksModel", "gain", "[I", true)
  | 22 => ("BlindSacksModel", "mostFor", "[I", true)
  | 23 => ("BlindSacksModel", "left", "[I", true)
  | 24 => ("BlindSacksModel", "ledNow", "[I", true)
  | 25 => ("BlindSacksModel", "isKept", "Z", false)
  | 26 => ("BlindSacksModel", "imageSacks", "I", false)
  | 27 => ("BlindSacksModel", "imageBuyers", "I", false)
  | 28 => ("BlindSacksModel", "imageSold", "[I", true)
  | 29 => ("BlindSacksModel", "imageOpen", "[Z", true)
  | 30 => ("BlindSacksModel", "imagePurse", "[I", true)
  | 31 => ("BlindSacksModel", "imageLed", "[I", true)
  | 32 => ("BlindSacksModel", "bodies", "I", false)
  | 33 => ("BlindSacksModel", "bodyKind", "[I", true)
  | 34 => ("BlindSacksModel", "trace", "[I", true)
  | 35 => ("BlindSacksModel", "ran", "I", false)
  | 36 => ("BlindSacksModel", "ownKind", "I", false)
  | 37 => ("BlindSacksModel", "ownNumber", "I", false)
  | 38 => ("BlindSacksModel", "shelf", "[I", true)
  | 39 => ("BlindSacksModel", "many", "[I", true)
  | 40 => ("BlindSacksModel", "items", "[J", true)
  | _ => ("BlindSacksModel", "carried", "[J", true)
def tyX10 : Nat → FieldType := fun k => match k with
  | 0 => .array .int
  | 1 => .array .int
  | 2 => .array .int
  | 3 => .array .int
  | 4 => .int
  | 5 => .int
  | 6 => .int
  | 7 => .int
  | 8 => .array .int
  | 9 => .array .boolean
  | 10 => .array .int
  | 11 => .int
  | 12 => .array .int
  | 13 => .int
  | 14 => .int
  | 15 => .int
  | 16 => .int
  | 17 => .int
  | 18 => .int
  | 19 => .array .int
  | 20 => .array .long
  | 21 => .array .int
  | 22 => .array .int
  | 23 => .array .int
  | 24 => .array .int
  | 25 => .boolean
  | 26 => .int
  | 27 => .int
  | 28 => .array .int
  | 29 => .array .boolean
  | 30 => .array .int
  | 31 => .array .int
  | 32 => .int
  | 33 => .array .int
  | 34 => .array .int
  | 35 => .int
  | 36 => .int
  | 37 => .int
  | 38 => .array .int
  | 39 => .array .int
  | 40 => .array .long
  | _ => .array .long
abbrev wsX100 : List Cond := u_ws RX10 TX10 42
theorem nmX10 : ∀ a, a < 42 → ∀ b, b < 42 → a ≠ b → (TX10 a).2.1 ≠ (TX10 b).2.1 := by decide +kernel
theorem tyX10_ok : ∀ k, k < 42 → parseFieldDescriptor (TX10 k).2.2.1 = some (tyX10 k) := by decide +kernel
abbrev cX10_within : ByteArray := prog_12_method_1_code
def yX10_within : MethodName := ⟨RX10, "within", "(JJJ)Z"⟩
abbrev cX10_isIn : ByteArray := prog_12_method_2_code
def yX10_isIn : MethodName := ⟨RX10, "isIn", "(II)Z"⟩
abbrev cX10_bitsOf : ByteArray := prog_12_method_3_code
def yX10_bitsOf : MethodName := ⟨RX10, "bitsOf", "(I)I"⟩
abbrev cX10_init : ByteArray := prog_12_method_4_code
def yX10_init : MethodName := ⟨RX10, "<init>", "()V"⟩
abbrev cX10_becomes : ByteArray := prog_12_method_5_code
def yX10_becomes : MethodName := ⟨RX10, "becomes", "(II)I"⟩
abbrev cX10_undo : ByteArray := prog_12_method_6_code
def yX10_undo : MethodName := ⟨RX10, "undo", "()I"⟩
abbrev cX10_redo : ByteArray := prog_12_method_7_code
def yX10_redo : MethodName := ⟨RX10, "redo", "()I"⟩
abbrev cX10_isGood : ByteArray := prog_12_method_8_code
def yX10_isGood : MethodName := ⟨RX10, "isGood", "(J)Z"⟩
abbrev cX10_isSack : ByteArray := prog_12_method_9_code
def yX10_isSack : MethodName := ⟨RX10, "isSack", "(J)Z"⟩
abbrev cX10_isBuyer : ByteArray := prog_12_method_10_code
def yX10_isBuyer : MethodName := ⟨RX10, "isBuyer", "(J)Z"⟩
abbrev cX10_isFree : ByteArray := prog_12_method_11_code
def yX10_isFree : MethodName := ⟨RX10, "isFree", "(I)Z"⟩
abbrev cX10_adds : ByteArray := prog_12_method_12_code
def yX10_adds : MethodName := ⟨RX10, "adds", "(II)V"⟩
abbrev cX10_sack : ByteArray := prog_12_method_13_code
def yX10_sack : MethodName := ⟨RX10, "sack", "(I)I"⟩
abbrev cX10_sacks : ByteArray := prog_12_method_14_code
def yX10_sacks : MethodName := ⟨RX10, "sacks", "(III)I"⟩
abbrev cX10_buyer : ByteArray := prog_12_method_15_code
def yX10_buyer : MethodName := ⟨RX10, "buyer", "(II)I"⟩
abbrev cX10_placeOf : ByteArray := prog_12_method_16_code
def yX10_placeOf : MethodName := ⟨RX10, "placeOf", "(II)I"⟩
abbrev cX10_mayBecome : ByteArray := prog_12_method_17_code
def yX10_mayBecome : MethodName := ⟨RX10, "mayBecome", "(II)Z"⟩
abbrev cX10_mend : ByteArray := prog_12_method_18_code
def yX10_mend : MethodName := ⟨RX10, "mend", "(III)I"⟩
abbrev cX10_of : ByteArray := prog_12_method_19_code
def yX10_of : MethodName := ⟨RX10, "of", "(II)I"⟩
abbrev cX10_feed : ByteArray := prog_12_method_20_code
def yX10_feed : MethodName := ⟨RX10, "feed", "(I)I"⟩
abbrev cX10_byteAt : ByteArray := prog_12_method_21_code
def yX10_byteAt : MethodName := ⟨RX10, "byteAt", "()I"⟩
abbrev cX10_wrong : ByteArray := prog_12_method_22_code
def yX10_wrong : MethodName := ⟨RX10, "wrong", "()I"⟩
abbrev cX10_takes : ByteArray := prog_12_method_23_code
def yX10_takes : MethodName := ⟨RX10, "takes", "(I)Z"⟩
abbrev cX10_either : ByteArray := prog_12_method_24_code
def yX10_either : MethodName := ⟨RX10, "either", "()I"⟩
abbrev cX10_both : ByteArray := prog_12_method_25_code
def yX10_both : MethodName := ⟨RX10, "both", "()I"⟩
abbrev cX10_compared : ByteArray := prog_12_method_26_code
def yX10_compared : MethodName := ⟨RX10, "compared", "()I"⟩
abbrev cX10_sums : ByteArray := prog_12_method_27_code
def yX10_sums : MethodName := ⟨RX10, "sums", "()I"⟩
abbrev cX10_product : ByteArray := prog_12_method_28_code
def yX10_product : MethodName := ⟨RX10, "product", "()I"⟩
abbrev cX10_nameOf : ByteArray := prog_12_method_29_code
def yX10_nameOf : MethodName := ⟨RX10, "nameOf", "(I)I"⟩
abbrev cX10_one : ByteArray := prog_12_method_30_code
def yX10_one : MethodName := ⟨RX10, "one", "()I"⟩
abbrev cX10_workOut : ByteArray := prog_12_method_31_code
def yX10_workOut : MethodName := ⟨RX10, "workOut", "(II)I"⟩
abbrev cX10_law : ByteArray := prog_12_method_32_code
def yX10_law : MethodName := ⟨RX10, "law", "()I"⟩
abbrev cX10_worthFor : ByteArray := prog_12_method_33_code
def yX10_worthFor : MethodName := ⟨RX10, "worthFor", "(III)I"⟩
abbrev cX10_worthOf : ByteArray := prog_12_method_34_code
def yX10_worthOf : MethodName := ⟨RX10, "worthOf", "(II)I"⟩
abbrev cX10_bytesIs : ByteArray := prog_12_method_35_code
def yX10_bytesIs : MethodName := ⟨RX10, "bytesIs", "(I)I"⟩
abbrev cX10_chance : ByteArray := prog_12_method_36_code
def yX10_chance : MethodName := ⟨RX10, "chance", "(IIIJ)J"⟩
abbrev cX10_weighs : ByteArray := prog_12_method_37_code
def yX10_weighs : MethodName := ⟨RX10, "weighs", "(III)V"⟩
abbrev cX10_weightAll : ByteArray := prog_12_method_38_code
def yX10_weightAll : MethodName := ⟨RX10, "weightAll", "()J"⟩
abbrev cX10_heaviest : ByteArray := prog_12_method_39_code
def yX10_heaviest : MethodName := ⟨RX10, "heaviest", "()I"⟩
abbrev cX10_partOf : ByteArray := prog_12_method_40_code
def yX10_partOf : MethodName := ⟨RX10, "partOf", "(JJI)J"⟩
abbrev cX10_isBs : ByteArray := prog_12_method_41_code
def yX10_isBs : MethodName := ⟨RX10, "isBs", "(I)Z"⟩
abbrev cX10_belief : ByteArray := prog_12_method_42_code
def yX10_belief : MethodName := ⟨RX10, "belief", "(IIII)J"⟩
abbrev cX10_worthAll : ByteArray := prog_12_method_43_code
def yX10_worthAll : MethodName := ⟨RX10, "worthAll", "(III)J"⟩
abbrev cX10_likeliest : ByteArray := prog_12_method_44_code
def yX10_likeliest : MethodName := ⟨RX10, "likeliest", "(III)I"⟩
abbrev cX10_worth : ByteArray := prog_12_method_45_code
def yX10_worth : MethodName := ⟨RX10, "worth", "(III)J"⟩
abbrev cX10_rightBy : ByteArray := prog_12_method_46_code
def yX10_rightBy : MethodName := ⟨RX10, "rightBy", "(II)J"⟩
abbrev cX10_bestLook : ByteArray := prog_12_method_47_code
def yX10_bestLook : MethodName := ⟨RX10, "bestLook", "(I)I"⟩
abbrev cX10_next : ByteArray := prog_12_method_48_code
def yX10_next : MethodName := ⟨RX10, "next", "(II)I"⟩
abbrev cX10_right : ByteArray := prog_12_method_49_code
def yX10_right : MethodName := ⟨RX10, "right", "(III)J"⟩
abbrev cX10_gainOf : ByteArray := prog_12_method_50_code
def yX10_gainOf : MethodName := ⟨RX10, "gainOf", "(III)I"⟩
abbrev cX10_buys : ByteArray := prog_12_method_51_code
def yX10_buys : MethodName := ⟨RX10, "buys", "(III)I"⟩
abbrev cX10_dealAt : ByteArray := prog_12_method_52_code
def yX10_dealAt : MethodName := ⟨RX10, "dealAt", "(II)I"⟩
abbrev cX10_dealt : ByteArray := prog_12_method_53_code
def yX10_dealt : MethodName := ⟨RX10, "dealt", "(I)I"⟩
abbrev cX10_groan : ByteArray := prog_12_method_54_code
def yX10_groan : MethodName := ⟨RX10, "groan", "(II)I"⟩
abbrev cX10_stock : ByteArray := prog_12_method_55_code
def yX10_stock : MethodName := ⟨RX10, "stock", "(II)J"⟩
abbrev cX10_areAlike : ByteArray := prog_12_method_56_code
def yX10_areAlike : MethodName := ⟨RX10, "areAlike", "(III)Z"⟩
abbrev cX10_alikeBy : ByteArray := prog_12_method_57_code
def yX10_alikeBy : MethodName := ⟨RX10, "alikeBy", "(I)I"⟩
abbrev cX10_tells : ByteArray := prog_12_method_58_code
def yX10_tells : MethodName := ⟨RX10, "tells", "(I)I"⟩
abbrev cX10_paidAt : ByteArray := prog_12_method_59_code
def yX10_paidAt : MethodName := ⟨RX10, "paidAt", "(III)I"⟩
abbrev cX10_askedFrom : ByteArray := prog_12_method_60_code
def yX10_askedFrom : MethodName := ⟨RX10, "askedFrom", "(IIIII)I"⟩
abbrev cX10_movedBy : ByteArray := prog_12_method_61_code
def yX10_movedBy : MethodName := ⟨RX10, "movedBy", "(II)I"⟩
abbrev cX10_hasOf : ByteArray := prog_12_method_62_code
def yX10_hasOf : MethodName := ⟨RX10, "hasOf", "(IIII)J"⟩
abbrev cX10_byTurns : ByteArray := prog_12_method_63_code
def yX10_byTurns : MethodName := ⟨RX10, "byTurns", "(III)I"⟩
abbrev cX10_drawn : ByteArray := prog_12_method_64_code
def yX10_drawn : MethodName := ⟨RX10, "drawn", "(IIII)I"⟩
abbrev cX10_sell : ByteArray := prog_12_method_65_code
def yX10_sell : MethodName := ⟨RX10, "sell", "(II)I"⟩
abbrev cX10_opens : ByteArray := prog_12_method_66_code
def yX10_opens : MethodName := ⟨RX10, "opens", "(I)I"⟩
abbrev cX10_open : ByteArray := prog_12_method_67_code
def yX10_open : MethodName := ⟨RX10, "open", "(I)I"⟩
abbrev cX10_dusk : ByteArray := prog_12_method_68_code
def yX10_dusk : MethodName := ⟨RX10, "dusk", "()I"⟩
abbrev cX10_led : ByteArray := prog_12_method_69_code
def yX10_led : MethodName := ⟨RX10, "led", "(I)I"⟩
abbrev cX10_image : ByteArray := prog_12_method_70_code
def yX10_image : MethodName := ⟨RX10, "image", "()I"⟩
abbrev cX10_back : ByteArray := prog_12_method_71_code
def yX10_back : MethodName := ⟨RX10, "back", "()I"⟩
abbrev cX10_isBody : ByteArray := prog_12_method_72_code
def yX10_isBody : MethodName := ⟨RX10, "isBody", "(I)Z"⟩
abbrev cX10_kindOf : ByteArray := prog_12_method_73_code
def yX10_kindOf : MethodName := ⟨RX10, "kindOf", "(I)I"⟩
abbrev cX10_body : ByteArray := prog_12_method_74_code
def yX10_body : MethodName := ⟨RX10, "body", "(I)I"⟩
abbrev cX10_above : ByteArray := prog_12_method_75_code
def yX10_above : MethodName := ⟨RX10, "above", "(I)I"⟩
abbrev cX10_runs : ByteArray := prog_12_method_76_code
def yX10_runs : MethodName := ⟨RX10, "runs", "(I)V"⟩
abbrev cX10_tiesAs : ByteArray := prog_12_method_77_code
def yX10_tiesAs : MethodName := ⟨RX10, "tiesAs", "(II)I"⟩
abbrev cX10_sellsAs : ByteArray := prog_12_method_78_code
def yX10_sellsAs : MethodName := ⟨RX10, "sellsAs", "(II)I"⟩
abbrev cX10_shakesAs : ByteArray := prog_12_method_79_code
def yX10_shakesAs : MethodName := ⟨RX10, "shakesAs", "(II)I"⟩
abbrev cX10_tellsAs : ByteArray := prog_12_method_80_code
def yX10_tellsAs : MethodName := ⟨RX10, "tellsAs", "(II)I"⟩
abbrev cX10_act : ByteArray := prog_12_method_81_code
def yX10_act : MethodName := ⟨RX10, "act", "(III)I"⟩
abbrev cX10_trace : ByteArray := prog_12_method_82_code
def yX10_trace : MethodName := ⟨RX10, "trace", "(I)I"⟩
abbrev cX10_isShelf : ByteArray := prog_12_method_83_code
def yX10_isShelf : MethodName := ⟨RX10, "isShelf", "(I)Z"⟩
abbrev cX10_keep : ByteArray := prog_12_method_84_code
def yX10_keep : MethodName := ⟨RX10, "keep", "(II)I"⟩
abbrev cX10_row : ByteArray := prog_12_method_85_code
def yX10_row : MethodName := ⟨RX10, "row", "(III)I"⟩
abbrev cX10_refusal : ByteArray := prog_12_method_86_code
def yX10_refusal : MethodName := ⟨RX10, "refusal", "(II)I"⟩
abbrev cX10_asSort : ByteArray := prog_12_method_87_code
def yX10_asSort : MethodName := ⟨RX10, "asSort", "(IJ)J"⟩
abbrev cX10_put : ByteArray := prog_12_method_88_code
def yX10_put : MethodName := ⟨RX10, "put", "(IIJ)I"⟩
abbrev cX10_element : ByteArray := prog_12_method_89_code
def yX10_element : MethodName := ⟨RX10, "element", "(II)J"⟩
abbrev cX10_shift : ByteArray := prog_12_method_90_code
def yX10_shift : MethodName := ⟨RX10, "shift", "(IIIII)I"⟩
abbrev cX10_taken : ByteArray := prog_12_method_91_code
def yX10_taken : MethodName := ⟨RX10, "taken", "(II)I"⟩
abbrev cX10_count : ByteArray := prog_12_method_92_code
def yX10_count : MethodName := ⟨RX10, "count", "(I)I"⟩
def RJx145de : String := "java/io/Serializable"
def TJx145de : u_T := fun k => match k with
  | _ => ("", "", "", false)
def tyJx145de : Nat → FieldType := fun k => match k with
  | _ => .int
abbrev wsJx145de0 : List Cond := u_ws RJx145de TJx145de 0
theorem nmJx145de : ∀ a, a < 0 → ∀ b, b < 0 → a ≠ b → (TJx145de a).2.1 ≠ (TJx145de b).2.1 := by decide +kernel
theorem tyJx145de_ok : ∀ k, k < 0 → parseFieldDescriptor (TJx145de k).2.2.1 = some (tyJx145de k) := by decide +kernel
def RJx9f9b0 : String := "java/lang/CharSequence"
def TJx9f9b0 : u_T := fun k => match k with
  | _ => ("", "", "", false)
def tyJx9f9b0 : Nat → FieldType := fun k => match k with
  | _ => .int
abbrev wsJx9f9b00 : List Cond := u_ws RJx9f9b0 TJx9f9b0 0
theorem nmJx9f9b0 : ∀ a, a < 0 → ∀ b, b < 0 → a ≠ b → (TJx9f9b0 a).2.1 ≠ (TJx9f9b0 b).2.1 := by decide +kernel
theorem tyJx9f9b0_ok : ∀ k, k < 0 → parseFieldDescriptor (TJx9f9b0 k).2.2.1 = some (tyJx9f9b0 k) := by decide +kernel
def RJ11 : String := "java/lang/Character"
def TJ11 : u_T := fun k => match k with
  | _ => ("", "", "", false)
def tyJ11 : Nat → FieldType := fun k => match k with
  | _ => .int
abbrev wsJ110 : List Cond := u_ws RJ11 TJ11 0
theorem nmJ11 : ∀ a, a < 0 → ∀ b, b < 0 → a ≠ b → (TJ11 a).2.1 ≠ (TJ11 b).2.1 := by decide +kernel
theorem tyJ11_ok : ∀ k, k < 0 → parseFieldDescriptor (TJ11 k).2.2.1 = some (tyJ11 k) := by decide +kernel
abbrev cJ11_isValidCodePoint_9a6ad : ByteArray := prog_13_method_11_code
def yJ11_isValidCodePoint_9a6ad : MethodName := ⟨RJ11, "isValidCodePoint", "(I)Z"⟩
abbrev cJ11_highSurrogate_5068e : ByteArray := prog_13_method_28_code
def yJ11_highSurrogate_5068e : MethodName := ⟨RJ11, "highSurrogate", "(I)C"⟩
abbrev cJ11_lowSurrogate_5068e : ByteArray := prog_13_method_29_code
def yJ11_lowSurrogate_5068e : MethodName := ⟨RJ11, "lowSurrogate", "(I)C"⟩
def RJxb160c : String := "java/lang/Comparable"
def TJxb160c : u_T := fun k => match k with
  | _ => ("", "", "", false)
def tyJxb160c : Nat → FieldType := fun k => match k with
  | _ => .int
abbrev wsJxb160c0 : List Cond := u_ws RJxb160c TJxb160c 0
theorem nmJxb160c : ∀ a, a < 0 → ∀ b, b < 0 → a ≠ b → (TJxb160c a).2.1 ≠ (TJxb160c b).2.1 := by decide +kernel
theorem tyJxb160c_ok : ∀ k, k < 0 → parseFieldDescriptor (TJxb160c k).2.2.1 = some (tyJxb160c k) := by decide +kernel
def RJ6 : String := "java/lang/Integer"
def TJ6 : u_T := fun k => match k with
  | _ => ("", "", "", false)
def tyJ6 : Nat → FieldType := fun k => match k with
  | _ => .int
abbrev wsJ60 : List Cond := u_ws RJ6 TJ6 0
theorem nmJ6 : ∀ a, a < 0 → ∀ b, b < 0 → a ≠ b → (TJ6 a).2.1 ≠ (TJ6 b).2.1 := by decide +kernel
theorem tyJ6_ok : ∀ k, k < 0 → parseFieldDescriptor (TJ6 k).2.2.1 = some (tyJ6 k) := by decide +kernel
abbrev cJ6_bitCount_0f7a4 : ByteArray := prog_14_method_49_code
def yJ6_bitCount_0f7a4 : MethodName := ⟨RJ6, "bitCount", "(I)I"⟩
def RJ9 : String := "java/lang/Math"
def TJ9 : u_T := fun k => match k with
  | _ => ("", "", "", false)
def tyJ9 : Nat → FieldType := fun k => match k with
  | _ => .int
abbrev wsJ90 : List Cond := u_ws RJ9 TJ9 0
theorem nmJ9 : ∀ a, a < 0 → ∀ b, b < 0 → a ≠ b → (TJ9 a).2.1 ≠ (TJ9 b).2.1 := by decide +kernel
theorem tyJ9_ok : ∀ k, k < 0 → parseFieldDescriptor (TJ9 k).2.2.1 = some (tyJ9 k) := by decide +kernel
abbrev cJ9_max_7cf53 : ByteArray := prog_15_method_65_code
def yJ9_max_7cf53 : MethodName := ⟨RJ9, "max", "(II)I"⟩
abbrev cJ9_max_f86c9 : ByteArray := prog_15_method_66_code
def yJ9_max_f86c9 : MethodName := ⟨RJ9, "max", "(JJ)J"⟩
abbrev cJ9_min_7cf53 : ByteArray := prog_15_method_69_code
def yJ9_min_7cf53 : MethodName := ⟨RJ9, "min", "(II)I"⟩
def RJ0 : String := "java/lang/String"
def TJ0 : u_T := fun k => match k with
  | _ => ("", "", "", false)
def tyJ0 : Nat → FieldType := fun k => match k with
  | _ => .int
abbrev wsJ00 : List Cond := u_ws RJ0 TJ0 0
theorem nmJ0 : ∀ a, a < 0 → ∀ b, b < 0 → a ≠ b → (TJ0 a).2.1 ≠ (TJ0 b).2.1 := by decide +kernel
theorem tyJ0_ok : ∀ k, k < 0 → parseFieldDescriptor (TJ0 k).2.2.1 = some (tyJ0 k) := by decide +kernel
abbrev cJ0_length_8abf5 : ByteArray := prog_16_method_54_code
def yJ0_length_8abf5 : MethodName := ⟨RJ0, "length", "()I"⟩
abbrev cJ0_indexOf_0f7a4 : ByteArray := prog_16_method_79_code
def yJ0_indexOf_0f7a4 : MethodName := ⟨RJ0, "indexOf", "(I)I"⟩
abbrev cJ0_indexOf_7cf53 : ByteArray := prog_16_method_80_code
def yJ0_indexOf_7cf53 : MethodName := ⟨RJ0, "indexOf", "(II)I"⟩
abbrev cJ0_coder_7d493 : ByteArray := prog_16_method_152_code
def yJ0_coder_7d493 : MethodName := ⟨RJ0, "coder", "()B"⟩
abbrev cJ0_isLatin1_aae02 : ByteArray := prog_16_method_154_code
def yJ0_isLatin1_aae02 : MethodName := ⟨RJ0, "isLatin1", "()Z"⟩
abbrev cJ0_checkBoundsBeginEnd_23922 : ByteArray := prog_16_method_158_code
def yJ0_checkBoundsBeginEnd_23922 : MethodName := ⟨RJ0, "checkBoundsBeginEnd", "(III)V"⟩
def RJ1 : String := "java/lang/StringLatin1"
def TJ1 : u_T := fun k => match k with
  | _ => ("", "", "", false)
def tyJ1 : Nat → FieldType := fun k => match k with
  | _ => .int
abbrev wsJ10 : List Cond := u_ws RJ1 TJ1 0
theorem nmJ1 : ∀ a, a < 0 → ∀ b, b < 0 → a ≠ b → (TJ1 a).2.1 ≠ (TJ1 b).2.1 := by decide +kernel
theorem tyJ1_ok : ∀ k, k < 0 → parseFieldDescriptor (TJ1 k).2.2.1 = some (tyJ1 k) := by decide +kernel
abbrev cJ1_canEncode_9a6ad : ByteArray := prog_17_method_4_code
def yJ1_canEncode_9a6ad : MethodName := ⟨RJ1, "canEncode", "(I)Z"⟩
abbrev cJ1_indexOf_4cfef : ByteArray := prog_17_method_22_code
def yJ1_indexOf_4cfef : MethodName := ⟨RJ1, "indexOf", "([BIII)I"⟩
abbrev cJ1_indexOfChar_4cfef : ByteArray := prog_17_method_23_code
def yJ1_indexOfChar_4cfef : MethodName := ⟨RJ1, "indexOfChar", "([BIII)I"⟩
def RJ2 : String := "java/lang/StringUTF16"
def TJ2 : u_T := fun k => match k with
  | _ => ("", "", "", false)
def tyJ2 : Nat → FieldType := fun k => match k with
  | _ => .int
abbrev wsJ20 : List Cond := u_ws RJ2 TJ2 0
theorem nmJ2 : ∀ a, a < 0 → ∀ b, b < 0 → a ≠ b → (TJ2 a).2.1 ≠ (TJ2 b).2.1 := by decide +kernel
theorem tyJ2_ok : ∀ k, k < 0 → parseFieldDescriptor (TJ2 k).2.2.1 = some (tyJ2 k) := by decide +kernel
abbrev cJ2_getChar_3b067 : ByteArray := prog_18_method_5_code
def yJ2_getChar_3b067 : MethodName := ⟨RJ2, "getChar", "([BI)C"⟩
abbrev cJ2_length_9d52b : ByteArray := prog_18_method_6_code
def yJ2_length_9d52b : MethodName := ⟨RJ2, "length", "([B)I"⟩
abbrev cJ2_indexOf_4cfef : ByteArray := prog_18_method_40_code
def yJ2_indexOf_4cfef : MethodName := ⟨RJ2, "indexOf", "([BIII)I"⟩
abbrev cJ2_indexOfChar_4cfef : ByteArray := prog_18_method_47_code
def yJ2_indexOfChar_4cfef : MethodName := ⟨RJ2, "indexOfChar", "([BIII)I"⟩
abbrev cJ2_indexOfCharUnsafe_4cfef : ByteArray := prog_18_method_48_code
def yJ2_indexOfCharUnsafe_4cfef : MethodName := ⟨RJ2, "indexOfCharUnsafe", "([BIII)I"⟩
abbrev cJ2_indexOfSupplementary_4cfef : ByteArray := prog_18_method_49_code
def yJ2_indexOfSupplementary_4cfef : MethodName := ⟨RJ2, "indexOfSupplementary", "([BIII)I"⟩
abbrev cJ2_checkBoundsBeginEnd_d044e : ByteArray := prog_18_method_93_code
def yJ2_checkBoundsBeginEnd_d044e : MethodName := ⟨RJ2, "checkBoundsBeginEnd", "(II[B)V"⟩
def RJ10 : String := "java/lang/System"
def TJ10 : u_T := fun k => match k with
  | _ => ("", "", "", false)
def tyJ10 : Nat → FieldType := fun k => match k with
  | _ => .int
abbrev wsJ100 : List Cond := u_ws RJ10 TJ10 0
theorem nmJ10 : ∀ a, a < 0 → ∀ b, b < 0 → a ≠ b → (TJ10 a).2.1 ≠ (TJ10 b).2.1 := by decide +kernel
theorem tyJ10_ok : ∀ k, k < 0 → parseFieldDescriptor (TJ10 k).2.2.1 = some (tyJ10 k) := by decide +kernel
def RJxfd54e : String := "java/lang/constant/Constable"
def TJxfd54e : u_T := fun k => match k with
  | _ => ("", "", "", false)
def tyJxfd54e : Nat → FieldType := fun k => match k with
  | _ => .int
abbrev wsJxfd54e0 : List Cond := u_ws RJxfd54e TJxfd54e 0
theorem nmJxfd54e : ∀ a, a < 0 → ∀ b, b < 0 → a ≠ b → (TJxfd54e a).2.1 ≠ (TJxfd54e b).2.1 := by decide +kernel
theorem tyJxfd54e_ok : ∀ k, k < 0 → parseFieldDescriptor (TJxfd54e k).2.2.1 = some (tyJxfd54e k) := by decide +kernel
def RJx3cf43 : String := "java/lang/constant/ConstantDesc"
def TJx3cf43 : u_T := fun k => match k with
  | _ => ("", "", "", false)
def tyJx3cf43 : Nat → FieldType := fun k => match k with
  | _ => .int
abbrev wsJx3cf430 : List Cond := u_ws RJx3cf43 TJx3cf43 0
theorem nmJx3cf43 : ∀ a, a < 0 → ∀ b, b < 0 → a ≠ b → (TJx3cf43 a).2.1 ≠ (TJx3cf43 b).2.1 := by decide +kernel
theorem tyJx3cf43_ok : ∀ k, k < 0 → parseFieldDescriptor (TJx3cf43 k).2.2.1 = some (tyJx3cf43 k) := by decide +kernel
def RJ7 : String := "java/util/Arrays"
def TJ7 : u_T := fun k => match k with
  | _ => ("", "", "", false)
def tyJ7 : Nat → FieldType := fun k => match k with
  | _ => .int
abbrev wsJ70 : List Cond := u_ws RJ7 TJ7 0
theorem nmJ7 : ∀ a, a < 0 → ∀ b, b < 0 → a ≠ b → (TJ7 a).2.1 ≠ (TJ7 b).2.1 := by decide +kernel
theorem tyJ7_ok : ∀ k, k < 0 → parseFieldDescriptor (TJ7 k).2.2.1 = some (tyJ7 k) := by decide +kernel
abbrev cJ7_fill_d0a16 : ByteArray := prog_20_method_101_code
def yJ7_fill_d0a16 : MethodName := ⟨RJ7, "fill", "([JJ)V"⟩
abbrev cJ7_fill_53178 : ByteArray := prog_20_method_103_code
def yJ7_fill_53178 : MethodName := ⟨RJ7, "fill", "([II)V"⟩
def RJ3 : String := "jdk/internal/util/Preconditions"
def TJ3 : u_T := fun k => match k with
  | _ => ("", "", "", false)
def tyJ3 : Nat → FieldType := fun k => match k with
  | _ => .int
abbrev wsJ30 : List Cond := u_ws RJ3 TJ3 0
theorem nmJ3 : ∀ a, a < 0 → ∀ b, b < 0 → a ≠ b → (TJ3 a).2.1 ≠ (TJ3 b).2.1 := by decide +kernel
theorem tyJ3_ok : ∀ k, k < 0 → parseFieldDescriptor (TJ3 k).2.2.1 = some (tyJ3 k) := by decide +kernel
abbrev cJ3_checkFromToIndex_8c36e : ByteArray := prog_21_method_12_code
def yJ3_checkFromToIndex_8c36e : MethodName := ⟨RJ3, "checkFromToIndex", "(IIILjava/util/function/BiFunction;)I"⟩
def RL : String := "BlindSacksLaw"
abbrev cL_law : ByteArray := code
def yL_law : MethodName := ⟨RL, "law", "([I)Z"⟩
abbrev vwCl : List vw_C := [(RX0, TX0, 2), (RX1, TX1, 6), (RX2, TX2, 6), (RX3, TX3, 9), (RX4, TX4, 5), (RX5, TX5, 4), (RX6, TX6, 5), (RX7, TX7, 5), (RX8, TX8, 5), (RX9, TX9, 8), (RX10, TX10, 42)]
