/-! ===== the whole invariant, and what each piece of it reads ===== -/
def plc (w k : Nat) : Nat := if w < 4 then 6 * w + k else if w < 6 then 24 + 10 * (w - 4) + k else 44 + 6 * (w - 6) + k
def loV (w : Nat) : Int := if w = 8 then 1 else 0
def hiV (w : Nat) : Int := if w = 0 then 99 else if w < 4 then 3 else if w = 4 then 5 else if w = 5 then 99 else if w = 6 then 999 else if w = 7 then 6 else 11
def wn (w : Nat) (v : Int32) : Prop := loV w ≤ v.toInt ∧ v.toInt ≤ hiV w
def hn (s b w k : Nat) : Prop := (w < 4 ∧ k < 6) ∨ ((w = 4 ∨ w = 5) ∧ k < s) ∨ (6 ≤ w ∧ w ≤ 8 ∧ k < b)
def Ju (mm : Mm) (s b : Nat) : Prop := Js mm s b ∧ (∀ w k, hn s b w k → gI mm 59 (plc w k) = gI mm (3 + w) k ∧ wn w (gI mm (3 + w) k)) ∧ (∀ k, k < s → gI mm 63 k = gI mm 12 k ∧ -1 ≤ (gI mm 12 k).toInt ∧ (gI mm 12 k).toInt < b ∧ gI mm 64 k = gI mm 13 k ∧ (gI mm 13 k = 0 ∨ gI mm 13 k = 1)) ∧ Jo mm s
theorem plc_inj {s b w k w' k' : Nat} (hs : s ≤ 10) (hb : b ≤ 6) (h1 : hn s b w k) (h2 : hn s b w' k') (h : plc w k = plc w' k') : w = w' ∧ k = k' := by
  unfold hn at h1 h2
  unfold plc at h
  repeat' split at h
  all_goals omega
theorem plc_lt {s b w k : Nat} (hs : s ≤ 10) (hb : b ≤ 6) (h1 : hn s b w k) : plc w k < 62 := by
  unfold hn at h1
  unfold plc
  repeat' split
  all_goals omega
theorem hn_up {s b s' b' w k : Nat} (hs : s ≤ s') (hb : b ≤ b') (h : hn s b w k) : hn s' b' w k := by
  unfold hn at h ⊢; omega
theorem hn_8 {s b w k : Nat} (h : hn s b w k) : w ≤ 8 := by unfold hn at h; omega
theorem Ju.of {mm : Mm} {s b : Nat} (J : Jt mm s b) : Ju mm s b := by
  obtain ⟨j1, jg, jk, jo, jb⟩ := J
  refine ⟨j1, fun w k h => ?_, fun k hk => ?_, jo⟩
  · unfold hn at h
    have hw : w = 0 ∨ w = 1 ∨ w = 2 ∨ w = 3 ∨ w = 4 ∨ w = 5 ∨ w = 6 ∨ w = 7 ∨ w = 8 := by omega
    rcases hw with rfl | rfl | rfl | rfl | rfl | rfl | rfl | rfl | rfl
    · have := jg 0 k (by omega) (by omega); exact ⟨this.1, this.2.1, this.2.2.1⟩
    · have := jg 1 k (by omega) (by omega); exact ⟨this.1, this.2.1, this.2.2.2 (by omega)⟩
    · have := jg 2 k (by omega) (by omega); exact ⟨this.1, this.2.1, this.2.2.2 (by omega)⟩
    · have := jg 3 k (by omega) (by omega); exact ⟨this.1, this.2.1, this.2.2.2 (by omega)⟩
    · have := (jk k (by omega)).1; exact ⟨this.1, this.2.1, this.2.2⟩
    · have := (jk k (by omega)).2.1; exact ⟨this.1, this.2.1, this.2.2⟩
    · have := (jb k (by omega)).1; exact ⟨this.1, this.2.1, this.2.2⟩
    · have := (jb k (by omega)).2.1; exact ⟨this.1, this.2.1, this.2.2⟩
    · have := (jb k (by omega)).2.2; exact ⟨this.1, this.2.1, this.2.2⟩
  · have := (jk k hk).2.2
    exact ⟨this.1.1, this.1.2.1, this.1.2.2, this.2.1, this.2.2⟩
theorem Ju.jt {mm : Mm} {s b : Nat} (J : Ju mm s b) : Jt mm s b := by
  obtain ⟨j1, ju, jk, jo⟩ := J
  refine ⟨j1, fun w g hw hg => ?_, fun k hk => ?_, jo, fun k hk => ?_⟩
  · obtain ⟨a1, a2, a3⟩ := ju w g (Or.inl ⟨hw, hg⟩)
    have e : plc w g = 6 * w + g := by unfold plc; rw [if_pos hw]
    rw [e] at a1
    have hw : w = 0 ∨ w = 1 ∨ w = 2 ∨ w = 3 := by omega
    rcases hw with rfl | rfl | rfl | rfl
    · exact ⟨a1, a2, a3, fun q => absurd q (by omega)⟩
    · have a3 : _ ≤ (3 : Int) := a3; exact ⟨a1, a2, by omega, fun _ => a3⟩
    · have a3 : _ ≤ (3 : Int) := a3; exact ⟨a1, a2, by omega, fun _ => a3⟩
    · have a3 : _ ≤ (3 : Int) := a3; exact ⟨a1, a2, by omega, fun _ => a3⟩
  · have x4 := ju 4 k (by unfold hn; omega)
    have x5 := ju 5 k (by unfold hn; omega)
    have x9 := jk k hk
    exact ⟨⟨x4.1, x4.2.1, x4.2.2⟩, ⟨x5.1, x5.2.1, x5.2.2⟩, ⟨x9.1, x9.2.1, x9.2.2.1⟩, x9.2.2.2⟩
  · have x6 := ju 6 k (by unfold hn; omega)
    have x7 := ju 7 k (by unfold hn; omega)
    have x8 := ju 8 k (by unfold hn; omega)
    exact ⟨⟨x6.1, x6.2.1, x6.2.2⟩, ⟨x7.1, x7.2.1, x7.2.2⟩, x8.1, x8.2.1, x8.2.2⟩
/-- one number of the table is set on both sides -/
theorem Ju.set {mm m' : Mm} {s b w k : Nat} {v : Int32} (J : Ju mm s b) (h : hn s b w k) (hv : wn w v) (e : ∀ o i, gI m' o i = if (o = 59 ∧ i = plc w k) ∨ (o = 3 + w ∧ i = k) then v else gI mm o i) : Ju m' s b := by
  have h8 := hn_8 h
  obtain ⟨⟨j1, j2, j3, j4, j5, j6⟩, ju, jk, jo⟩ := J
  have ne : ∀ o i, o ≠ 59 → o ≠ 3 + w → gI m' o i = gI mm o i := fun o i h1 h2 => by rw [e, if_neg (by omega)]
  refine ⟨⟨j1, j2, ?_, ?_, ?_, ?_⟩, fun w' k' h' => ?_, fun i hi => ?_, fun i h1 h2 => ?_⟩
  · rw [ne _ _ (by omega) (by omega)]; exact j3
  · rw [ne _ _ (by omega) (by omega)]; exact j4
  · rw [ne _ _ (by omega) (by omega)]; exact j5
  · rw [ne _ _ (by omega) (by omega)]; exact j6
  · have h8' := hn_8 h'
    by_cases q : w' = w ∧ k' = k
    · obtain ⟨rfl, rfl⟩ := q
      rw [e, if_pos (Or.inl ⟨rfl, rfl⟩), e, if_pos (Or.inr ⟨rfl, rfl⟩)]
      exact ⟨rfl, hv⟩
    · have n1 : ¬ plc w' k' = plc w k := fun z => q (plc_inj j1 j2 h' h z)
      rw [e, if_neg (by omega), e, if_neg (by omega)]
      exact ju w' k' h'
  · rw [ne 63 _ (by omega) (by omega), ne 12 _ (by omega) (by omega), ne 64 _ (by omega) (by omega), ne 13 _ (by omega) (by omega)]
    exact jk i hi
  · rw [ne 64 _ (by omega) (by omega)]; exact jo i h1 h2
/-- changes -/
def Jc1 (m : Mm) (s b i : Nat) : Prop := ∃ w k, hn s b w k ∧ gI m 30 i = nI w ∧ gI m 31 i = nI k ∧ gI m 60 i = nI (plc w k) ∧ gI m 61 i = gI m 32 i ∧ wn w (gI m 32 i) ∧ gI m 62 i = gI m 33 i ∧ wn w (gI m 33 i)
def Jc (m : Mm) (s b : Nat) : Prop := ∃ dn kp : Nat, dn ≤ kp ∧ kp ≤ 40 ∧ gI m 29 4 = nI dn ∧ gI m 29 5 = nI kp ∧ gI m 58 5 = nI dn ∧ gI m 58 4 = nI kp ∧ ∀ i, i < kp → Jc1 m s b i
/-- deeds, the image -/
def Jim (m : Mm) (s b : Nat) : Prop := (gI m 23 8 = 0 ∧ gI m 58 25 = 0) ∨ (gI m 23 8 = 1 ∧ gI m 58 25 = 1 ∧ ∃ s' b' : Nat, s' ≤ s ∧ b' ≤ b ∧ gI m 23 6 = nI s' ∧ gI m 58 26 = nI s' ∧ gI m 23 7 = nI b' ∧ gI m 58 27 = nI b' ∧ (∀ k, k < s' → gI m 73 k = gI m 26 k ∧ -1 ≤ (gI m 26 k).toInt ∧ (gI m 26 k).toInt < b ∧ gI m 74 k = gI m 27 k ∧ (gI m 27 k = 0 ∨ gI m 27 k = 1)) ∧ (∀ k, k < b' → gI m 75 k = gI m 28 k ∧ 0 ≤ (gI m 28 k).toInt ∧ (gI m 28 k).toInt ≤ 999) ∧ ∀ k, k < 5 → gI m 76 k = gI m 25 k)
def Jd (m : Mm) (s b : Nat) : Prop := (∀ k, k < 5 → gI m 72 k = gI m 24 k) ∧ Jim m s b
/-- bodies, the trace -/
def Jn (m : Mm) (kn : Nat) : Prop := kn ≤ 50 ∧ gI m 34 3 = nI kn ∧ gI m 58 32 = nI kn ∧ (∀ k, k < kn → gI m 77 k = gI m 35 k ∧ ∃ q, q < 8 ∧ gI m 35 k = nI q) ∧ gI m 58 35 = gI m 34 4 ∧ 0 ≤ (gI m 34 4).toInt ∧ ∀ k : Nat, k < 24 → (k : Int) < (gI m 34 4).toInt → gI m 78 k = gI m 36 k
theorem Jc1.up {m : Mm} {s b s' b' i : Nat} (hs : s ≤ s') (hb : b ≤ b') (h : Jc1 m s b i) : Jc1 m s' b' i := by
  obtain ⟨w, k, h1, h2⟩ := h
  exact ⟨w, k, hn_up hs hb h1, h2⟩
theorem Jc.up {m : Mm} {s b s' b' : Nat} (hs : s ≤ s') (hb : b ≤ b') (h : Jc m s b) : Jc m s' b' := by
  obtain ⟨dn, kp, a1, a2, a3, a4, a5, a6, a7⟩ := h
  exact ⟨dn, kp, a1, a2, a3, a4, a5, a6, fun i hi => (a7 i hi).up hs hb⟩
theorem Jd.up {m : Mm} {s b s' b' : Nat} (hs : s ≤ s') (hb : b ≤ b') (h : Jd m s b) : Jd m s' b' := by
  obtain ⟨a1, a2 | ⟨a2, a3, s1, b1, c1, c2, c3, c4, c5, c6, c7, c8⟩⟩ := h
  · exact ⟨a1, Or.inl a2⟩
  · exact ⟨a1, Or.inr ⟨a2, a3, s1, b1, by omega, by omega, c3, c4, c5, c6, fun k hk => ⟨(c7 k hk).1, (c7 k hk).2.1, by have := (c7 k hk).2.2.1; omega, (c7 k hk).2.2.2⟩, c8⟩⟩
/-- footprints -/
def FT (o k : Nat) : Bool := (decide (3 ≤ o) && decide (o ≤ 13)) || o == 59 || o == 63 || o == 64 || (o == 1 && (k == 2 || k == 3)) || (o == 58 && (k == 6 || k == 7))
def FH (o _k : Nat) : Bool := (decide (38 ≤ o) && decide (o ≤ 49)) || o == 79 || o == 80 || o == 81
def FLw (o k : Nat) : Bool := (decide (50 ≤ o) && decide (o ≤ 56) && !(o == 53)) || o == 66 || (o == 1 && k == 4) || (o == 58 && k == 13)
def FP (o k : Nat) : Bool := o == 16 || o == 65 || (o == 15 && (k == 1 || k == 4)) || (o == 1 && k == 4) || (o == 58 && k == 11)
def FC (o k : Nat) : Bool := o == 29 || (decide (30 ≤ o) && decide (o ≤ 33)) || (decide (60 ≤ o) && decide (o ≤ 62)) || (o == 58 && (k == 4 || k == 5))
def FDd (o k : Nat) : Bool := (decide (23 ≤ o) && decide (o ≤ 28)) || (decide (72 ≤ o) && decide (o ≤ 76)) || (o == 58 && (k == 25 || k == 26 || k == 27))
def FN (o k : Nat) : Bool := (o == 34 && (k == 3 || k == 4)) || o == 35 || o == 36 || o == 77 || o == 78 || (o == 58 && (k == 32 || k == 35))
def off (F P : Nat → Nat → Bool) : Prop := ∀ o k, F o k = true → P o k = false
section FRAMES
variable {P : Nat → Nat → Bool} {m m' : Mm} {s b kn n : Nat} {t : Nat → Nat} {lv : Option LF}
theorem Jt_fr (J : Jt m s b) (h : ch P m m') (hp : off FT P) : Jt m' s b := by
  have a1 : ∀ w k, w ≤ 10 → gI m' (3 + w) k = gI m (3 + w) k := fun w k hw => h.I (hp _ _ (by unfold FT; simp; omega))
  have b1 : ∀ o k, o = 59 ∨ o = 63 ∨ o = 64 → gI m' o k = gI m o k := fun o k hw => h.I (hp _ _ (by unfold FT; simp; omega))
  obtain ⟨⟨x1, x2, x3, x4, x5, x6⟩, ju, jk, jo⟩ := Ju.of J
  refine Ju.jt ⟨⟨x1, x2, ?_, ?_, ?_, ?_⟩, fun w k hh => ?_, fun k hk => ?_, fun k h1 h2 => ?_⟩
  · rw [h.I (hp _ _ rfl)]; exact x3
  · rw [h.I (hp _ _ rfl)]; exact x4
  · rw [h.I (hp _ _ rfl)]; exact x5
  · rw [h.I (hp _ _ rfl)]; exact x6
  · have := hn_8 hh
    rw [a1 w k (by omega), b1 59 _ (by omega)]; exact ju w k hh
  · rw [b1 63 _ (by omega), b1 64 _ (by omega), show gI m' 12 k = gI m 12 k from a1 9 k (by omega), show gI m' 13 k = gI m 13 k from a1 10 k (by omega)]; exact jk k hk
  · rw [b1 64 _ (by omega)]; exact jo k h1 h2
theorem Jh_fr (J : Jh m kn) (h : ch P m m') (hp : off FH P) : Jh m' kn := by
  refine ⟨J.1, fun d hd => ?_⟩
  have a1 : ∀ k, gI m' (38 + d) k = gI m (38 + d) k := fun k => h.I (hp _ _ (by unfold FH; simp; omega))
  have a2 : ∀ k, gL m' (44 + d) k = gL m (44 + d) k := fun k => h.L (hp _ _ (by unfold FH; simp; omega))
  have j := J.2 d hd
  unfold Jh1 at j ⊢
  rw [a1, a1, a1, a1, h.I (o := 79) (hp _ _ rfl), h.I (o := 80) (hp _ _ rfl)]
  rcases j with j | j | ⟨j1, t, n, j2, j3, j4, j5, j6, j7, j8, j9⟩
  · exact Or.inl j
  · exact Or.inr (Or.inl j)
  · refine Or.inr (Or.inr ⟨j1, t, n, j2, j3, j4, j5, j6, j7, fun i hi => ?_, fun q i hi => ?_⟩)
    · rw [h.L (o := 81) (hp _ _ rfl), a2]; exact j8 i hi
    · rw [a2]; exact j9 q i hi
theorem Jh.up {kn' : Nat} (J : Jh m kn) (h : kn ≤ kn') (h2 : kn' ≤ 50) : Jh m kn' := by
  refine ⟨h2, fun d hd => ?_⟩
  rcases J.2 d hd with j | ⟨j1, q, j2, j3⟩ | j
  · exact Or.inl j
  · exact Or.inr (Or.inl ⟨j1, q, by omega, j3⟩)
  · exact Or.inr (Or.inr j)
theorem LvC_fr (J : LvC m lv) (h : ch P m m') (hp : off FLw P) : LvC m' lv := J.ag (agL.of J.1 h (hp _ _ rfl) (fun o k q => hp _ _ (by unfold FLw; simp; omega)))
theorem LvR_fr (J : LvR m lv) (h : ch P m m') (hp : off FLw P) : LvR m' lv := J.ag (agT.of h (hp _ _ rfl) (fun k => hp _ _ rfl))
theorem K_fr (J : K m s b kn lv) (h : ch P m m') (h1 : off FT P) (h2 : off FLw P) (h3 : off FH P) : K m' s b kn lv := ⟨Jt_fr J.1 h h1, LvC_fr J.2.1 h h2, LvR_fr J.2.2.1 h h2, Jh_fr J.2.2.2 h h3⟩
theorem Jp_fr (J : Jp m n t) (h : ch P m m') (hp : off FP P) : Jp m' n t := by
  obtain ⟨x1, x2, x3, x4⟩ := J
  refine ⟨x1, by rw [h.I (hp _ _ rfl)]; exact x2, by rw [h.I (hp _ _ rfl)]; exact x3, fun p hpn => ?_⟩
  rw [h.I (o := 16) (hp _ _ rfl), h.I (o := 65) (hp _ _ rfl)]; exact x4 p hpn
theorem Jr_fr (J : Jr m) (h : ch P m m') (hp : off FP P) : Jr m' := by
  unfold Jr at J ⊢
  rw [h.R (o := 1) (k := 4) (hp _ _ rfl), h.R (o := 15) (k := 1) (hp _ _ rfl)]; exact J
theorem Jc_fr (J : Jc m s b) (h : ch P m m') (hp : off FC P) : Jc m' s b := by
  obtain ⟨dn, kp, a1, a2, a3, a4, a5, a6, a7⟩ := J
  refine ⟨dn, kp, a1, a2, by rw [h.I (hp _ _ rfl)]; exact a3, by rw [h.I (hp _ _ rfl)]; exact a4, by rw [h.I (hp _ _ rfl)]; exact a5, by rw [h.I (hp _ _ rfl)]; exact a6, fun i hi => ?_⟩
  have j := a7 i hi
  unfold Jc1 at j ⊢
  rw [h.I (o := 30) (hp _ _ rfl), h.I (o := 31) (hp _ _ rfl), h.I (o := 32) (hp _ _ rfl), h.I (o := 33) (hp _ _ rfl), h.I (o := 60) (hp _ _ rfl), h.I (o := 61) (hp _ _ rfl), h.I (o := 62) (hp _ _ rfl)]
  exact j
theorem Jim_fr (J : Jim m s b) (h : ch P m m') (hp : off FDd P) : Jim m' s b := by
  unfold Jim at J ⊢
  have a : ∀ k, gI m' 23 k = gI m 23 k := fun k => h.I (hp _ _ rfl)
  rw [a, a, a, h.I (o := 58) (k := 25) (hp _ _ rfl), h.I (o := 58) (k := 26) (hp _ _ rfl), h.I (o := 58) (k := 27) (hp _ _ rfl)]
  rcases J with J | ⟨a2, a3, s1, b1, c1, c2, c3, c4, c5, c6, c7, c8, c9⟩
  · exact Or.inl J
  · refine Or.inr ⟨a2, a3, s1, b1, c1, c2, c3, c4, c5, c6, fun k hk => ?_, fun k hk => ?_, fun k hk => ?_⟩
    · rw [h.I (o := 73) (hp _ _ rfl), h.I (o := 26) (hp _ _ rfl), h.I (o := 74) (hp _ _ rfl), h.I (o := 27) (hp _ _ rfl)]; exact c7 k hk
    · rw [h.I (o := 75) (hp _ _ rfl), h.I (o := 28) (hp _ _ rfl)]; exact c8 k hk
    · rw [h.I (o := 76) (hp _ _ rfl), h.I (o := 25) (hp _ _ rfl)]; exact c9 k hk
theorem Jd_fr (J : Jd m s b) (h : ch P m m') (hp : off FDd P) : Jd m' s b := by
  refine ⟨fun k hk => ?_, Jim_fr J.2 h hp⟩
  rw [h.I (o := 72) (hp _ _ rfl), h.I (o := 24) (hp _ _ rfl)]; exact J.1 k hk
theorem Jn_fr (J : Jn m kn) (h : ch P m m') (hp : off FN P) : Jn m' kn := by
  obtain ⟨x1, x2, x3, x4, x5, x6, x7⟩ := J
  refine ⟨x1, by rw [h.I (hp _ _ rfl)]; exact x2, by rw [h.I (hp _ _ rfl)]; exact x3, fun k hk => ?_, ?_, ?_, fun k h1 h2 => ?_⟩
  · rw [h.I (o := 77) (hp _ _ rfl), h.I (o := 35) (hp _ _ rfl)]; exact x4 k hk
  · rw [h.I (o := 58) (hp _ _ rfl), h.I (o := 34) (hp _ _ rfl)]; exact x5
  · rw [h.I (o := 34) (hp _ _ rfl)]; exact x6
  · rw [h.I (o := 34) (hp _ _ rfl)] at h2
    rw [h.I (o := 78) (hp _ _ rfl), h.I (o := 36) (hp _ _ rfl)]; exact x7 k h1 h2
end FRAMES
/-- all of it -/
def JA (m : Mm) (s b kn n : Nat) (t : Nat → Nat) (lv : Option LF) : Prop := K m s b kn lv ∧ (Jp m n t ∧ Jr m) ∧ Jc m s b ∧ Jd m s b ∧ Jn m kn
def JJ (m : Mm) : Prop := ∃ (s b kn n : Nat) (t : Nat → Nat) (lv : Option LF), JA m s b kn n t lv
theorem off_Sc_P : off FP Sc := fun o k h => by unfold FP at h; unfold Sc; simp at h ⊢; omega
theorem off_Sc_C : off FC Sc := fun o k h => by unfold FC at h; unfold Sc; simp at h ⊢; omega
theorem off_Sc_D : off FDd Sc := fun o k h => by unfold FDd at h; unfold Sc; simp at h ⊢; omega
theorem off_Sc_N : off FN Sc := fun o k h => by unfold FN at h; unfold Sc; simp at h ⊢; omega
theorem JA_ch {m m' : Mm} {s b kn n : Nat} {t : Nat → Nat} {lv : Option LF} (J : JA m s b kn n t lv) (h : ch Sc m m') : JA m' s b kn n t lv := ⟨J.1.ch h, ⟨Jp_fr J.2.1.1 h off_Sc_P, Jr_fr J.2.1.2 h off_Sc_P⟩, Jc_fr J.2.2.1 h off_Sc_C, Jd_fr J.2.2.2.1 h off_Sc_D, Jn_fr J.2.2.2.2 h off_Sc_N⟩
