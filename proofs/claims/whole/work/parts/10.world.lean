/-! THE WORLD: how the small machine's heap lies in the JVM's -/
def sd_cv (γ : Nat → Nat) (v : AV) : Value := match v with
  | .inl x => .int x
  | .inr (.inl x) => .long x
  | .inr (.inr o) => va_rf (o.map (fun r => γ r.1))
def sd_rf (k j : Nat) : Bool := sd_tc (sd_ty k j) == 2
def sd_fv (γ : Nat → Nat) (h : Hp) (k i j : Nat) : Value := if sd_rf k j = true then va_rf ((hR h i j).map (fun r => γ r.1)) else .int (hI h i j)
def sd_fs (γ : Nat → Nat) (h : Hp) (k i : Nat) : List Value := (List.range (sd_N k)).map (sd_fv γ h k i)
def sd_qa (γ : Nat → Nat) (h : Hp) (i : Nat) : Nat → Option Nat := fun j => (hR h i j).map (fun r => γ r.1)
def sd_E (γ : Nat → Nat) (κ : Nat → ClassId) (sh : Nat → Nat × Nat) (h : Hp) (i : Nat) : va_E :=
  if (sh i).1 < 13 then .inr ((sh i).1, sd_fs γ h (sh i).1 i) else if (sh i).1 = 13 then .inl (κ i, ((sh i).2, .inl (hI h i))) else .inl (κ i, ((sh i).2, .inr (.inr (.inr (.inr (sd_qa γ h i))))))
def sd_ws (γ : Nat → Nat) (κ : Nat → ClassId) (sh : Nat → Nat × Nat) (h : Hp) : va_W := (List.range h.1.1).map (fun i => (γ i, sd_E γ κ sh h i))
def sd_at (k : Nat) : FieldType := if k = 13 then .int else if k = 14 then .object "SeenADayLate$Walker" else .array .int
def sd_OK (sh : Nat → Nat × Nat) (n : Nat) (v : AV) : Prop := ∀ r : Rf, v = vr r → r.1 < n ∧ sh r.1 = r.2
/-- what of a world is not in its cells: kinds, array classes, where references lead -/
def sd_G (γ : Nat → Nat) (κ : Nat → ClassId) (sh : Nat → Nat × Nat) (h : Hp) (s : State) : Prop :=
  (∀ i, i < h.1.1 → (sh i).1 < 16) ∧ (∀ i, i < h.1.1 → 13 ≤ (sh i).1 → ArrOfT s (κ i) (sd_at (sh i).1) ∧ va_RA s (κ i) (sd_at (sh i).1)) ∧ (∀ i, i < h.1.1 → ∀ (j : Nat) (r : Rf), hR h i j = some r → r.1 < h.1.1 ∧ sh r.1 = r.2)
def sd_Rel (D : va_G) (A : Nat → Prop) (γ : Nat → Nat) (κ : Nat → ClassId) (sh : Nat → Nat × Nat) (h : Hp) (s : State) (H : Heap) : Prop :=
  va_P D sd_cl (sd_ws γ κ sh h) H ∧ va_D A (sd_ws γ κ sh h) ∧ sd_G γ κ sh h s
/-- the locals -/
def sd_LR (γ : Nat → Nat) (sh : Nat → Nat × Nat) (n : Nat) (ls : Lc) (lsC : Array Slot) (nL : Nat) : Prop :=
  ls.length = nL ∧ lsC.size = nL ∧ lv_wf lsC ∧ (∀ (i : Nat) (v : AV), am_ld ls i = some v → sd_OK sh n v ∧ lsC[i]? = some (.val (sd_cv γ v)))
theorem sd_wsL {γ : Nat → Nat} {κ : Nat → ClassId} {sh : Nat → Nat × Nat} {h : Hp} : (sd_ws γ κ sh h).length = h.1.1 := by simp [sd_ws]
theorem sd_wsG {γ : Nat → Nat} {κ : Nat → ClassId} {sh : Nat → Nat × Nat} {h : Hp} {i : Nat} (hi : i < h.1.1) : (sd_ws γ κ sh h)[i]? = some (γ i, sd_E γ κ sh h i) := by
  simp [sd_ws, hi]
theorem sd_wsS {γ : Nat → Nat} {κ : Nat → ClassId} {sh : Nat → Nat × Nat} {h h2 : Hp} {i : Nat} (hn : h2.1.1 = h.1.1) (ho : ∀ j, j ≠ i → sd_E γ κ sh h2 j = sd_E γ κ sh h j) (e : va_E) (he : e = sd_E γ κ sh h2 i) : (sd_ws γ κ sh h).set i (γ i, e) = sd_ws γ κ sh h2 := by
  apply List.ext_getElem?
  intro j
  rw [List.getElem?_set]
  by_cases hj : i = j
  · subst hj
    rw [if_pos rfl]
    by_cases hl : i < (sd_ws γ κ sh h).length
    · rw [if_pos hl]
      rw [sd_wsL] at hl
      rw [sd_wsG (by rw [hn]; exact hl), he]
    · rw [if_neg hl]
      have : (sd_ws γ κ sh h2)[i]? = none := List.getElem?_eq_none (by rw [sd_wsL, hn]; rw [sd_wsL] at hl; omega)
      rw [this]
  · rw [if_neg hj]
    by_cases hl : j < h.1.1
    · rw [sd_wsG hl, sd_wsG (by rw [hn]; exact hl), ho j (fun q => hj q.symm)]
    · rw [List.getElem?_eq_none (by rw [sd_wsL]; omega), List.getElem?_eq_none (by rw [sd_wsL, hn]; omega)]
theorem sd_E_obj {γ : Nat → Nat} {κ : Nat → ClassId} {sh : Nat → Nat × Nat} {h : Hp} {i k z : Nat} (hs : sh i = (k, z)) (hk : k < 13) : sd_E γ κ sh h i = .inr (k, sd_fs γ h k i) := by
  unfold sd_E; rw [hs]; simp only; rw [if_pos hk]
theorem sd_E_int {γ : Nat → Nat} {κ : Nat → ClassId} {sh : Nat → Nat × Nat} {h : Hp} {i z : Nat} (hs : sh i = (13, z)) : sd_E γ κ sh h i = .inl (κ i, (z, .inl (hI h i))) := by
  unfold sd_E; rw [hs]; rfl
theorem sd_E_ref {γ : Nat → Nat} {κ : Nat → ClassId} {sh : Nat → Nat × Nat} {h : Hp} {i k z : Nat} (hs : sh i = (k, z)) (hk : 13 < k) : sd_E γ κ sh h i = .inl (κ i, (z, .inr (.inr (.inr (.inr (sd_qa γ h i)))))) := by
  unfold sd_E; rw [hs]; simp only; rw [if_neg (by omega), if_neg (by omega)]
theorem sd_fsG {γ : Nat → Nat} {h : Hp} {k i j : Nat} (hj : j < sd_N k) : (sd_fs γ h k i)[j]? = some (sd_fv γ h k i j) := by simp [sd_fs, hj]
theorem sd_fsL {γ : Nat → Nat} {h : Hp} {k i : Nat} : (sd_fs γ h k i).length = sd_N k := by simp [sd_fs]
theorem sd_fsS {γ : Nat → Nat} {h h2 : Hp} {k i b : Nat} {v : Value} (hv : v = sd_fv γ h2 k i b) (ho : ∀ j, j ≠ b → sd_fv γ h2 k i j = sd_fv γ h k i j) : (sd_fs γ h k i).set b v = sd_fs γ h2 k i := by
  apply List.ext_getElem?
  intro j
  rw [List.getElem?_set]
  by_cases hj : b = j
  · subst hj
    rw [if_pos rfl]
    by_cases hl : b < (sd_fs γ h k i).length
    · rw [if_pos hl]
      rw [sd_fsL] at hl
      rw [sd_fsG hl, hv]
    · rw [if_neg hl, List.getElem?_eq_none (by rw [sd_fsL]; rw [sd_fsL] at hl; omega)]
  · rw [if_neg hj]
    by_cases hl : j < sd_N k
    · rw [sd_fsG hl, sd_fsG hl, ho j (fun q => hj q.symm)]
    · rw [List.getElem?_eq_none (by rw [sd_fsL]; omega), List.getElem?_eq_none (by rw [sd_fsL]; omega)]
/-- growing worlds: old numbers keep their places -/
theorem sd_cv_ext {γ γ2 : Nat → Nat} {sh : Nat → Nat × Nat} {n : Nat} (hg : ∀ i, i < n → γ2 i = γ i) {v : AV} (hv : sd_OK sh n v) : sd_cv γ2 v = sd_cv γ v := by
  rcases v with x | x | o
  · rfl
  · rfl
  · cases o with
    | none => rfl
    | some r =>
      have h1 := (hv r rfl).1
      simp only [sd_cv, Option.map_some, hg _ h1]
theorem sd_OK_ext {sh sh2 : Nat → Nat × Nat} {n n2 : Nat} (hn : n ≤ n2) (hg : ∀ i, i < n → sh2 i = sh i) {v : AV} (hv : sd_OK sh n v) : sd_OK sh2 n2 v := by
  intro r hr
  obtain ⟨h1, h2⟩ := hv r hr
  exact ⟨by omega, by rw [hg _ h1, h2]⟩
theorem sd_LR_ext {γ γ2 : Nat → Nat} {sh sh2 : Nat → Nat × Nat} {n n2 : Nat} {ls : Lc} {lsC : Array Slot} {nL : Nat} (hn : n ≤ n2) (hg : ∀ i, i < n → γ2 i = γ i) (hs : ∀ i, i < n → sh2 i = sh i) (h : sd_LR γ sh n ls lsC nL) : sd_LR γ2 sh2 n2 ls lsC nL := by
  refine ⟨h.1, h.2.1, h.2.2.1, fun i v hv => ?_⟩
  obtain ⟨h1, h2⟩ := h.2.2.2 i v hv
  exact ⟨sd_OK_ext hn hs h1, by rw [sd_cv_ext hg h1]; exact h2⟩
theorem sd_map_ext {γ γ2 : Nat → Nat} {sh : Nat → Nat × Nat} {n : Nat} (hg : ∀ i, i < n → γ2 i = γ i) {st : List AV} (hv : ∀ v ∈ st, sd_OK sh n v) : st.map (sd_cv γ2) = st.map (sd_cv γ) := List.map_congr_left fun v h => sd_cv_ext hg (hv v h)
theorem sd_OKi {sh : Nat → Nat × Nat} {n : Nat} {x : Int32} : sd_OK sh n (vi x) := fun r h => by cases h
theorem sd_OKl {sh : Nat → Nat × Nat} {n : Nat} {x : Int64} : sd_OK sh n (vl x) := fun r h => by cases h
theorem sd_OKn {sh : Nat → Nat × Nat} {n : Nat} : sd_OK sh n (vo none) := fun r h => by cases h
/-- the locals as the kit lists them -/
def sd_pr (γ : Nat → Nat) (ls : Lc) : List (Nat × Value) := (List.range ls.length).filterMap (fun i => (am_ld ls i).map (fun v => (i, sd_cv γ v)))
theorem sd_ldlt {ls : Lc} {i : Nat} {v : AV} (h : am_ld ls i = some v) : i < ls.length := by
  unfold am_ld at h
  cases hq : ls[i]? with
  | none => rw [hq] at h; cases h
  | some x => exact (List.getElem?_eq_some_iff.mp hq).1
theorem sd_prM {γ : Nat → Nat} {ls : Lc} {q : Nat × Value} : q ∈ sd_pr γ ls ↔ ∃ v, am_ld ls q.1 = some v ∧ q.2 = sd_cv γ v := by
  unfold sd_pr
  rw [List.mem_filterMap]
  constructor
  · rintro ⟨i, hi, h⟩
    cases hv : am_ld ls i with
    | none => rw [hv] at h; cases h
    | some v =>
      rw [hv] at h
      simp only [Option.map_some, Option.some.injEq] at h
      subst h
      exact ⟨v, hv, rfl⟩
  · rintro ⟨v, h1, h2⟩
    refine ⟨q.1, List.mem_range.mpr (sd_ldlt h1), ?_⟩
    rw [h1]
    simp only [Option.map_some, Option.some.injEq]
    rw [← h2]
theorem sd_LRh {γ : Nat → Nat} {sh : Nat → Nat × Nat} {n : Nat} {ls : Lc} {lsC : Array Slot} {nL : Nat} (h : sd_LR γ sh n ls lsC nL) : lv_has lsC nL (sd_pr γ ls) := by
  refine ⟨h.2.1, h.2.2.1, fun q hq => ?_⟩
  obtain ⟨v, h1, h2⟩ := sd_prM.mp hq
  rw [h2]
  exact (h.2.2.2 _ _ h1).2
theorem sd_ldset {ls : Lc} {i j : Nat} {v : Option AV} : am_ld (ls.set i v) j = if i = j ∧ j < ls.length then v else am_ld ls j := by
  unfold am_ld
  rw [List.getElem?_set]
  by_cases h : i = j
  · subst h
    by_cases hl : i < ls.length
    · simp [hl]; cases v <;> rfl
    · simp [hl]
  · simp [h]
theorem sd_cat {γ : Nat → Nat} {v : AV} : (sd_cv γ v).category = 2 ↔ am_wd (some v) = true := by
  rcases v with x | x | o
  · simp [sd_cv, Value.category, am_wd]
  · simp [sd_cv, Value.category, am_wd]
  · cases o <;> simp [sd_cv, va_rf, Value.category, am_wd]
theorem sd_st1 {γ : Nat → Nat} {sh : Nat → Nat × Nat} {n : Nat} {ls l2 : Lc} {lsC : Array Slot} {nL i : Nat} {v : AV} {ls2 : Array Slot} (h : sd_LR γ sh n ls lsC nL) (hs : am_s1 ls i v = some l2) (hv : sd_OK sh n v)
    (h2 : lv_has ls2 nL ((i, sd_cv γ v) :: (sd_pr γ ls).filter (fun q => !(q.1 == i) && !(q.1 + 1 == i && q.2.category == 2)))) : sd_LR γ sh n l2 ls2 nL := by
  unfold am_s1 at hs
  split at hs
  · rename_i hc
    cases hs
    refine ⟨by rw [List.length_set]; exact h.1, h2.1, h2.2.1, fun j w hw => ?_⟩
    rw [sd_ldset] at hw
    by_cases hj : i = j ∧ j < ls.length
    · rw [if_pos hj] at hw
      cases hw
      obtain ⟨rfl, -⟩ := hj
      exact ⟨hv, h2.2.2 (i, sd_cv γ v) List.mem_cons_self⟩
    · rw [if_neg hj] at hw
      refine ⟨(h.2.2.2 j w hw).1, h2.2.2 (j, sd_cv γ w) (List.mem_cons_of_mem _ (List.mem_filter.mpr ⟨sd_prM.mpr ⟨w, hw, rfl⟩, ?_⟩))⟩
      have hne : ¬ j = i := fun q => hj ⟨q.symm, sd_ldlt hw⟩
      simp only [Bool.and_eq_true, Bool.not_eq_true', beq_eq_false_iff_ne, ne_eq, Bool.and_eq_false_iff]
      refine ⟨hne, ?_⟩
      by_cases hji : j + 1 = i
      · right
        intro hcat
        subst hji
        have := sd_cat.mp hcat
        have hp := hc.2
        simp only [am_pw, hw] at hp
        rw [this] at hp
        cases hp
      · left; exact hji
  · cases hs
theorem sd_st2 {γ : Nat → Nat} {sh : Nat → Nat × Nat} {n : Nat} {ls l2 : Lc} {lsC : Array Slot} {nL i : Nat} {v : AV} {ls2 : Array Slot} (h : sd_LR γ sh n ls lsC nL) (hs : am_s2 ls i v = some l2) (hv : sd_OK sh n v)
    (h2 : lv_has ls2 nL ((i, sd_cv γ v) :: (sd_pr γ ls).filter (fun q => !(q.1 == i) && (!(q.1 == i + 1) && !(q.1 + 1 == i && q.2.category == 2))))) : sd_LR γ sh n l2 ls2 nL := by
  unfold am_s2 at hs
  split at hs
  · rename_i hc
    cases hs
    refine ⟨by rw [List.length_set, List.length_set]; exact h.1, h2.1, h2.2.1, fun j w hw => ?_⟩
    rw [sd_ldset] at hw
    by_cases hj1 : i + 1 = j ∧ j < (ls.set i (some v)).length
    · rw [if_pos hj1] at hw
      cases hw
    · rw [if_neg hj1, sd_ldset] at hw
      by_cases hj : i = j ∧ j < ls.length
      · rw [if_pos hj] at hw
        cases hw
        obtain ⟨rfl, -⟩ := hj
        exact ⟨hv, h2.2.2 (i, sd_cv γ v) List.mem_cons_self⟩
      · rw [if_neg hj] at hw
        refine ⟨(h.2.2.2 j w hw).1, h2.2.2 (j, sd_cv γ w) (List.mem_cons_of_mem _ (List.mem_filter.mpr ⟨sd_prM.mpr ⟨w, hw, rfl⟩, ?_⟩))⟩
        have hne : ¬ j = i := fun q => hj ⟨q.symm, sd_ldlt hw⟩
        have hne1 : ¬ j = i + 1 := fun q => hj1 ⟨q.symm, by rw [List.length_set]; exact sd_ldlt hw⟩
        simp only [Bool.and_eq_true, Bool.not_eq_true', beq_eq_false_iff_ne, ne_eq, Bool.and_eq_false_iff]
        refine ⟨hne, hne1, ?_⟩
        by_cases hji : j + 1 = i
        · right
          intro hcat
          subst hji
          have := sd_cat.mp hcat
          have hp := hc.2
          simp only [am_pw, hw] at hp
          rw [this] at hp
          cases hp
        · left; exact hji
  · cases hs
