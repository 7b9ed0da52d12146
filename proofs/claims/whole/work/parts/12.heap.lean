/-! THE SIMULATION, instructions over the heap -/
theorem sd_vfI {m idx a b c q : Nat} (h : sd_vf m idx a b c q = true) : ∃ ref : String, lw_tbl[q]? = some (.fieldLink (sd_y m).cls idx ref (sd_T a b).2.1 (sd_T a b).2.2.1) ∧ a < 13 ∧ b < sd_N a ∧ (ref = (sd_T a b).1 ∨ (ref = "SeenADayLate$Hunter" ∧ (sd_T a b).1 = "SeenADayLate$Walker" ∧ (sd_T a b).2.1 = "figure" ∧ (sd_T a b).2.2.1 = "I")) ∧ c = sd_tc (sd_ty a b) := by
  unfold sd_vf at h
  split at h
  · rename_i o ix ref nm ds hw
    simp only [Bool.and_eq_true, Bool.or_eq_true, decide_eq_true_eq, beq_iff_eq] at h
    obtain ⟨⟨⟨⟨⟨⟨⟨h1, h2⟩, h3⟩, h4⟩, h5⟩, h6⟩, h7⟩, h8⟩ := h
    subst h1; subst h2; subst h5; subst h6
    refine ⟨ref, hw, h3, h4, ?_, h8⟩
    rcases h7 with h7 | ⟨⟨⟨g1, g2⟩, g3⟩, g4⟩
    · exact Or.inl h7
    · exact Or.inr ⟨g1, g2, g3, g4⟩
  · cases h
theorem sd_subI {k a : Nat} (h : am_sub k a = true) : k = a ∨ (a = 9 ∧ (k = 1 ∨ k = 2 ∨ k = 3 ∨ k = 6 ∨ k = 8)) ∨ (a = 3 ∧ (k = 1 ∨ k = 6)) := by
  simp only [am_sub, Bool.or_eq_true, Bool.and_eq_true, beq_iff_eq] at h
  omega
theorem sd_subT {k a b : Nat} (h : am_sub k a = true) (ha : a < 13) (hb : b < sd_N a) : k < 13 ∧ b < sd_N k ∧ sd_T k b = sd_T a b ∧ sd_ty k b = sd_ty a b := by
  rcases sd_subI h with rfl | ⟨rfl, h2⟩ | ⟨rfl, h2⟩
  · exact ⟨ha, hb, rfl, rfl⟩
  · have hb2 : b = 0 ∨ b = 1 := by
      have : sd_N 9 = 2 := rfl
      omega
    rcases h2 with rfl | rfl | rfl | rfl | rfl <;> rcases hb2 with rfl | rfl <;> exact ⟨by decide, by decide, rfl, rfl⟩
  · have hb2 : b = 0 ∨ b = 1 := by
      have : sd_N 3 = 2 := rfl
      omega
    rcases h2 with rfl | rfl <;> rcases hb2 with rfl | rfl <;> exact ⟨by decide, by decide, rfl, rfl⟩
theorem sd_same {s : State} {args : Array Value} (hts : ∀ w ∈ sd_tb, w.before args s = true) {ref decl nm ds : String} (h : ref = decl ∨ (ref = "SeenADayLate$Hunter" ∧ decl = "SeenADayLate$Walker" ∧ nm = "figure" ∧ ds = "I")) : ∀ x, s.fieldFound? decl nm ds = some x → s.fieldFound? ref nm ds = some x := by
  intro x hx
  rcases h with rfl | ⟨rfl, rfl, rfl, rfl⟩
  · exact hx
  · exact u_same (hts _ (sd_in 486 (by decide +kernel) rfl)) x hx
theorem sd_tc0 {t : FieldType} (h : 0 = sd_tc t) : t = .int := by cases t <;> simp [sd_tc] at h ⊢
theorem sd_tc1 {t : FieldType} (h : 1 = sd_tc t) : t = .boolean := by cases t <;> simp [sd_tc] at h ⊢
theorem sd_tc2 {t : FieldType} (h : 2 = sd_tc t) : (∃ n, t = .object n) ∨ ∃ n, t = .array n := by cases t <;> simp [sd_tc] at h ⊢
theorem sd_hK {D : va_G} {A : Nat → Prop} {s : State} (hKB : sd_KB D A s) {tys : List (ClassId × FieldType)} (h : ∀ (k : Nat) (q : ClassId × FieldType), tys[k]? = some q → ArrOfT s q.1 q.2 ∧ va_RA s q.1 q.2) : va_K D sd_cl tys s := ⟨hKB.1, h⟩
theorem sd_hK0 {D : va_G} {A : Nat → Prop} {s : State} (hKB : sd_KB D A s) : va_K D sd_cl [] s := ⟨hKB.1, fun k q h => by simp at h⟩
theorem sd_hK1 {D : va_G} {A : Nat → Prop} {s : State} (hKB : sd_KB D A s) {cA : ClassId} {ty : FieldType} (h : ArrOfT s cA ty ∧ va_RA s cA ty) : va_K D sd_cl [(cA, ty)] s := ⟨hKB.1, fun k q hq => by
  match k, hq with
  | 0, hq => cases hq; exact h
  | k + 1, hq => simp at hq⟩
theorem sd_hK2 {D : va_G} {A : Nat → Prop} {s : State} (hKB : sd_KB D A s) {cA cB : ClassId} {ty tz : FieldType} (h : ArrOfT s cA ty ∧ va_RA s cA ty) (h2 : ArrOfT s cB tz ∧ va_RA s cB tz) : va_K D sd_cl [(cA, ty), (cB, tz)] s := ⟨hKB.1, fun k q hq => by
  match k, hq with
  | 0, hq => cases hq; exact h
  | 1, hq => cases hq; exact h2
  | k + 2, hq => simp at hq⟩
theorem hI_hsI {h : Hp} {o b i j : Nat} {x : Int32} : hI (hsI h o b x) i j = if i = o ∧ j = b then x else hI h i j := rfl
theorem hR_hsI {h : Hp} {o b i j : Nat} {x : Int32} : hR (hsI h o b x) i j = hR h i j := rfl
theorem hI_hsR {h : Hp} {o b i j : Nat} {x : Option Rf} : hI (hsR h o b x) i j = hI h i j := rfl
theorem hR_hsR {h : Hp} {o b i j : Nat} {x : Option Rf} : hR (hsR h o b x) i j = if i = o ∧ j = b then x else hR h i j := rfl
theorem sd_E_ne {γ : Nat → Nat} {κ : Nat → ClassId} {sh : Nat → Nat × Nat} {h h2 : Hp} {i : Nat} (h1 : ∀ j, hI h2 i j = hI h i j) (h3 : ∀ j, hR h2 i j = hR h i j) : sd_E γ κ sh h2 i = sd_E γ κ sh h i := by
  have e1 : hI h2 i = hI h i := funext h1
  have e2 : hR h2 i = hR h i := funext h3
  have e3 : ∀ k, sd_fv γ h2 k i = sd_fv γ h k i := fun k => by
    funext z
    simp only [sd_fv]
    rw [e1, e2]
  unfold sd_E sd_fs sd_qa
  simp only [e1, e2, e3]
theorem sd_G_I {γ : Nat → Nat} {κ : Nat → ClassId} {sh : Nat → Nat × Nat} {h : Hp} {s : State} {o b : Nat} {x : Int32} (hG : sd_G γ κ sh h s) : sd_G γ κ sh (hsI h o b x) s := hG
theorem sd_G_R {γ : Nat → Nat} {κ : Nat → ClassId} {sh : Nat → Nat × Nat} {h : Hp} {s : State} {o b : Nat} {x : Option Rf} (hG : sd_G γ κ sh h s) (hx : sd_OK sh h.1.1 (vo x)) : sd_G γ κ sh (hsR h o b x) s := by
  refine ⟨hG.1, hG.2.1, fun i hi z r hr => ?_⟩
  rw [hR_hsR] at hr
  split at hr
  · exact hx r (by rw [hr])
  · exact hG.2.2 i hi z r hr
section SIM
variable {p : Program} {l : Launch} {e : Env} {R : Room} {s : State} {m : MethodId} {args : Array Value} {below : List Frame} {meth : Method} {c : Code} {Q : State → Prop} {D : va_G} {A : Nat → Prop} {n0 : Nat} {γ0 : Nat → Nat} {κ0 : Nat → ClassId} {sh0 : Nat → Nat × Nat} {j cells slots pc pc2 len a b cq q : Nat} {ls ls2 : Lc} {st st2 : List AV} {h h2 : Hp}
theorem sm_getfield {n : Nat} (C : sd_Cx p s m args meth c j D A) (hv : sd_vb j pc (.getfield n, len, a, b, cq, q) = true) (hs : am_stp pc (.getfield n) len a b cq ls st h = some (.inl (pc2, ls2, st2, h2)))
    (kk : sd_W p l e R s m args below meth c D A n0 γ0 κ0 sh0 Q j (cells + (h2.1.1 - h.1.1)) (slots + (h2.1.2 - h.1.2)) pc2 ls2 st2 h2) : sd_W p l e R s m args below meth c D A n0 γ0 κ0 sh0 Q j cells slots pc ls st h := by
  obtain ⟨hx, hb, hml, hr, hlk, hown, hts, hnm, hKB, hA⟩ := C
  simp only [sd_vb, Bool.and_eq_true, decide_eq_true_eq, beq_iff_eq] at hv
  obtain ⟨hd, rfl, hf⟩ := hv
  obtain ⟨ref, hw, ha, hb2, href, hty⟩ := sd_vfI hf
  simp only [am_stp] at hs
  split at hs
  · rename_i o k z r
    split at hs
    · rename_i hsub
      obtain ⟨hk, hbk, hT, hTy⟩ := sd_subT hsub ha hb2
      split at hs
      · rename_i hc2
        simp only [am_nx, Option.some.injEq, Sum.inl.injEq, Prod.mk.injEq] at hs
        obtain ⟨rfl, rfl, rfl, rfl⟩ := hs
        intro γ κ sh H locs lsC hn0 hg hRl hS hL hO
        simp only [Nat.sub_self, Nat.add_zero] at kk
        obtain ⟨ho, hsh⟩ := (show o < h.1.1 ∧ sh o = (k, z) from sd_Oh hO (o, k, z) rfl)
        have he := (sd_wsG (γ := γ) (κ := κ) (sh := sh) ho).trans (by rw [sd_E_obj hsh hk])
        have hrf : sd_rf k b = true := by simp [sd_rf, hTy, ← hty, hc2]
        refine va_get (v := sd_fv γ h k o b) hx hb hts (sd_inT hk) hown (sd_hK0 hKB) hRl.1 o he (sd_clk hk) b hbk (hts _ (sd_in q (by rw [hT]; exact hw) rfl)) (by rw [hT]; exact sd_same hts href) (sd_fsG hbk) hd ?_
        have hv2 : sd_fv γ h k o b = sd_cv γ (vo (hR h o b)) := by simp only [sd_fv, hrf, if_true]; rfl
        rw [hv2]
        exact kk γ κ sh H locs lsC hn0 hg hRl hS hL (sd_Oc (fun r hr => hRl.2.2.2.2 o ho b r (by simpa using hr)) (sd_Ot hO))
      · rename_i hc2
        simp only [am_nx, Option.some.injEq, Sum.inl.injEq, Prod.mk.injEq] at hs
        obtain ⟨rfl, rfl, rfl, rfl⟩ := hs
        intro γ κ sh H locs lsC hn0 hg hRl hS hL hO
        simp only [Nat.sub_self, Nat.add_zero] at kk
        obtain ⟨ho, hsh⟩ := (show o < h.1.1 ∧ sh o = (k, z) from sd_Oh hO (o, k, z) rfl)
        have he := (sd_wsG (γ := γ) (κ := κ) (sh := sh) ho).trans (by rw [sd_E_obj hsh hk])
        have hrf : ¬ sd_rf k b = true := by simp [sd_rf, hTy, ← hty, hc2]
        refine va_get (v := sd_fv γ h k o b) hx hb hts (sd_inT hk) hown (sd_hK0 hKB) hRl.1 o he (sd_clk hk) b hbk (hts _ (sd_in q (by rw [hT]; exact hw) rfl)) (by rw [hT]; exact sd_same hts href) (sd_fsG hbk) hd ?_
        have hv2 : sd_fv γ h k o b = sd_cv γ (vi (hI h o b)) := by simp only [sd_fv, hrf]; rfl
        rw [hv2]
        exact kk γ κ sh H locs lsC hn0 hg hRl hS hL (sd_Oc sd_OKi (sd_Ot hO))
    · cases hs
  · cases hs
theorem sd_put {n k o z : Nat} {ref : String} {r : List AV} {v : AV} {γ : Nat → Nat} {κ : Nat → ClassId} {sh : Nat → Nat × Nat} {H : Heap} {locs : List Loc} {lsC : Array Slot} (C : sd_Cx p s m args meth c j D A) (hd : decode (sd_b j) pc = .ok (.putfield n, 3)) (hw : lw_tbl[q]? = some (.fieldLink (sd_y j).cls n ref (sd_T a b).2.1 (sd_T a b).2.2.1)) (ha : a < 13) (hb2 : b < sd_N a)
    (href : ref = (sd_T a b).1 ∨ (ref = "SeenADayLate$Hunter" ∧ (sd_T a b).1 = "SeenADayLate$Walker" ∧ (sd_T a b).2.1 = "figure" ∧ (sd_T a b).2.2.1 = "I")) (hfin : (sd_T a b).2.2.2 = false ∨ ((sd_y j).name = "<init>" ∧ (sd_T a b).1 = (sd_y j).cls)) (hsub : am_sub k a = true)
    (hRl : sd_Rel D A γ κ sh h s H) (hS : va_S A s.heap H locs) (ho : o < h.1.1) (hsh : sh o = (k, z)) (hn : narrow (sd_ty a b) (sd_cv γ v) = sd_cv γ v) (hfit : fits (sd_ty a b) (sd_cv γ v) = true)
    (hn2 : h2.1.1 = h.1.1) (hE : ∀ i, i ≠ o → sd_E γ κ sh h2 i = sd_E γ κ sh h i) (hv : sd_cv γ v = sd_fv γ h2 k o b) (hvo : ∀ i, i ≠ b → sd_fv γ h2 k o i = sd_fv γ h k o i) (hG : sd_G γ κ sh h2 s)
    (kk : ∀ (H1 : Heap) (locs1 : List Loc), sd_Rel D A γ κ sh h2 s H1 → va_S A s.heap H1 locs1 → W p l e R s m args below meth c H1 locs1 cells slots Q (F0 m (pc + 3) lsC (r.map (sd_cv γ)))) : W p l e R s m args below meth c H locs cells slots Q (F0 m pc lsC (sd_cv γ v :: .ref (γ o) :: r.map (sd_cv γ))) := by
  obtain ⟨hx, hb, hml, hr, hlk, hown, hts, hnm, hKB, hA⟩ := C
  obtain ⟨hk, hbk, hT, hTy⟩ := sd_subT hsub ha hb2
  have he := (sd_wsG (γ := γ) (κ := κ) (sh := sh) ho).trans (by rw [sd_E_obj hsh hk])
  have hset : ∀ (e0 : va_E), e0 = .inr (k, (sd_fs γ h k o).set b (sd_cv γ v)) → (sd_ws γ κ sh h).set o (γ o, e0) = sd_ws γ κ sh h2 := fun e0 he0 => sd_wsS hn2 hE e0 (by rw [he0, sd_E_obj hsh hk, sd_fsS hv hvo])
  have key : ∀ (H1 : Heap) (locs1 : List Loc), va_P D sd_cl ((sd_ws γ κ sh h).set o (γ o, .inr (k, (sd_fs γ h k o).set b (sd_cv γ v)))) H1 → va_D A ((sd_ws γ κ sh h).set o (γ o, .inr (k, (sd_fs γ h k o).set b (sd_cv γ v)))) → va_S A s.heap H1 locs1 → W p l e R s m args below meth c H1 locs1 cells slots Q (F0 m (pc + 3) lsC (r.map (sd_cv γ))) := by
    intro H1 locs1 hP hD hS1
    rw [hset _ rfl] at hP hD
    exact kk H1 locs1 ⟨hP, hD, hG⟩ hS1
  have hlink := hts _ (sd_in q (w := .fieldLink (sd_y j).cls n ref (sd_T k b).2.1 (sd_T k b).2.2.1) (by rw [hT]; exact hw) rfl)
  have hsame : ∀ x, s.fieldFound? (sd_T k b).1 (sd_T k b).2.1 (sd_T k b).2.2.1 = some x → s.fieldFound? ref (sd_T k b).2.1 (sd_T k b).2.2.1 = some x := by rw [hT]; exact sd_same hts href
  cases hfl : (sd_T a b).2.2.2 with
  | false => exact va_put (v := sd_cv γ v) (ty := sd_ty k b) hx hb hts (sd_inT hk) (sd_ty k) (sd_tyo hk) (sd_nm hk) hown (sd_hK0 hKB) hRl.1 hRl.2.1 hS o he (sd_clk hk) b hbk hlink hsame (by rw [hT]; exact hfl) (sd_tyo hk b hbk) (by rw [hTy]; exact hn) (by rw [hTy]; exact hfit) (by rw [sd_fsL]; exact hbk) hd key
  | true =>
    rcases hfin with hf | ⟨hi, hdc⟩
    · rw [hf] at hfl; cases hfl
    · exact va_putF (v := sd_cv γ v) (ty := sd_ty k b) hx hb hts (sd_inT hk) (sd_ty k) (sd_tyo hk) (sd_nm hk) hown (sd_hK0 hKB) hRl.1 hRl.2.1 hS o he (sd_clk hk) b hbk hlink hsame (by rw [hT]; exact hfl) (hnm.trans hi) (by rw [hT]; exact hdc) (sd_tyo hk b hbk) (by rw [hTy]; exact hn) (by rw [hTy]; exact hfit) (by rw [sd_fsL]; exact hbk) hd key
theorem sm_putfield {n : Nat} (C : sd_Cx p s m args meth c j D A) (hv : sd_vb j pc (.putfield n, len, a, b, cq, q) = true) (hs : am_stp pc (.putfield n) len a b cq ls st h = some (.inl (pc2, ls2, st2, h2)))
    (kk : sd_W p l e R s m args below meth c D A n0 γ0 κ0 sh0 Q j (cells + (h2.1.1 - h.1.1)) (slots + (h2.1.2 - h.1.2)) pc2 ls2 st2 h2) : sd_W p l e R s m args below meth c D A n0 γ0 κ0 sh0 Q j cells slots pc ls st h := by
  simp only [sd_vb, Bool.and_eq_true, Bool.or_eq_true, decide_eq_true_eq, beq_iff_eq, Bool.not_eq_true'] at hv
  obtain ⟨hd, ⟨rfl, hf⟩, hfin⟩ := hv
  obtain ⟨ref, hw, ha, hb2, href, hty⟩ := sd_vfI hf
  simp only [am_stp] at hs
  split at hs
  · rename_i x o k z r
    split at hs
    · rename_i hc
      obtain ⟨hsub, hc⟩ := hc
      obtain ⟨hk, hbk, hT, hTy⟩ := sd_subT hsub ha hb2
      simp only [am_nx, Option.some.injEq, Sum.inl.injEq, Prod.mk.injEq] at hs
      obtain ⟨rfl, rfl, rfl, rfl⟩ := hs
      intro γ κ sh H locs lsC hn0 hg hRl hS hL hO
      simp only [hsI, Nat.sub_self, Nat.add_zero] at kk
      obtain ⟨ho, hsh⟩ := (show o < h.1.1 ∧ sh o = (k, z) from sd_Oh (sd_Ot hO) (o, k, z) rfl)
      have hfit : narrow (sd_ty a b) (.int x) = .int x ∧ fits (sd_ty a b) (.int x) = true ∧ sd_rf k b = false := by
        rcases hc with rfl | ⟨rfl, hd2⟩
        · have := sd_tc0 hty
          simp [sd_rf, hTy, this, sd_tc, narrow, fits]
        · have h1 := sd_tc1 hty
          have : x = 0 ∨ x = 1 := by simpa [am_isd] using hd2
          rcases this with rfl | rfl <;> simp [sd_rf, hTy, h1, sd_tc, narrow, fits]
      refine sd_put (v := vi x) (r := r) (h2 := hsI h o b x) C hd hw ha hb2 href hfin hsub hRl hS ho hsh hfit.1 hfit.2.1 rfl (fun i hi => sd_E_ne (fun z => by rw [hI_hsI, if_neg (fun q => hi q.1)]) (fun _ => rfl)) ?_ ?_ (sd_G_I hRl.2.2) ?_
      · simp only [sd_fv, hfit.2.2, sd_cv, hI_hsI]; simp
      · intro i hi
        simp only [sd_fv, hI_hsI, hR_hsI, hi, and_false, if_false]
      · intro H1 locs1 hR1 hS1
        exact kk γ κ sh H1 locs1 lsC hn0 hg hR1 hS1 hL (sd_Ot (sd_Ot hO))
    · cases hs
  · rename_i x o k z r
    split at hs
    · rename_i hc
      obtain ⟨hsub, hc⟩ := hc
      obtain ⟨hk, hbk, hT, hTy⟩ := sd_subT hsub ha hb2
      simp only [am_nx, Option.some.injEq, Sum.inl.injEq, Prod.mk.injEq] at hs
      obtain ⟨rfl, rfl, rfl, rfl⟩ := hs
      intro γ κ sh H locs lsC hn0 hg hRl hS hL hO
      simp only [hsR, Nat.sub_self, Nat.add_zero] at kk
      obtain ⟨ho, hsh⟩ := (show o < h.1.1 ∧ sh o = (k, z) from sd_Oh (sd_Ot hO) (o, k, z) rfl)
      subst hc
      have hrf : sd_rf k b = true := by simp [sd_rf, hTy, ← hty]
      have hfit : narrow (sd_ty a b) (sd_cv γ (vo x)) = sd_cv γ (vo x) ∧ fits (sd_ty a b) (sd_cv γ (vo x)) = true := by
        rcases sd_tc2 hty with ⟨n, h1⟩ | ⟨n, h1⟩ <;> cases x <;> simp [h1, sd_cv, va_rf, narrow, fits]
      refine sd_put (v := vo x) (r := r) (h2 := hsR h o b x) C hd hw ha hb2 href hfin hsub hRl hS ho hsh hfit.1 hfit.2 rfl (fun i hi => sd_E_ne (fun _ => rfl) (fun z => by rw [hR_hsR, if_neg (fun q => hi q.1)])) ?_ ?_ (sd_G_R hRl.2.2 (sd_Oh hO)) ?_
      · simp only [sd_fv, hrf, sd_cv, hR_hsR]; simp
      · intro i hi
        simp only [sd_fv, hI_hsR, hR_hsR, hi, and_false, if_false]
      · intro H1 locs1 hR1 hS1
        exact kk γ κ sh H1 locs1 lsC hn0 hg hR1 hS1 hL (sd_Ot (sd_Ot hO))
    · cases hs
  · cases hs
theorem sm_iaload  (C : sd_Cx p s m args meth c j D A) (hv : sd_vb j pc (.iaload, len, a, b, cq, q) = true) (hs : am_stp pc (.iaload) len a b cq ls st h = some (.inl (pc2, ls2, st2, h2)))
    (kk : sd_W p l e R s m args below meth c D A n0 γ0 κ0 sh0 Q j (cells + (h2.1.1 - h.1.1)) (slots + (h2.1.2 - h.1.2)) pc2 ls2 st2 h2) : sd_W p l e R s m args below meth c D A n0 γ0 κ0 sh0 Q j cells slots pc ls st h := by
  obtain ⟨hx, hb, hml, hr, hlk, hown, hts, hnm, hKB, hA⟩ := C
  simp only [sd_vb, Bool.and_eq_true, decide_eq_true_eq, beq_iff_eq] at hv
  obtain ⟨hd, rfl⟩ := hv
  simp only [am_stp] at hs
  split at hs
  · rename_i i o z r
    split at hs
    · cases hs
    · rename_i hin
      simp only [am_nx, Option.some.injEq, Sum.inl.injEq, Prod.mk.injEq] at hs
      obtain ⟨rfl, rfl, rfl, rfl⟩ := hs
      intro γ κ sh H locs lsC hn0 hg hRl hS hL hO
      simp only [Nat.sub_self, Nat.add_zero] at kk
      obtain ⟨ho, hsh⟩ := (show o < h.1.1 ∧ sh o = (13, z) from sd_Oh (sd_Ot hO) (o, 13, z) rfl)
      have he := (sd_wsG (γ := γ) (κ := κ) (sh := sh) ho).trans (by rw [sd_E_int hsh])
      have hka := hRl.2.2.2.1 o ho (by rw [hsh]; exact Nat.le_refl 13)
      rw [hsh] at hka
      refine va_iald hx hb (sd_hK1 hKB hka) hRl.1 o 0 he rfl hin hd ?_
      exact kk γ κ sh H locs lsC hn0 hg hRl hS hL (sd_Oc sd_OKi (sd_Ot (sd_Ot hO)))
  · cases hs
theorem sm_iastore  (C : sd_Cx p s m args meth c j D A) (hv : sd_vb j pc (.iastore, len, a, b, cq, q) = true) (hs : am_stp pc (.iastore) len a b cq ls st h = some (.inl (pc2, ls2, st2, h2)))
    (kk : sd_W p l e R s m args below meth c D A n0 γ0 κ0 sh0 Q j (cells + (h2.1.1 - h.1.1)) (slots + (h2.1.2 - h.1.2)) pc2 ls2 st2 h2) : sd_W p l e R s m args below meth c D A n0 γ0 κ0 sh0 Q j cells slots pc ls st h := by
  obtain ⟨hx, hb, hml, hr, hlk, hown, hts, hnm, hKB, hA⟩ := C
  simp only [sd_vb, Bool.and_eq_true, decide_eq_true_eq, beq_iff_eq] at hv
  obtain ⟨hd, rfl⟩ := hv
  simp only [am_stp] at hs
  split at hs
  · rename_i x i o z r
    split at hs
    · cases hs
    · rename_i hin
      simp only [am_nx, Option.some.injEq, Sum.inl.injEq, Prod.mk.injEq] at hs
      obtain ⟨rfl, rfl, rfl, rfl⟩ := hs
      intro γ κ sh H locs lsC hn0 hg hRl hS hL hO
      simp only [hsI, Nat.sub_self, Nat.add_zero] at kk
      obtain ⟨ho, hsh⟩ := (show o < h.1.1 ∧ sh o = (13, z) from sd_Oh (sd_Ot (sd_Ot hO)) (o, 13, z) rfl)
      have he := (sd_wsG (γ := γ) (κ := κ) (sh := sh) ho).trans (by rw [sd_E_int hsh])
      have hka := hRl.2.2.2.1 o ho (by rw [hsh]; exact Nat.le_refl 13)
      rw [hsh] at hka
      refine va_iast hx hb (sd_hK1 hKB hka) hRl.1 hRl.2.1 hS o 0 he rfl hin hd (fun H1 locs1 hP hD hS1 => ?_)
      have hset : (sd_ws γ κ sh h).set o (γ o, .inl (κ o, z, .inl (upd (hI h o) i.toNatClampNeg x))) = sd_ws γ κ sh (hsI h o i.toNatClampNeg x) := by
        refine sd_wsS (h := h) (h2 := hsI h o i.toNatClampNeg x) rfl (fun w hw => sd_E_ne (fun y => by rw [hI_hsI, if_neg (fun q => hw q.1)]) (fun _ => rfl)) _ ?_
        rw [sd_E_int hsh]
        have : upd (hI h o) i.toNatClampNeg x = hI (hsI h o i.toNatClampNeg x) o := by
          funext w
          rw [hI_hsI]
          by_cases hw : w = i.toNatClampNeg <;> simp [upd, hw]
        rw [this]
      rw [hset] at hP hD
      exact kk γ κ sh H1 locs1 lsC hn0 hg ⟨hP, hD, sd_G_I hRl.2.2⟩ hS1 hL (sd_Ot (sd_Ot (sd_Ot hO)))
  · cases hs
theorem sm_aaload  (C : sd_Cx p s m args meth c j D A) (hv : sd_vb j pc (.aaload, len, a, b, cq, q) = true) (hs : am_stp pc (.aaload) len a b cq ls st h = some (.inl (pc2, ls2, st2, h2)))
    (kk : sd_W p l e R s m args below meth c D A n0 γ0 κ0 sh0 Q j (cells + (h2.1.1 - h.1.1)) (slots + (h2.1.2 - h.1.2)) pc2 ls2 st2 h2) : sd_W p l e R s m args below meth c D A n0 γ0 κ0 sh0 Q j cells slots pc ls st h := by
  obtain ⟨hx, hb, hml, hr, hlk, hown, hts, hnm, hKB, hA⟩ := C
  simp only [sd_vb, Bool.and_eq_true, decide_eq_true_eq, beq_iff_eq] at hv
  obtain ⟨hd, rfl⟩ := hv
  simp only [am_stp] at hs
  split at hs
  · rename_i i o z r
    split at hs
    · cases hs
    · rename_i hin
      simp only [am_nx, Option.some.injEq, Sum.inl.injEq, Prod.mk.injEq] at hs
      obtain ⟨rfl, rfl, rfl, rfl⟩ := hs
      intro γ κ sh H locs lsC hn0 hg hRl hS hL hO
      simp only [Nat.sub_self, Nat.add_zero] at kk
      obtain ⟨ho, hsh⟩ := (show o < h.1.1 ∧ sh o = (14, z) from sd_Oh (sd_Ot hO) (o, 14, z) rfl)
      have he := (sd_wsG (γ := γ) (κ := κ) (sh := sh) ho).trans (by rw [sd_E_ref hsh (by decide)])
      have hka := hRl.2.2.2.1 o ho (by rw [hsh]; exact Nat.le_of_ble_eq_true rfl)
      rw [hsh] at hka
      have hlt : i.toNatClampNeg < z := Nat.not_le.mp fun q => hin (Or.inr q)
      refine W.aald (v := va_rf (sd_qa γ h o i.toNatClampNeg)) (ty := sd_at 14) hx hb (hRl.1 o _ he) (hka.1 z (fun w => va_rf (sd_qa γ h o w))) rfl (fun q => by cases q) (by show ¬ (i < 0 ∨ (arrV _ _ _).slots.size ≤ _); rw [arrV_size]; exact hin) (by show (arrV _ _ _).slots[_]? = _; rw [arrV_read _ _ hlt]) rfl rfl hd ?_
      exact kk γ κ sh H locs lsC hn0 hg hRl hS hL (sd_Oc (fun r hr => hRl.2.2.2.2 o ho _ r (by simpa using hr)) (sd_Ot (sd_Ot hO)))
  · rename_i i o z r
    split at hs
    · cases hs
    · rename_i hin
      simp only [am_nx, Option.some.injEq, Sum.inl.injEq, Prod.mk.injEq] at hs
      obtain ⟨rfl, rfl, rfl, rfl⟩ := hs
      intro γ κ sh H locs lsC hn0 hg hRl hS hL hO
      simp only [Nat.sub_self, Nat.add_zero] at kk
      obtain ⟨ho, hsh⟩ := (show o < h.1.1 ∧ sh o = (15, z) from sd_Oh (sd_Ot hO) (o, 15, z) rfl)
      have he := (sd_wsG (γ := γ) (κ := κ) (sh := sh) ho).trans (by rw [sd_E_ref hsh (by decide)])
      have hka := hRl.2.2.2.1 o ho (by rw [hsh]; exact Nat.le_of_ble_eq_true rfl)
      rw [hsh] at hka
      have hlt : i.toNatClampNeg < z := Nat.not_le.mp fun q => hin (Or.inr q)
      refine W.aald (v := va_rf (sd_qa γ h o i.toNatClampNeg)) (ty := sd_at 15) hx hb (hRl.1 o _ he) (hka.1 z (fun w => va_rf (sd_qa γ h o w))) rfl (fun q => by cases q) (by show ¬ (i < 0 ∨ (arrV _ _ _).slots.size ≤ _); rw [arrV_size]; exact hin) (by show (arrV _ _ _).slots[_]? = _; rw [arrV_read _ _ hlt]) rfl rfl hd ?_
      exact kk γ κ sh H locs lsC hn0 hg hRl hS hL (sd_Oc (fun r hr => hRl.2.2.2.2 o ho _ r (by simpa using hr)) (sd_Ot (sd_Ot hO)))
  · cases hs
theorem sm_arraylength  (C : sd_Cx p s m args meth c j D A) (hv : sd_vb j pc (.arraylength, len, a, b, cq, q) = true) (hs : am_stp pc (.arraylength) len a b cq ls st h = some (.inl (pc2, ls2, st2, h2)))
    (kk : sd_W p l e R s m args below meth c D A n0 γ0 κ0 sh0 Q j (cells + (h2.1.1 - h.1.1)) (slots + (h2.1.2 - h.1.2)) pc2 ls2 st2 h2) : sd_W p l e R s m args below meth c D A n0 γ0 κ0 sh0 Q j cells slots pc ls st h := by
  obtain ⟨hx, hb, hml, hr, hlk, hown, hts, hnm, hKB, hA⟩ := C
  simp only [sd_vb, Bool.and_eq_true, decide_eq_true_eq, beq_iff_eq] at hv
  obtain ⟨hd, rfl⟩ := hv
  simp only [am_stp] at hs
  split at hs
  · rename_i o z r
    simp only [am_nx, Option.some.injEq, Sum.inl.injEq, Prod.mk.injEq] at hs
    obtain ⟨rfl, rfl, rfl, rfl⟩ := hs
    intro γ κ sh H locs lsC hn0 hg hRl hS hL hO
    simp only [Nat.sub_self, Nat.add_zero] at kk
    obtain ⟨ho, hsh⟩ := (show o < h.1.1 ∧ sh o = (13, z) from sd_Oh hO (o, 13, z) rfl)
    have he := (sd_wsG (γ := γ) (κ := κ) (sh := sh) ho).trans (by rw [sd_E_int hsh])
    have hka := hRl.2.2.2.1 o ho (by rw [hsh]; exact Nat.le_of_ble_eq_true rfl)
    rw [hsh] at hka
    refine va_alen hx hb (sd_hK1 hKB hka) hRl.1 o 0 he rfl rfl hd ?_
    exact kk γ κ sh H locs lsC hn0 hg hRl hS hL (sd_Oc sd_OKi (sd_Ot hO))
  · rename_i o z r
    simp only [am_nx, Option.some.injEq, Sum.inl.injEq, Prod.mk.injEq] at hs
    obtain ⟨rfl, rfl, rfl, rfl⟩ := hs
    intro γ κ sh H locs lsC hn0 hg hRl hS hL hO
    simp only [Nat.sub_self, Nat.add_zero] at kk
    obtain ⟨ho, hsh⟩ := (show o < h.1.1 ∧ sh o = (14, z) from sd_Oh hO (o, 14, z) rfl)
    have he := (sd_wsG (γ := γ) (κ := κ) (sh := sh) ho).trans (by rw [sd_E_ref hsh (by decide)])
    have hka := hRl.2.2.2.1 o ho (by rw [hsh]; exact Nat.le_of_ble_eq_true rfl)
    rw [hsh] at hka
    refine va_alen hx hb (sd_hK1 hKB hka) hRl.1 o 0 he rfl rfl hd ?_
    exact kk γ κ sh H locs lsC hn0 hg hRl hS hL (sd_Oc sd_OKi (sd_Ot hO))
  · rename_i o z r
    simp only [am_nx, Option.some.injEq, Sum.inl.injEq, Prod.mk.injEq] at hs
    obtain ⟨rfl, rfl, rfl, rfl⟩ := hs
    intro γ κ sh H locs lsC hn0 hg hRl hS hL hO
    simp only [Nat.sub_self, Nat.add_zero] at kk
    obtain ⟨ho, hsh⟩ := (show o < h.1.1 ∧ sh o = (15, z) from sd_Oh hO (o, 15, z) rfl)
    have he := (sd_wsG (γ := γ) (κ := κ) (sh := sh) ho).trans (by rw [sd_E_ref hsh (by decide)])
    have hka := hRl.2.2.2.1 o ho (by rw [hsh]; exact Nat.le_of_ble_eq_true rfl)
    rw [hsh] at hka
    refine va_alen hx hb (sd_hK1 hKB hka) hRl.1 o 0 he rfl rfl hd ?_
    exact kk γ κ sh H locs lsC hn0 hg hRl hS hL (sd_Oc sd_OKi (sd_Ot hO))
  · cases hs
end SIM
