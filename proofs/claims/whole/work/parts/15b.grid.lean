section MMR
variable {p : Program} {l : Launch} {e : Env} {R : Room} {s : State} {m : MethodId} {args : Array Value} {below : List Frame} {meth : Method} {c : Code} {T : State} {locs : List Loc} {cells slots : Nat}
theorem mm_step (X : Stand p l e R s m args below meth c T locs cells slots) (hexec : p.tables.exec = Jvm.exec) {own : String} {index : Nat} (hown : s.vm.findClass own = some m.cls) (hclink : (Cond.classLink own index "[[I").before args s = true) (hover : (Cond.arrayOver (.array .int)).before #[] s = true) (harr : (Cond.arrayClass .int).before args s = true)
    {g : JFrame} (hg : g.method = m) (hdg : decode c.code g.pc = .ok (.multianewarray index 2, 4)) {n k : Int32} {rest : List Value} (hstack : g.stack = .int k :: .int n :: rest) (hn : ¬ n < 0) (hk : ¬ k < 0) (hb1 : n.toNatClampNeg < 1000) (hb2 : k.toNatClampNeg < 1000)
    (hcells : cells + (1 + n.toNatClampNeg) ≤ R.cells) (hslots : slots + (n.toNatClampNeg + n.toNatClampNeg * k.toNatClampNeg) ≤ R.slots) :
    ∃ (vm₁ : Vm) (cA cC : ClassId), (ArrOfT s cA (.array .int) ∧ va_RA s cA (.array .int)) ∧ (ArrOfT s cC .int ∧ va_RA s cC .int) ∧
      Stand p l e R s m args below meth c (mm_S (T.setVm vm₁) cA cC n.toNatClampNeg k.toNatClampNeg n.toNatClampNeg) (locs ++ (List.range n.toNatClampNeg).map fun j => ⟨T.heap.size, j⟩) (cells + 1 + n.toNatClampNeg) (slots + n.toNatClampNeg + n.toNatClampNeg * k.toNatClampNeg) ∧
      ∀ target, Steps p.tables e below ((mm_S (T.setVm vm₁) cA cC n.toNatClampNeg k.toNatClampNeg n.toNatClampNeg).setTop { g with pc := g.pc + 4, stack := .ref T.heap.size :: rest }) target → Steps p.tables e below (T.setTop g) target := by
  subst hg
  have hpl : e.platform.magicAccessors = ({} : Platform).magicAccessors := by rw [X.admits.platform]
  obtain ⟨cC, cA, kA, hcomp, -, hkA, hkindA, hnameA⟩ := arrayOverA_spec hover
  obtain ⟨cC', kC, cc, hcomp', hkC, hkindC⟩ := Cond.arrayClass_spec harr
  have e1 : cC' = cC := Option.some.inj (hcomp'.symm.trans hcomp)
  subst e1
  obtain ⟨c0, hfc0, hcl⟩ := Cond.classLink_spec hown hclink e.platform hpl
  have e2 : cA = c0 := Option.some.inj (hnameA.symm.trans hfc0)
  subst e2
  obtain ⟨hg₁, hwarm₁, hready₁⟩ := State.classEntry (e := e) X.warmed hcl
  generalize T.vm.noted g.method.cls index (.cls cA) = vm₁ at hg₁ hwarm₁ hready₁
  have hal : s.vm.Alike vm₁ := hwarm₁.alike
  obtain ⟨kA₁, hkA₁, heA⟩ := hal.2.2 _ _ hkA
  obtain ⟨kC₁, hkC₁, heC⟩ := hal.2.2 _ _ hkC
  have hkindA₁ : kA₁.kind = .array cC' (.array .int) := by rw [heA]; exact hkindA
  have hkindC₁ : kC₁.kind = .array cc .int := by rw [heC]; exact hkindC
  have X₁ := X.noted hwarm₁
  obtain ⟨hr1, hr2⟩ := X.roomAbove hcells hslots
  refine ⟨vm₁, cA, cC', ⟨fun N z => ⟨(fun q h => by cases h), kA, hkA, cC', hkindA⟩, hnameA⟩, ⟨fun N z => ⟨(fun q h => by cases h), kC, hkC, cc, hkindC⟩, hcomp'⟩, mm_stand X₁ cA cC' _ _ _, fun target hrest => ?_⟩
  have hl1 : ¬ n.toNatClampNeg > e.platform.arrayLengthLimit := by rw [Launch.admits_arrayLengthLimit X.admits]; omega
  have hh1 : ¬ n.toNatClampNeg * componentBytes (.array .int) > e.platform.maxHeapBytes := by
    rw [Launch.admits_maxHeapBytes X.admits]; show ¬ n.toNatClampNeg * 4 > 536870912; omega
  have hl2 : ¬ k.toNatClampNeg > e.platform.arrayLengthLimit := by rw [Launch.admits_arrayLengthLimit X.admits]; omega
  have hh2 : ¬ k.toNatClampNeg * componentBytes .int > e.platform.maxHeapBytes := by
    rw [Launch.admits_maxHeapBytes X.admits]; show ¬ k.toNatClampNeg * 4 > 536870912; omega
  jvm_step X.here [hexec, hdg]
  simp only [multianewarray.sem, wp_bind', W.resolveClassAt_links (State.method?_setTop g X.here.top) hg₁]
  rw [W.popN, if_neg (by decide)]
  refine ⟨g, State.topJava?_setTop' (s := T.setVm vm₁) g X.here.top, [.int n, .int k], rest, rfl, hstack, ?_⟩
  simp only [List.mapM_cons, List.mapM_nil, wp_bind', wp_pure']
  refine mm_two (kA := kA₁) (kC := kC₁) (by exact hkA₁) hkindA₁ (by exact hkC₁) hkindC₁ hn hk hl1 hh1 hl2 hh2 (by exact hr1) (by exact hr2) (fun d' acts' => ?_)
  have XF := mm_stand X₁ cA cC' n.toNatClampNeg k.toNatClampNeg n.toNatClampNeg
  have eS : ((T.setTop g).setVm vm₁).setTop { g with stack := rest } = (T.setVm vm₁).setTop { g with stack := rest } := by
    show ((T.setVm vm₁).setTop g).setTop _ = _
    rw [State.setTop_setTop]
  rw [eS, mm_top]
  simp only [wp_bind', W.mark, W.pushRef, State.topJava?_setTop' _ XF.here.top, Option.some.injEq, exists_eq_left', State.setTop_setTop, State.heap_setTop]
  intro acts
  simp [jvm, XF.here.top]
  exact hrest
end MMR
theorem hI_hmm {h : Hp} {n k i j : Nat} : hI (hmm h n k) i j = if h.1.1 ≤ i then 0 else hI h i j := rfl
theorem hR_hmm {h : Hp} {n k i j : Nat} : hR (hmm h n k) i j = if h.1.1 ≤ i then (if i = h.1.1 ∧ j < n then some (h.1.1 + 1 + j, 13, k) else none) else hR h i j := rfl
def mm_g (γ : Nat → Nat) (n a0 : Nat) : Nat → Nat := fun i => if i < n then γ i else a0 + (i - n)
def mm_k (κ : Nat → ClassId) (n : Nat) (cA cC : ClassId) : Nat → ClassId := fun i => if i < n then κ i else if i = n then cA else cC
def mm_h (sh : Nat → Nat × Nat) (n N K : Nat) : Nat → Nat × Nat := fun i => if i < n then sh i else if i = n then (15, N) else (13, K)
theorem mm_Rel {D : va_G} {A : Nat → Prop} {γ : Nat → Nat} {κ : Nat → ClassId} {sh : Nat → Nat × Nat} {h : Hp} {s : State} {H H1 : Heap} {N K : Nat} {cA cC : ClassId} (hRl : sd_Rel D A γ κ sh h s H) (hA : ∀ q, H.size ≤ q → A q)
    (kA : ArrOfT s cA (.array .int) ∧ va_RA s cA (.array .int)) (kC : ArrOfT s cC .int ∧ va_RA s cC .int) (f1 : H1.size = H.size + 1 + N) (f2 : H1[H.size]? = some (arrV cA N (mm_f H.size N))) (f5 : ∀ x, x < H.size → H1[x]? = H[x]?) (f6 : ∀ j, j < N → H1[H.size + 1 + j]? = some (arrV cC K (fun _ => .int 0))) :
    sd_Rel D A (mm_g γ h.1.1 H.size) (mm_k κ h.1.1 cA cC) (mm_h sh h.1.1 N K) (hmm h N K) s H1 := by
  have hn : (hmm h N K).1.1 = h.1.1 + 1 + N := rfl
  have hlt : ∀ i, i < h.1.1 → γ i < H.size := fun i hi => (hRl.1 i _ (sd_wsG hi)).lt
  have hold : ∀ i, i < h.1.1 → sd_E (mm_g γ h.1.1 H.size) (mm_k κ h.1.1 cA cC) (mm_h sh h.1.1 N K) (hmm h N K) i = sd_E γ κ sh h i := fun i hi =>
    sd_E_ext hRl.2.2 hi (fun x hx => if_pos hx) (if_pos hi) (if_pos hi) (by funext z; rw [hI_hmm, if_neg (by omega)]) (by funext z; rw [hR_hmm, if_neg (by omega)])
  have hget : ∀ (i : Nat) (q : Nat × va_E), (sd_ws (mm_g γ h.1.1 H.size) (mm_k κ h.1.1 cA cC) (mm_h sh h.1.1 N K) (hmm h N K))[i]? = some q → i < h.1.1 + 1 + N ∧ q = (mm_g γ h.1.1 H.size i, sd_E (mm_g γ h.1.1 H.size) (mm_k κ h.1.1 cA cC) (mm_h sh h.1.1 N K) (hmm h N K) i) := by
    intro i q hq
    have hl := (List.getElem?_eq_some_iff.mp hq).1
    rw [sd_wsL, hn] at hl
    rw [sd_wsG (by rw [hn]; exact hl)] at hq
    exact ⟨hl, (Option.some.inj hq).symm⟩
  refine ⟨fun i q hq => ?_, ⟨fun i j x y hi hj hxy => ?_, fun i q hq => ?_⟩, fun i hi => ?_, fun i hi hk => ?_, fun i hi z r hr => ?_⟩
  · obtain ⟨hl, rfl⟩ := hget i q hq
    by_cases h1 : i < h.1.1
    · rw [hold i h1]
      have : mm_g γ h.1.1 H.size i = γ i := if_pos h1
      rw [this]
      exact (hRl.1 i _ (sd_wsG h1)).kept (f5 _ (hlt i h1))
    · by_cases h2 : i = h.1.1
      · subst h2
        have e1 : mm_g γ h.1.1 H.size h.1.1 = H.size := by simp [mm_g]
        have e2 : mm_h sh h.1.1 N K h.1.1 = (15, N) := by simp [mm_h]
        have e3 : mm_k κ h.1.1 cA cC h.1.1 = cA := by simp [mm_k]
        rw [e1, sd_E_ref e2 (by decide), e3]
        show H1[H.size]? = some (vp_cell _ _)
        rw [vp_cell_q, f2]
        congr 2
        funext j
        simp only [mm_f, sd_qa, hR_hmm, Nat.le_refl, if_true, true_and]
        by_cases hj : j < N
        · simp only [hj, if_true, Option.map_some, va_rf]
          have : mm_g γ h.1.1 H.size (h.1.1 + 1 + j) = H.size + 1 + j := by
            simp only [mm_g]
            rw [if_neg (by omega)]
            omega
          rw [this]
        · simp only [hj, if_false, Option.map_none, va_rf]
      · have e1 : mm_g γ h.1.1 H.size i = H.size + 1 + (i - h.1.1 - 1) := by
          simp only [mm_g]
          rw [if_neg h1]
          omega
        have e2 : mm_h sh h.1.1 N K i = (13, K) := by simp [mm_h, h1, h2]
        have e3 : mm_k κ h.1.1 cA cC i = cC := by simp [mm_k, h1, h2]
        rw [e1, sd_E_int e2, e3]
        show H1[H.size + 1 + (i - h.1.1 - 1)]? = some (vp_cell _ _)
        rw [vp_cell_i, f6 _ (by omega)]
        congr 2
        funext j
        rw [hI_hmm, if_pos (by omega)]
  · obtain ⟨hl, rfl⟩ := hget i x hi
    obtain ⟨hl2, rfl⟩ := hget j y hj
    have hxy : mm_g γ h.1.1 H.size i = mm_g γ h.1.1 H.size j := hxy
    simp only [mm_g] at hxy
    by_cases h1 : i < h.1.1 <;> by_cases h2 : j < h.1.1
    · rw [if_pos h1, if_pos h2] at hxy
      exact hRl.2.1.1 i j _ _ (sd_wsG h1) (sd_wsG h2) hxy
    · rw [if_pos h1, if_neg h2] at hxy
      have := hlt i h1
      omega
    · rw [if_neg h1, if_pos h2] at hxy
      have := hlt j h2
      omega
    · rw [if_neg h1, if_neg h2] at hxy
      omega
  · obtain ⟨hl, rfl⟩ := hget i q hq
    show A (mm_g γ h.1.1 H.size i)
    simp only [mm_g]
    by_cases h1 : i < h.1.1
    · rw [if_pos h1]; exact hRl.2.1.2 i _ (sd_wsG h1)
    · rw [if_neg h1]; exact hA _ (by omega)
  · by_cases h1 : i < h.1.1
    · rw [show mm_h sh h.1.1 N K i = sh i from if_pos h1]; exact hRl.2.2.1 i h1
    · simp only [mm_h, if_neg h1]
      split <;> exact Nat.le_of_ble_eq_true rfl
  · by_cases h1 : i < h.1.1
    · rw [show mm_h sh h.1.1 N K i = sh i from if_pos h1] at hk ⊢
      rw [show mm_k κ h.1.1 cA cC i = κ i from if_pos h1]
      exact hRl.2.2.2.1 i h1 hk
    · by_cases h2 : i = h.1.1
      · simp only [mm_h, mm_k, if_neg h1, if_pos h2]; exact kA
      · simp only [mm_h, mm_k, if_neg h1, if_neg h2]; exact kC
  · have hi : i < h.1.1 + 1 + N := hi
    rw [hR_hmm] at hr
    by_cases h1 : h.1.1 ≤ i
    · rw [if_pos h1] at hr
      split at hr
      · rename_i h2
        cases hr
        refine ⟨by show h.1.1 + 1 + z < h.1.1 + 1 + N; omega, ?_⟩
        show mm_h sh h.1.1 N K (h.1.1 + 1 + z) = (13, K)
        simp only [mm_h]
        rw [if_neg (by omega), if_neg (by omega)]
      · cases hr
    · rw [if_neg h1] at hr
      obtain ⟨g1, g2⟩ := hRl.2.2.2.2 i (by omega) z r hr
      refine ⟨by show r.1 < h.1.1 + 1 + N; omega, ?_⟩
      rw [show mm_h sh h.1.1 N K r.1 = sh r.1 from if_pos g1]
      exact g2
section SIM
variable {p : Program} {l : Launch} {e : Env} {R : Room} {s : State} {m : MethodId} {args : Array Value} {below : List Frame} {meth : Method} {c : Code} {Q : State → Prop} {D : va_G} {A : Nat → Prop} {n0 : Nat} {γ0 : Nat → Nat} {κ0 : Nat → ClassId} {sh0 : Nat → Nat × Nat} {j cells slots pc pc2 len a b cq q : Nat} {ls ls2 : Lc} {st st2 : List AV} {h h2 : Hp}
theorem sm_mna {n k : Nat} (C : sd_Cx p s m args meth c j D A) (hv : sd_vb j pc (.multianewarray n k, len, a, b, cq, q) = true) (hs : am_stp pc (.multianewarray n k) len a b cq ls st h = some (.inl (pc2, ls2, st2, h2)))
    (kk : sd_W p l e R s m args below meth c D A n0 γ0 κ0 sh0 Q j (cells + (h2.1.1 - h.1.1)) (slots + (h2.1.2 - h.1.2)) pc2 ls2 st2 h2) (hc1 : cells + (h2.1.1 - h.1.1) ≤ R.cells) (hc2 : slots + (h2.1.2 - h.1.2) ≤ R.slots) : sd_W p l e R s m args below meth c D A n0 γ0 κ0 sh0 Q j cells slots pc ls st h := by
  obtain ⟨hx, hb, hml, hr, hlk, hown, hts, hnm, hKB, hA⟩ := C
  simp only [sd_vb, Bool.and_eq_true, decide_eq_true_eq, beq_iff_eq] at hv
  obtain ⟨hd, ⟨rfl, rfl⟩, hq⟩ := hv
  simp only [am_stp] at hs
  split at hs
  · rename_i k n r
    split at hs
    · cases hs
    · rename_i hin
      simp only [am_nx, Option.some.injEq, Sum.inl.injEq, Prod.mk.injEq] at hs
      obtain ⟨rfl, rfl, rfl, rfl⟩ := hs
      intro γ κ sh H locs lsC hn0 hg hRl hS hL hO
      have hk0 : ¬ k < 0 := fun z => hin (Or.inl z)
      have hk1 : k.toNatClampNeg < 1000 := Nat.not_le.mp (fun z => hin (Or.inr (Or.inl z)))
      have hn0' : ¬ n < 0 := fun z => hin (Or.inr (Or.inr (Or.inl z)))
      have hn1 : n.toNatClampNeg < 1000 := Nat.not_le.mp (fun z => hin (Or.inr (Or.inr (Or.inr z))))
      have e1 : (hmm h n.toNatClampNeg k.toNatClampNeg).1.1 - h.1.1 = 1 + n.toNatClampNeg := by show h.1.1 + 1 + n.toNatClampNeg - h.1.1 = _; omega
      have e2 : (hmm h n.toNatClampNeg k.toNatClampNeg).1.2 - h.1.2 = n.toNatClampNeg + n.toNatClampNeg * k.toNatClampNeg := by show h.1.2 + n.toNatClampNeg + n.toNatClampNeg * k.toNatClampNeg - h.1.2 = _; omega
      rw [e1] at hc1; rw [e2] at hc2; rw [e1, e2] at kk
      intro T hT X
      subst hT
      obtain ⟨vm₁, cA, cC, kA, kC, X', step⟩ := mm_step X hx hown (hts _ (sd_in q hq rfl)) hKB.2.2.1 (hts _ (sd_in 155 (by decide +kernel) rfl)) (g := F0 m pc lsC (List.map (sd_cv γ) (vi k :: vi n :: r))) rfl (by rw [hb]; exact hd) rfl hn0' hk0 hn1 hk1 hc1 hc2
      obtain ⟨f1, f2, -, -, f5, f6⟩ := mm_facts (T.setVm vm₁) cA cC n.toNatClampNeg k.toNatClampNeg n.toNatClampNeg
      have hR1 := mm_Rel hRl (fun q hq => hA q (Nat.le_trans hS.1 hq)) kA kC f1 f2 f5 f6
      have hS1 : va_S A s.heap (mm_S (T.setVm vm₁) cA cC n.toNatClampNeg k.toNatClampNeg n.toNatClampNeg).heap (locs ++ (List.range n.toNatClampNeg).map fun j => ⟨T.heap.size, j⟩) := by
        refine ⟨?_, fun x h1 h2 => ?_, fun y hy => ?_⟩
        · rw [f1]
          have := hS.1
          show s.heap.size ≤ T.heap.size + 1 + _
          omega
        · rw [f5 x (Nat.lt_of_lt_of_le h1 hS.1)]
          exact hS.2.1 x h1 h2
        · rcases List.mem_append.mp hy with hy | hy
          · exact hS.2.2 y hy
          · obtain ⟨z, -, rfl⟩ := List.mem_map.mp hy
            exact hA _ hS.1
      have hgg : ∀ i, i < h.1.1 → mm_g γ h.1.1 T.heap.size i = γ i := fun i hi => if_pos hi
      have hss : ∀ i, i < h.1.1 → mm_h sh h.1.1 n.toNatClampNeg k.toNatClampNeg i = sh i := fun i hi => if_pos hi
      have hle : h.1.1 ≤ (hmm h n.toNatClampNeg k.toNatClampNeg).1.1 := by show h.1.1 ≤ h.1.1 + 1 + _; omega
      have hok : ∀ v ∈ r, sd_OK (mm_h sh h.1.1 n.toNatClampNeg k.toNatClampNeg) (hmm h n.toNatClampNeg k.toNatClampNeg).1.1 v := fun v hv => sd_OK_ext hle hss (sd_Ot (sd_Ot hO) v hv)
      have := kk (mm_g γ h.1.1 T.heap.size) (mm_k κ h.1.1 cA cC) (mm_h sh h.1.1 n.toNatClampNeg k.toNatClampNeg) _ _ lsC (by omega)
        (fun i hi => by rw [hgg i (by omega), hss i (by omega), show mm_k κ h.1.1 cA cC i = κ i from if_pos (by omega)]; exact hg i hi) hR1 hS1 (sd_LR_ext hle hgg hss hL)
        (sd_Oc (fun r hr => by cases hr; exact ⟨by show h.1.1 < h.1.1 + 1 + _; omega, by simp [mm_h]⟩) hok) _ rfl (by rw [Nat.add_assoc, Nat.add_assoc] at X'; exact X')
      obtain ⟨t, a1, b1⟩ := this
      refine ⟨t, step t ?_, b1⟩
      rw [List.map_cons, sd_map_ext hgg (sd_Ot (sd_Ot hO))] at a1
      have e3 : sd_cv (mm_g γ h.1.1 T.heap.size) (vr (h.1.1, 15, n.toNatClampNeg)) = .ref T.heap.size := by simp [sd_cv, va_rf, mm_g]
      rw [e3] at a1
      exact a1
  · cases hs
end SIM
