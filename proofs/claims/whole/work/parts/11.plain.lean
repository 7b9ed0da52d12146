def sd_KS (A : Nat → Prop) (s : State) : Prop := ∃ aK aV : Nat, (vk_S 1 [5] [[110, 101, 115, 119, 45]] (fun _ => aK) (fun _ => aV) A s s.heap ∧ va_Z "java/lang/String" "COMPACT_STRINGS" "Z" (.int 1) A s s.heap) ∧ vk_R "SeenADayLate$Letters" 68 "nesw-" aK s
/-! THE SIMULATION, plain instructions -/
/-- what holds of the launch's tables all along -/
def sd_KB (D : va_G) (A : Nat → Prop) (s : State) : Prop := (∀ (c : Nat) (q : vw_C), sd_cl[c]? = some q → u_Kn s q.1 q.2.1 q.2.2 (D.1 c) (D.2 c)) ∧ va_AO "SeenADayLate$Walker" s ∧ (Cond.arrayOver (.array .int)).before #[] s = true ∧ sd_KS A s ∧ (∀ k : Nat, (k = 1 ∨ k = 2 ∨ k = 3 ∨ k = 6 ∨ k = 8) → va_Nw (.castable (sd_R k) "SeenADayLate$Walker") s)
def sd_Cx (p : Program) (s : State) (m : MethodId) (args : Array Value) (meth : Method) (c : Code) (j : Nat) (D : va_G) (A : Nat → Prop) : Prop :=
  p.tables.exec = Jvm.exec ∧ c.code = sd_b j ∧ c.maxLocals = am_mx j ∧ meth.sig.returnType = sd_rt j ∧ meth.locks = false ∧ s.vm.findClass (sd_y j).cls = some m.cls ∧ (∀ w ∈ sd_tb, w.before args s = true) ∧ meth.name = (sd_y j).name ∧ sd_KB D A s ∧ (∀ q, s.heap.size ≤ q → A q)
def sd_W (p : Program) (l : Launch) (e : Env) (R : Room) (s : State) (m : MethodId) (args : Array Value) (below : List Frame) (meth : Method) (c : Code) (D : va_G) (A : Nat → Prop) (n0 : Nat) (γ0 : Nat → Nat) (κ0 : Nat → ClassId) (sh0 : Nat → Nat × Nat) (Q : State → Prop) (j cells slots pc : Nat) (ls : Lc) (st : List AV) (h : Hp) : Prop :=
  ∀ (γ : Nat → Nat) (κ : Nat → ClassId) (sh : Nat → Nat × Nat) (H : Heap) (locs : List Loc) (lsC : Array Slot), n0 ≤ h.1.1 → (∀ i, i < n0 → γ i = γ0 i ∧ κ i = κ0 i ∧ sh i = sh0 i) → sd_Rel D A γ κ sh h s H → va_S A s.heap H locs → sd_LR γ sh h.1.1 ls lsC (am_mx j) → (∀ v ∈ st, sd_OK sh h.1.1 v) →
    W p l e R s m args below meth c H locs cells slots Q (F0 m pc lsC (st.map (sd_cv γ)))
theorem sd_Oc {sh : Nat → Nat × Nat} {n : Nat} {v : AV} {r : List AV} (h1 : sd_OK sh n v) (h2 : ∀ w ∈ r, sd_OK sh n w) : ∀ w ∈ v :: r, sd_OK sh n w := fun w hw => (List.mem_cons.mp hw).elim (fun q => q ▸ h1) (h2 w)
theorem sd_Ot {sh : Nat → Nat × Nat} {n : Nat} {v : AV} {r : List AV} (h : ∀ w ∈ v :: r, sd_OK sh n w) : ∀ w ∈ r, sd_OK sh n w := fun w hw => h w (List.mem_cons_of_mem _ hw)
theorem sd_Oh {sh : Nat → Nat × Nat} {n : Nat} {v : AV} {r : List AV} (h : ∀ w ∈ v :: r, sd_OK sh n w) : sd_OK sh n v := h v List.mem_cons_self
theorem sd_s1lt {ls l2 : Lc} {i : Nat} {v : AV} (h : am_s1 ls i v = some l2) : i < ls.length := by
  unfold am_s1 at h
  split at h
  · rename_i q; exact q.1
  · cases h
theorem sd_s2lt {ls l2 : Lc} {i : Nat} {v : AV} (h : am_s2 ls i v = some l2) : i + 1 < ls.length := by
  unfold am_s2 at h
  split at h
  · rename_i q; exact q.1
  · cases h
section SIM
variable {p : Program} {l : Launch} {e : Env} {R : Room} {s : State} {m : MethodId} {args : Array Value} {below : List Frame} {meth : Method} {c : Code} {Q : State → Prop} {D : va_G} {A : Nat → Prop} {n0 : Nat} {γ0 : Nat → Nat} {κ0 : Nat → ClassId} {sh0 : Nat → Nat × Nat} {j cells slots pc pc2 len a b cq q : Nat} {ls ls2 : Lc} {st st2 : List AV} {h h2 : Hp}
theorem sm_aconst_null  (C : sd_Cx p s m args meth c j D A) (hv : sd_vb j pc (.aconst_null, len, a, b, cq, q) = true) (hs : am_stp pc (.aconst_null) len a b cq ls st h = some (.inl (pc2, ls2, st2, h2)))
    (kk : sd_W p l e R s m args below meth c D A n0 γ0 κ0 sh0 Q j (cells + (h2.1.1 - h.1.1)) (slots + (h2.1.2 - h.1.2)) pc2 ls2 st2 h2) : sd_W p l e R s m args below meth c D A n0 γ0 κ0 sh0 Q j cells slots pc ls st h := by
  obtain ⟨hx, hb, hml, hr, hlk, hown, hts, hnm, hKB, hA⟩ := C
  simp only [sd_vb, Bool.and_eq_true, decide_eq_true_eq, beq_iff_eq] at hv
  obtain ⟨hd, rfl⟩ := hv
  simp only [am_stp] at hs
  simp only [am_nx, Option.some.injEq, Sum.inl.injEq, Prod.mk.injEq] at hs
  obtain ⟨rfl, rfl, rfl, rfl⟩ := hs
  simp only [Nat.sub_self, Nat.add_zero] at kk
  intro γ κ sh H locs lsC hn0 hg hR hS hL hO
  refine lv_null hx hb hd ?_
  exact kk γ κ sh H locs lsC hn0 hg hR hS hL (sd_Oc sd_OKn hO)
theorem sm_iconst {n : Int} (C : sd_Cx p s m args meth c j D A) (hv : sd_vb j pc (.iconst n, len, a, b, cq, q) = true) (hs : am_stp pc (.iconst n) len a b cq ls st h = some (.inl (pc2, ls2, st2, h2)))
    (kk : sd_W p l e R s m args below meth c D A n0 γ0 κ0 sh0 Q j (cells + (h2.1.1 - h.1.1)) (slots + (h2.1.2 - h.1.2)) pc2 ls2 st2 h2) : sd_W p l e R s m args below meth c D A n0 γ0 κ0 sh0 Q j cells slots pc ls st h := by
  obtain ⟨hx, hb, hml, hr, hlk, hown, hts, hnm, hKB, hA⟩ := C
  simp only [sd_vb, Bool.and_eq_true, decide_eq_true_eq, beq_iff_eq] at hv
  obtain ⟨hd, rfl⟩ := hv
  simp only [am_stp] at hs
  simp only [am_nx, Option.some.injEq, Sum.inl.injEq, Prod.mk.injEq] at hs
  obtain ⟨rfl, rfl, rfl, rfl⟩ := hs
  simp only [Nat.sub_self, Nat.add_zero] at kk
  intro γ κ sh H locs lsC hn0 hg hR hS hL hO
  refine lv_iconst hx hb hd rfl ?_
  exact kk γ κ sh H locs lsC hn0 hg hR hS hL (sd_Oc sd_OKi hO)
theorem sm_bipush {n : Int} (C : sd_Cx p s m args meth c j D A) (hv : sd_vb j pc (.bipush n, len, a, b, cq, q) = true) (hs : am_stp pc (.bipush n) len a b cq ls st h = some (.inl (pc2, ls2, st2, h2)))
    (kk : sd_W p l e R s m args below meth c D A n0 γ0 κ0 sh0 Q j (cells + (h2.1.1 - h.1.1)) (slots + (h2.1.2 - h.1.2)) pc2 ls2 st2 h2) : sd_W p l e R s m args below meth c D A n0 γ0 κ0 sh0 Q j cells slots pc ls st h := by
  obtain ⟨hx, hb, hml, hr, hlk, hown, hts, hnm, hKB, hA⟩ := C
  simp only [sd_vb, Bool.and_eq_true, decide_eq_true_eq, beq_iff_eq] at hv
  obtain ⟨hd, rfl⟩ := hv
  simp only [am_stp] at hs
  simp only [am_nx, Option.some.injEq, Sum.inl.injEq, Prod.mk.injEq] at hs
  obtain ⟨rfl, rfl, rfl, rfl⟩ := hs
  simp only [Nat.sub_self, Nat.add_zero] at kk
  intro γ κ sh H locs lsC hn0 hg hR hS hL hO
  refine lv_bipush hx hb hd rfl ?_
  exact kk γ κ sh H locs lsC hn0 hg hR hS hL (sd_Oc sd_OKi hO)
theorem sm_sipush {n : Int} (C : sd_Cx p s m args meth c j D A) (hv : sd_vb j pc (.sipush n, len, a, b, cq, q) = true) (hs : am_stp pc (.sipush n) len a b cq ls st h = some (.inl (pc2, ls2, st2, h2)))
    (kk : sd_W p l e R s m args below meth c D A n0 γ0 κ0 sh0 Q j (cells + (h2.1.1 - h.1.1)) (slots + (h2.1.2 - h.1.2)) pc2 ls2 st2 h2) : sd_W p l e R s m args below meth c D A n0 γ0 κ0 sh0 Q j cells slots pc ls st h := by
  obtain ⟨hx, hb, hml, hr, hlk, hown, hts, hnm, hKB, hA⟩ := C
  simp only [sd_vb, Bool.and_eq_true, decide_eq_true_eq, beq_iff_eq] at hv
  obtain ⟨hd, rfl⟩ := hv
  simp only [am_stp] at hs
  simp only [am_nx, Option.some.injEq, Sum.inl.injEq, Prod.mk.injEq] at hs
  obtain ⟨rfl, rfl, rfl, rfl⟩ := hs
  simp only [Nat.sub_self, Nat.add_zero] at kk
  intro γ κ sh H locs lsC hn0 hg hR hS hL hO
  refine lv_sipush hx hb hd rfl ?_
  exact kk γ κ sh H locs lsC hn0 hg hR hS hL (sd_Oc sd_OKi hO)
theorem sm_lconst {n : Fin 2} (C : sd_Cx p s m args meth c j D A) (hv : sd_vb j pc (.lconst n, len, a, b, cq, q) = true) (hs : am_stp pc (.lconst n) len a b cq ls st h = some (.inl (pc2, ls2, st2, h2)))
    (kk : sd_W p l e R s m args below meth c D A n0 γ0 κ0 sh0 Q j (cells + (h2.1.1 - h.1.1)) (slots + (h2.1.2 - h.1.2)) pc2 ls2 st2 h2) : sd_W p l e R s m args below meth c D A n0 γ0 κ0 sh0 Q j cells slots pc ls st h := by
  obtain ⟨hx, hb, hml, hr, hlk, hown, hts, hnm, hKB, hA⟩ := C
  simp only [sd_vb, Bool.and_eq_true, decide_eq_true_eq, beq_iff_eq] at hv
  obtain ⟨hd, rfl⟩ := hv
  simp only [am_stp] at hs
  simp only [am_nx, Option.some.injEq, Sum.inl.injEq, Prod.mk.injEq] at hs
  obtain ⟨rfl, rfl, rfl, rfl⟩ := hs
  simp only [Nat.sub_self, Nat.add_zero] at kk
  intro γ κ sh H locs lsC hn0 hg hR hS hL hO
  refine lv_lconst hx hb hd rfl ?_
  exact kk γ κ sh H locs lsC hn0 hg hR hS hL (sd_Oc sd_OKl hO)
theorem sm_ldc {n : Nat} (C : sd_Cx p s m args meth c j D A) (hv : sd_vb j pc (.ldc n, len, a, b, cq, q) = true) (hs : am_stp pc (.ldc n) len a b cq ls st h = some (.inl (pc2, ls2, st2, h2)))
    (kk : sd_W p l e R s m args below meth c D A n0 γ0 κ0 sh0 Q j (cells + (h2.1.1 - h.1.1)) (slots + (h2.1.2 - h.1.2)) pc2 ls2 st2 h2) : sd_W p l e R s m args below meth c D A n0 γ0 κ0 sh0 Q j cells slots pc ls st h := by
  obtain ⟨hx, hb, hml, hr, hlk, hown, hts, hnm, hKB, hA⟩ := C
  simp only [sd_vb, Bool.and_eq_true, decide_eq_true_eq, beq_iff_eq] at hv
  obtain ⟨hd, rfl, hq⟩ := hv
  simp only [am_stp] at hs
  simp only [am_nx, Option.some.injEq, Sum.inl.injEq, Prod.mk.injEq] at hs
  obtain ⟨rfl, rfl, rfl, rfl⟩ := hs
  simp only [Nat.sub_self, Nat.add_zero] at kk
  intro γ κ sh H locs lsC hn0 hg hR hS hL hO
  refine lv_ldc hx hb hown (hts _ (sd_in q hq rfl)) hd ?_
  exact kk γ κ sh H locs lsC hn0 hg hR hS hL (sd_Oc sd_OKi hO)
theorem sm_ldc2_w {n : Nat} (C : sd_Cx p s m args meth c j D A) (hv : sd_vb j pc (.ldc2_w n, len, a, b, cq, q) = true) (hs : am_stp pc (.ldc2_w n) len a b cq ls st h = some (.inl (pc2, ls2, st2, h2)))
    (kk : sd_W p l e R s m args below meth c D A n0 γ0 κ0 sh0 Q j (cells + (h2.1.1 - h.1.1)) (slots + (h2.1.2 - h.1.2)) pc2 ls2 st2 h2) : sd_W p l e R s m args below meth c D A n0 γ0 κ0 sh0 Q j cells slots pc ls st h := by
  obtain ⟨hx, hb, hml, hr, hlk, hown, hts, hnm, hKB, hA⟩ := C
  simp only [sd_vb, Bool.and_eq_true, decide_eq_true_eq, beq_iff_eq] at hv
  obtain ⟨hd, rfl, hq⟩ := hv
  simp only [am_stp] at hs
  simp only [am_nx, Option.some.injEq, Sum.inl.injEq, Prod.mk.injEq] at hs
  obtain ⟨rfl, rfl, rfl, rfl⟩ := hs
  simp only [Nat.sub_self, Nat.add_zero] at kk
  intro γ κ sh H locs lsC hn0 hg hR hS hL hO
  refine lv_ldc2 hx hb hown (hts _ (sd_in q hq rfl)) hd ?_
  exact kk γ κ sh H locs lsC hn0 hg hR hS hL (sd_Oc sd_OKl hO)
theorem sm_ldc_w {n : Nat} (C : sd_Cx p s m args meth c j D A) (hv : sd_vb j pc (.ldc_w n, len, a, b, cq, q) = true) (hs : am_stp pc (.ldc_w n) len a b cq ls st h = some (.inl (pc2, ls2, st2, h2)))
    (kk : sd_W p l e R s m args below meth c D A n0 γ0 κ0 sh0 Q j (cells + (h2.1.1 - h.1.1)) (slots + (h2.1.2 - h.1.2)) pc2 ls2 st2 h2) : sd_W p l e R s m args below meth c D A n0 γ0 κ0 sh0 Q j cells slots pc ls st h := by
  obtain ⟨hx, hb, hml, hr, hlk, hown, hts, hnm, hKB, hA⟩ := C
  simp only [sd_vb, Bool.and_eq_true, decide_eq_true_eq, beq_iff_eq] at hv
  obtain ⟨hd, rfl, hq⟩ := hv
  simp only [am_stp] at hs
  simp only [am_nx, Option.some.injEq, Sum.inl.injEq, Prod.mk.injEq] at hs
  obtain ⟨rfl, rfl, rfl, rfl⟩ := hs
  simp only [Nat.sub_self, Nat.add_zero] at kk
  intro γ κ sh H locs lsC hn0 hg hR hS hL hO
  intro T hT X
  obtain ⟨t, a1, b1⟩ := kk γ κ sh H locs lsC hn0 hg hR hS hL (sd_Oc sd_OKi hO) T hT X
  exact ⟨t, va_ldcwI X hx hown (hts _ (sd_in q hq rfl)) (g := F0 m pc lsC (st.map (sd_cv γ))) rfl (by rw [hb]; exact hd) t a1, b1⟩
theorem sm_iload {k : Nat} (C : sd_Cx p s m args meth c j D A) (hv : sd_vb j pc (.iload k, len, a, b, cq, q) = true) (hs : am_stp pc (.iload k) len a b cq ls st h = some (.inl (pc2, ls2, st2, h2)))
    (kk : sd_W p l e R s m args below meth c D A n0 γ0 κ0 sh0 Q j (cells + (h2.1.1 - h.1.1)) (slots + (h2.1.2 - h.1.2)) pc2 ls2 st2 h2) : sd_W p l e R s m args below meth c D A n0 γ0 κ0 sh0 Q j cells slots pc ls st h := by
  obtain ⟨hx, hb, hml, hr, hlk, hown, hts, hnm, hKB, hA⟩ := C
  simp only [sd_vb, Bool.and_eq_true, decide_eq_true_eq, beq_iff_eq] at hv
  obtain ⟨hd, rfl⟩ := hv
  simp only [am_stp] at hs
  split at hs
  · rename_i x hld
    simp only [am_nx, Option.some.injEq, Sum.inl.injEq, Prod.mk.injEq] at hs
    obtain ⟨rfl, rfl, rfl, rfl⟩ := hs
    simp only [Nat.sub_self, Nat.add_zero] at kk
    intro γ κ sh H locs lsC hn0 hg hR hS hL hO
    refine lv_iload hx hb hd (hL.2.2.2 _ _ hld).2 ?_
    exact kk γ κ sh H locs lsC hn0 hg hR hS hL (sd_Oc (hL.2.2.2 _ _ hld).1 hO)
  · cases hs
theorem sm_iload_n {k : Fin 4} (C : sd_Cx p s m args meth c j D A) (hv : sd_vb j pc (.iload_n k, len, a, b, cq, q) = true) (hs : am_stp pc (.iload_n k) len a b cq ls st h = some (.inl (pc2, ls2, st2, h2)))
    (kk : sd_W p l e R s m args below meth c D A n0 γ0 κ0 sh0 Q j (cells + (h2.1.1 - h.1.1)) (slots + (h2.1.2 - h.1.2)) pc2 ls2 st2 h2) : sd_W p l e R s m args below meth c D A n0 γ0 κ0 sh0 Q j cells slots pc ls st h := by
  obtain ⟨hx, hb, hml, hr, hlk, hown, hts, hnm, hKB, hA⟩ := C
  simp only [sd_vb, Bool.and_eq_true, decide_eq_true_eq, beq_iff_eq] at hv
  obtain ⟨hd, rfl⟩ := hv
  simp only [am_stp] at hs
  split at hs
  · rename_i x hld
    simp only [am_nx, Option.some.injEq, Sum.inl.injEq, Prod.mk.injEq] at hs
    obtain ⟨rfl, rfl, rfl, rfl⟩ := hs
    simp only [Nat.sub_self, Nat.add_zero] at kk
    intro γ κ sh H locs lsC hn0 hg hR hS hL hO
    refine lv_iload_n hx hb hd rfl (hL.2.2.2 _ _ hld).2 ?_
    exact kk γ κ sh H locs lsC hn0 hg hR hS hL (sd_Oc (hL.2.2.2 _ _ hld).1 hO)
  · cases hs
theorem sm_lload {k : Nat} (C : sd_Cx p s m args meth c j D A) (hv : sd_vb j pc (.lload k, len, a, b, cq, q) = true) (hs : am_stp pc (.lload k) len a b cq ls st h = some (.inl (pc2, ls2, st2, h2)))
    (kk : sd_W p l e R s m args below meth c D A n0 γ0 κ0 sh0 Q j (cells + (h2.1.1 - h.1.1)) (slots + (h2.1.2 - h.1.2)) pc2 ls2 st2 h2) : sd_W p l e R s m args below meth c D A n0 γ0 κ0 sh0 Q j cells slots pc ls st h := by
  obtain ⟨hx, hb, hml, hr, hlk, hown, hts, hnm, hKB, hA⟩ := C
  simp only [sd_vb, Bool.and_eq_true, decide_eq_true_eq, beq_iff_eq] at hv
  obtain ⟨hd, rfl⟩ := hv
  simp only [am_stp] at hs
  split at hs
  · rename_i x hld
    simp only [am_nx, Option.some.injEq, Sum.inl.injEq, Prod.mk.injEq] at hs
    obtain ⟨rfl, rfl, rfl, rfl⟩ := hs
    simp only [Nat.sub_self, Nat.add_zero] at kk
    intro γ κ sh H locs lsC hn0 hg hR hS hL hO
    refine lv_lload hx hb hd (hL.2.2.2 _ _ hld).2 ?_
    exact kk γ κ sh H locs lsC hn0 hg hR hS hL (sd_Oc (hL.2.2.2 _ _ hld).1 hO)
  · cases hs
theorem sm_lload_n {k : Fin 4} (C : sd_Cx p s m args meth c j D A) (hv : sd_vb j pc (.lload_n k, len, a, b, cq, q) = true) (hs : am_stp pc (.lload_n k) len a b cq ls st h = some (.inl (pc2, ls2, st2, h2)))
    (kk : sd_W p l e R s m args below meth c D A n0 γ0 κ0 sh0 Q j (cells + (h2.1.1 - h.1.1)) (slots + (h2.1.2 - h.1.2)) pc2 ls2 st2 h2) : sd_W p l e R s m args below meth c D A n0 γ0 κ0 sh0 Q j cells slots pc ls st h := by
  obtain ⟨hx, hb, hml, hr, hlk, hown, hts, hnm, hKB, hA⟩ := C
  simp only [sd_vb, Bool.and_eq_true, decide_eq_true_eq, beq_iff_eq] at hv
  obtain ⟨hd, rfl⟩ := hv
  simp only [am_stp] at hs
  split at hs
  · rename_i x hld
    simp only [am_nx, Option.some.injEq, Sum.inl.injEq, Prod.mk.injEq] at hs
    obtain ⟨rfl, rfl, rfl, rfl⟩ := hs
    simp only [Nat.sub_self, Nat.add_zero] at kk
    intro γ κ sh H locs lsC hn0 hg hR hS hL hO
    refine lv_lload_n hx hb hd rfl (hL.2.2.2 _ _ hld).2 ?_
    exact kk γ κ sh H locs lsC hn0 hg hR hS hL (sd_Oc (hL.2.2.2 _ _ hld).1 hO)
  · cases hs
theorem sm_aload {k : Nat} (C : sd_Cx p s m args meth c j D A) (hv : sd_vb j pc (.aload k, len, a, b, cq, q) = true) (hs : am_stp pc (.aload k) len a b cq ls st h = some (.inl (pc2, ls2, st2, h2)))
    (kk : sd_W p l e R s m args below meth c D A n0 γ0 κ0 sh0 Q j (cells + (h2.1.1 - h.1.1)) (slots + (h2.1.2 - h.1.2)) pc2 ls2 st2 h2) : sd_W p l e R s m args below meth c D A n0 γ0 κ0 sh0 Q j cells slots pc ls st h := by
  obtain ⟨hx, hb, hml, hr, hlk, hown, hts, hnm, hKB, hA⟩ := C
  simp only [sd_vb, Bool.and_eq_true, decide_eq_true_eq, beq_iff_eq] at hv
  obtain ⟨hd, rfl⟩ := hv
  simp only [am_stp] at hs
  split at hs
  · rename_i x hld
    simp only [am_nx, Option.some.injEq, Sum.inl.injEq, Prod.mk.injEq] at hs
    obtain ⟨rfl, rfl, rfl, rfl⟩ := hs
    simp only [Nat.sub_self, Nat.add_zero] at kk
    intro γ κ sh H locs lsC hn0 hg hR hS hL hO
    have hq := hL.2.2.2 _ _ hld
    cases x with
    | none =>
      refine lv_aloadN hx hb hd hq.2 ?_
      exact kk γ κ sh H locs lsC hn0 hg hR hS hL (sd_Oc hq.1 hO)
    | some x =>
      refine lv_aload hx hb hd hq.2 ?_
      exact kk γ κ sh H locs lsC hn0 hg hR hS hL (sd_Oc hq.1 hO)
  · cases hs
theorem sm_aload_n {k : Fin 4} (C : sd_Cx p s m args meth c j D A) (hv : sd_vb j pc (.aload_n k, len, a, b, cq, q) = true) (hs : am_stp pc (.aload_n k) len a b cq ls st h = some (.inl (pc2, ls2, st2, h2)))
    (kk : sd_W p l e R s m args below meth c D A n0 γ0 κ0 sh0 Q j (cells + (h2.1.1 - h.1.1)) (slots + (h2.1.2 - h.1.2)) pc2 ls2 st2 h2) : sd_W p l e R s m args below meth c D A n0 γ0 κ0 sh0 Q j cells slots pc ls st h := by
  obtain ⟨hx, hb, hml, hr, hlk, hown, hts, hnm, hKB, hA⟩ := C
  simp only [sd_vb, Bool.and_eq_true, decide_eq_true_eq, beq_iff_eq] at hv
  obtain ⟨hd, rfl⟩ := hv
  simp only [am_stp] at hs
  split at hs
  · rename_i x hld
    simp only [am_nx, Option.some.injEq, Sum.inl.injEq, Prod.mk.injEq] at hs
    obtain ⟨rfl, rfl, rfl, rfl⟩ := hs
    simp only [Nat.sub_self, Nat.add_zero] at kk
    intro γ κ sh H locs lsC hn0 hg hR hS hL hO
    have hq := hL.2.2.2 _ _ hld
    cases x with
    | none =>
      refine lv_aload_nN hx hb hd rfl hq.2 ?_
      exact kk γ κ sh H locs lsC hn0 hg hR hS hL (sd_Oc hq.1 hO)
    | some x =>
      refine lv_aload_n hx hb hd rfl hq.2 ?_
      exact kk γ κ sh H locs lsC hn0 hg hR hS hL (sd_Oc hq.1 hO)
  · cases hs
theorem sm_istore {k : Nat} (C : sd_Cx p s m args meth c j D A) (hv : sd_vb j pc (.istore k, len, a, b, cq, q) = true) (hs : am_stp pc (.istore k) len a b cq ls st h = some (.inl (pc2, ls2, st2, h2)))
    (kk : sd_W p l e R s m args below meth c D A n0 γ0 κ0 sh0 Q j (cells + (h2.1.1 - h.1.1)) (slots + (h2.1.2 - h.1.2)) pc2 ls2 st2 h2) : sd_W p l e R s m args below meth c D A n0 γ0 κ0 sh0 Q j cells slots pc ls st h := by
  obtain ⟨hx, hb, hml, hr, hlk, hown, hts, hnm, hKB, hA⟩ := C
  simp only [sd_vb, Bool.and_eq_true, decide_eq_true_eq, beq_iff_eq] at hv
  obtain ⟨hd, rfl⟩ := hv
  simp only [am_stp] at hs
  split at hs
  · rename_i x r
    split at hs
    · rename_i l2 hs1
      simp only [am_nx, Option.some.injEq, Sum.inl.injEq, Prod.mk.injEq] at hs
      obtain ⟨rfl, rfl, rfl, rfl⟩ := hs
      simp only [Nat.sub_self, Nat.add_zero] at kk
      intro γ κ sh H locs lsC hn0 hg hR hS hL hO
      refine lv_istore hx hb hd (sd_LRh hL) (by rw [← hL.1]; exact sd_s1lt hs1) rfl (fun lsD hD => ?_)
      exact kk γ κ sh H locs lsD hn0 hg hR hS (sd_st1 hL hs1 (sd_Oh hO) hD) (sd_Ot hO)
    · cases hs
  · cases hs
theorem sm_istore_n {k : Fin 4} (C : sd_Cx p s m args meth c j D A) (hv : sd_vb j pc (.istore_n k, len, a, b, cq, q) = true) (hs : am_stp pc (.istore_n k) len a b cq ls st h = some (.inl (pc2, ls2, st2, h2)))
    (kk : sd_W p l e R s m args below meth c D A n0 γ0 κ0 sh0 Q j (cells + (h2.1.1 - h.1.1)) (slots + (h2.1.2 - h.1.2)) pc2 ls2 st2 h2) : sd_W p l e R s m args below meth c D A n0 γ0 κ0 sh0 Q j cells slots pc ls st h := by
  obtain ⟨hx, hb, hml, hr, hlk, hown, hts, hnm, hKB, hA⟩ := C
  simp only [sd_vb, Bool.and_eq_true, decide_eq_true_eq, beq_iff_eq] at hv
  obtain ⟨hd, rfl⟩ := hv
  simp only [am_stp] at hs
  split at hs
  · rename_i x r
    split at hs
    · rename_i l2 hs1
      simp only [am_nx, Option.some.injEq, Sum.inl.injEq, Prod.mk.injEq] at hs
      obtain ⟨rfl, rfl, rfl, rfl⟩ := hs
      simp only [Nat.sub_self, Nat.add_zero] at kk
      intro γ κ sh H locs lsC hn0 hg hR hS hL hO
      refine lv_istore_n hx hb hd rfl (sd_LRh hL) (by rw [← hL.1]; exact sd_s1lt hs1) rfl (fun lsD hD => ?_)
      exact kk γ κ sh H locs lsD hn0 hg hR hS (sd_st1 hL hs1 (sd_Oh hO) hD) (sd_Ot hO)
    · cases hs
  · cases hs
theorem sm_lstore {k : Nat} (C : sd_Cx p s m args meth c j D A) (hv : sd_vb j pc (.lstore k, len, a, b, cq, q) = true) (hs : am_stp pc (.lstore k) len a b cq ls st h = some (.inl (pc2, ls2, st2, h2)))
    (kk : sd_W p l e R s m args below meth c D A n0 γ0 κ0 sh0 Q j (cells + (h2.1.1 - h.1.1)) (slots + (h2.1.2 - h.1.2)) pc2 ls2 st2 h2) : sd_W p l e R s m args below meth c D A n0 γ0 κ0 sh0 Q j cells slots pc ls st h := by
  obtain ⟨hx, hb, hml, hr, hlk, hown, hts, hnm, hKB, hA⟩ := C
  simp only [sd_vb, Bool.and_eq_true, decide_eq_true_eq, beq_iff_eq] at hv
  obtain ⟨hd, rfl⟩ := hv
  simp only [am_stp] at hs
  split at hs
  · rename_i x r
    split at hs
    · rename_i l2 hs1
      simp only [am_nx, Option.some.injEq, Sum.inl.injEq, Prod.mk.injEq] at hs
      obtain ⟨rfl, rfl, rfl, rfl⟩ := hs
      simp only [Nat.sub_self, Nat.add_zero] at kk
      intro γ κ sh H locs lsC hn0 hg hR hS hL hO
      refine lv_lstore hx hb hd (sd_LRh hL) (by rw [← hL.1]; exact sd_s2lt hs1) rfl (fun lsD hD => ?_)
      exact kk γ κ sh H locs lsD hn0 hg hR hS (sd_st2 hL hs1 (sd_Oh hO) hD) (sd_Ot hO)
    · cases hs
  · cases hs
theorem sm_astore {k : Nat} (C : sd_Cx p s m args meth c j D A) (hv : sd_vb j pc (.astore k, len, a, b, cq, q) = true) (hs : am_stp pc (.astore k) len a b cq ls st h = some (.inl (pc2, ls2, st2, h2)))
    (kk : sd_W p l e R s m args below meth c D A n0 γ0 κ0 sh0 Q j (cells + (h2.1.1 - h.1.1)) (slots + (h2.1.2 - h.1.2)) pc2 ls2 st2 h2) : sd_W p l e R s m args below meth c D A n0 γ0 κ0 sh0 Q j cells slots pc ls st h := by
  obtain ⟨hx, hb, hml, hr, hlk, hown, hts, hnm, hKB, hA⟩ := C
  simp only [sd_vb, Bool.and_eq_true, decide_eq_true_eq, beq_iff_eq] at hv
  obtain ⟨hd, rfl⟩ := hv
  simp only [am_stp] at hs
  split at hs
  · rename_i x r
    split at hs
    · rename_i l2 hs1
      simp only [am_nx, Option.some.injEq, Sum.inl.injEq, Prod.mk.injEq] at hs
      obtain ⟨rfl, rfl, rfl, rfl⟩ := hs
      simp only [Nat.sub_self, Nat.add_zero] at kk
      intro γ κ sh H locs lsC hn0 hg hR hS hL hO
      cases x with
      | none =>
        refine lv_astoreN hx hb hd (sd_LRh hL) (by rw [← hL.1]; exact sd_s1lt hs1) rfl (fun lsD hD => ?_)
        exact kk γ κ sh H locs lsD hn0 hg hR hS (sd_st1 hL hs1 (sd_Oh hO) hD) (sd_Ot hO)
      | some x =>
        refine lv_astore hx hb hd (sd_LRh hL) (by rw [← hL.1]; exact sd_s1lt hs1) rfl (fun lsD hD => ?_)
        exact kk γ κ sh H locs lsD hn0 hg hR hS (sd_st1 hL hs1 (sd_Oh hO) hD) (sd_Ot hO)
    · cases hs
  · cases hs
theorem sm_astore_n {k : Fin 4} (C : sd_Cx p s m args meth c j D A) (hv : sd_vb j pc (.astore_n k, len, a, b, cq, q) = true) (hs : am_stp pc (.astore_n k) len a b cq ls st h = some (.inl (pc2, ls2, st2, h2)))
    (kk : sd_W p l e R s m args below meth c D A n0 γ0 κ0 sh0 Q j (cells + (h2.1.1 - h.1.1)) (slots + (h2.1.2 - h.1.2)) pc2 ls2 st2 h2) : sd_W p l e R s m args below meth c D A n0 γ0 κ0 sh0 Q j cells slots pc ls st h := by
  obtain ⟨hx, hb, hml, hr, hlk, hown, hts, hnm, hKB, hA⟩ := C
  simp only [sd_vb, Bool.and_eq_true, decide_eq_true_eq, beq_iff_eq] at hv
  obtain ⟨hd, rfl⟩ := hv
  simp only [am_stp] at hs
  split at hs
  · rename_i x r
    split at hs
    · rename_i l2 hs1
      simp only [am_nx, Option.some.injEq, Sum.inl.injEq, Prod.mk.injEq] at hs
      obtain ⟨rfl, rfl, rfl, rfl⟩ := hs
      simp only [Nat.sub_self, Nat.add_zero] at kk
      intro γ κ sh H locs lsC hn0 hg hR hS hL hO
      cases x with
      | none =>
        refine lv_astore_nN hx hb hd rfl (sd_LRh hL) (by rw [← hL.1]; exact sd_s1lt hs1) rfl (fun lsD hD => ?_)
        exact kk γ κ sh H locs lsD hn0 hg hR hS (sd_st1 hL hs1 (sd_Oh hO) hD) (sd_Ot hO)
      | some x =>
        refine lv_astore_n hx hb hd rfl (sd_LRh hL) (by rw [← hL.1]; exact sd_s1lt hs1) rfl (fun lsD hD => ?_)
        exact kk γ κ sh H locs lsD hn0 hg hR hS (sd_st1 hL hs1 (sd_Oh hO) hD) (sd_Ot hO)
    · cases hs
  · cases hs
theorem sm_iinc {k : Nat} {n : Int} (C : sd_Cx p s m args meth c j D A) (hv : sd_vb j pc (.iinc k n, len, a, b, cq, q) = true) (hs : am_stp pc (.iinc k n) len a b cq ls st h = some (.inl (pc2, ls2, st2, h2)))
    (kk : sd_W p l e R s m args below meth c D A n0 γ0 κ0 sh0 Q j (cells + (h2.1.1 - h.1.1)) (slots + (h2.1.2 - h.1.2)) pc2 ls2 st2 h2) : sd_W p l e R s m args below meth c D A n0 γ0 κ0 sh0 Q j cells slots pc ls st h := by
  obtain ⟨hx, hb, hml, hr, hlk, hown, hts, hnm, hKB, hA⟩ := C
  simp only [sd_vb, Bool.and_eq_true, decide_eq_true_eq, beq_iff_eq] at hv
  obtain ⟨hd, rfl⟩ := hv
  simp only [am_stp] at hs
  split at hs
  · rename_i x hld
    split at hs
    · rename_i l2 hs1
      simp only [am_nx, Option.some.injEq, Sum.inl.injEq, Prod.mk.injEq] at hs
      obtain ⟨rfl, rfl, rfl, rfl⟩ := hs
      simp only [Nat.sub_self, Nat.add_zero] at kk
      intro γ κ sh H locs lsC hn0 hg hR hS hL hO
      obtain ⟨z, hz⟩ := List.getElem?_of_mem (sd_prM (γ := γ) (q := (k, .int x)) |>.mpr ⟨_, hld, rfl⟩)
      refine lv_iinc hx hb hd (sd_LRh hL) hz rfl (by rw [← hL.1]; exact sd_s1lt hs1) rfl (fun lsD hD => ?_)
      exact kk γ κ sh H locs lsD hn0 hg hR hS (sd_st1 hL hs1 sd_OKi hD) hO
    · cases hs
  · cases hs
theorem sm_iadd  (C : sd_Cx p s m args meth c j D A) (hv : sd_vb j pc (.iadd, len, a, b, cq, q) = true) (hs : am_stp pc (.iadd) len a b cq ls st h = some (.inl (pc2, ls2, st2, h2)))
    (kk : sd_W p l e R s m args below meth c D A n0 γ0 κ0 sh0 Q j (cells + (h2.1.1 - h.1.1)) (slots + (h2.1.2 - h.1.2)) pc2 ls2 st2 h2) : sd_W p l e R s m args below meth c D A n0 γ0 κ0 sh0 Q j cells slots pc ls st h := by
  obtain ⟨hx, hb, hml, hr, hlk, hown, hts, hnm, hKB, hA⟩ := C
  simp only [sd_vb, Bool.and_eq_true, decide_eq_true_eq, beq_iff_eq] at hv
  obtain ⟨hd, rfl⟩ := hv
  simp only [am_stp] at hs
  split at hs
  · simp only [am_nx, Option.some.injEq, Sum.inl.injEq, Prod.mk.injEq] at hs
    obtain ⟨rfl, rfl, rfl, rfl⟩ := hs
    simp only [Nat.sub_self, Nat.add_zero] at kk
    intro γ κ sh H locs lsC hn0 hg hR hS hL hO
    refine lv_iadd hx hb hd ?_
    exact kk γ κ sh H locs lsC hn0 hg hR hS hL (sd_Oc sd_OKi (sd_Ot (sd_Ot hO)))
  · cases hs
theorem sm_isub  (C : sd_Cx p s m args meth c j D A) (hv : sd_vb j pc (.isub, len, a, b, cq, q) = true) (hs : am_stp pc (.isub) len a b cq ls st h = some (.inl (pc2, ls2, st2, h2)))
    (kk : sd_W p l e R s m args below meth c D A n0 γ0 κ0 sh0 Q j (cells + (h2.1.1 - h.1.1)) (slots + (h2.1.2 - h.1.2)) pc2 ls2 st2 h2) : sd_W p l e R s m args below meth c D A n0 γ0 κ0 sh0 Q j cells slots pc ls st h := by
  obtain ⟨hx, hb, hml, hr, hlk, hown, hts, hnm, hKB, hA⟩ := C
  simp only [sd_vb, Bool.and_eq_true, decide_eq_true_eq, beq_iff_eq] at hv
  obtain ⟨hd, rfl⟩ := hv
  simp only [am_stp] at hs
  split at hs
  · simp only [am_nx, Option.some.injEq, Sum.inl.injEq, Prod.mk.injEq] at hs
    obtain ⟨rfl, rfl, rfl, rfl⟩ := hs
    simp only [Nat.sub_self, Nat.add_zero] at kk
    intro γ κ sh H locs lsC hn0 hg hR hS hL hO
    refine lv_isub hx hb hd ?_
    exact kk γ κ sh H locs lsC hn0 hg hR hS hL (sd_Oc sd_OKi (sd_Ot (sd_Ot hO)))
  · cases hs
theorem sm_imul  (C : sd_Cx p s m args meth c j D A) (hv : sd_vb j pc (.imul, len, a, b, cq, q) = true) (hs : am_stp pc (.imul) len a b cq ls st h = some (.inl (pc2, ls2, st2, h2)))
    (kk : sd_W p l e R s m args below meth c D A n0 γ0 κ0 sh0 Q j (cells + (h2.1.1 - h.1.1)) (slots + (h2.1.2 - h.1.2)) pc2 ls2 st2 h2) : sd_W p l e R s m args below meth c D A n0 γ0 κ0 sh0 Q j cells slots pc ls st h := by
  obtain ⟨hx, hb, hml, hr, hlk, hown, hts, hnm, hKB, hA⟩ := C
  simp only [sd_vb, Bool.and_eq_true, decide_eq_true_eq, beq_iff_eq] at hv
  obtain ⟨hd, rfl⟩ := hv
  simp only [am_stp] at hs
  split at hs
  · simp only [am_nx, Option.some.injEq, Sum.inl.injEq, Prod.mk.injEq] at hs
    obtain ⟨rfl, rfl, rfl, rfl⟩ := hs
    simp only [Nat.sub_self, Nat.add_zero] at kk
    intro γ κ sh H locs lsC hn0 hg hR hS hL hO
    refine lv_imul hx hb hd ?_
    exact kk γ κ sh H locs lsC hn0 hg hR hS hL (sd_Oc sd_OKi (sd_Ot (sd_Ot hO)))
  · cases hs
theorem sm_iand  (C : sd_Cx p s m args meth c j D A) (hv : sd_vb j pc (.iand, len, a, b, cq, q) = true) (hs : am_stp pc (.iand) len a b cq ls st h = some (.inl (pc2, ls2, st2, h2)))
    (kk : sd_W p l e R s m args below meth c D A n0 γ0 κ0 sh0 Q j (cells + (h2.1.1 - h.1.1)) (slots + (h2.1.2 - h.1.2)) pc2 ls2 st2 h2) : sd_W p l e R s m args below meth c D A n0 γ0 κ0 sh0 Q j cells slots pc ls st h := by
  obtain ⟨hx, hb, hml, hr, hlk, hown, hts, hnm, hKB, hA⟩ := C
  simp only [sd_vb, Bool.and_eq_true, decide_eq_true_eq, beq_iff_eq] at hv
  obtain ⟨hd, rfl⟩ := hv
  simp only [am_stp] at hs
  split at hs
  · simp only [am_nx, Option.some.injEq, Sum.inl.injEq, Prod.mk.injEq] at hs
    obtain ⟨rfl, rfl, rfl, rfl⟩ := hs
    simp only [Nat.sub_self, Nat.add_zero] at kk
    intro γ κ sh H locs lsC hn0 hg hR hS hL hO
    refine lv_iand hx hb hd ?_
    exact kk γ κ sh H locs lsC hn0 hg hR hS hL (sd_Oc sd_OKi (sd_Ot (sd_Ot hO)))
  · cases hs
theorem sm_ior  (C : sd_Cx p s m args meth c j D A) (hv : sd_vb j pc (.ior, len, a, b, cq, q) = true) (hs : am_stp pc (.ior) len a b cq ls st h = some (.inl (pc2, ls2, st2, h2)))
    (kk : sd_W p l e R s m args below meth c D A n0 γ0 κ0 sh0 Q j (cells + (h2.1.1 - h.1.1)) (slots + (h2.1.2 - h.1.2)) pc2 ls2 st2 h2) : sd_W p l e R s m args below meth c D A n0 γ0 κ0 sh0 Q j cells slots pc ls st h := by
  obtain ⟨hx, hb, hml, hr, hlk, hown, hts, hnm, hKB, hA⟩ := C
  simp only [sd_vb, Bool.and_eq_true, decide_eq_true_eq, beq_iff_eq] at hv
  obtain ⟨hd, rfl⟩ := hv
  simp only [am_stp] at hs
  split at hs
  · simp only [am_nx, Option.some.injEq, Sum.inl.injEq, Prod.mk.injEq] at hs
    obtain ⟨rfl, rfl, rfl, rfl⟩ := hs
    simp only [Nat.sub_self, Nat.add_zero] at kk
    intro γ κ sh H locs lsC hn0 hg hR hS hL hO
    refine lv_ior hx hb hd ?_
    exact kk γ κ sh H locs lsC hn0 hg hR hS hL (sd_Oc sd_OKi (sd_Ot (sd_Ot hO)))
  · cases hs
theorem sm_ixor  (C : sd_Cx p s m args meth c j D A) (hv : sd_vb j pc (.ixor, len, a, b, cq, q) = true) (hs : am_stp pc (.ixor) len a b cq ls st h = some (.inl (pc2, ls2, st2, h2)))
    (kk : sd_W p l e R s m args below meth c D A n0 γ0 κ0 sh0 Q j (cells + (h2.1.1 - h.1.1)) (slots + (h2.1.2 - h.1.2)) pc2 ls2 st2 h2) : sd_W p l e R s m args below meth c D A n0 γ0 κ0 sh0 Q j cells slots pc ls st h := by
  obtain ⟨hx, hb, hml, hr, hlk, hown, hts, hnm, hKB, hA⟩ := C
  simp only [sd_vb, Bool.and_eq_true, decide_eq_true_eq, beq_iff_eq] at hv
  obtain ⟨hd, rfl⟩ := hv
  simp only [am_stp] at hs
  split at hs
  · simp only [am_nx, Option.some.injEq, Sum.inl.injEq, Prod.mk.injEq] at hs
    obtain ⟨rfl, rfl, rfl, rfl⟩ := hs
    simp only [Nat.sub_self, Nat.add_zero] at kk
    intro γ κ sh H locs lsC hn0 hg hR hS hL hO
    refine lv_ixor hx hb hd ?_
    exact kk γ κ sh H locs lsC hn0 hg hR hS hL (sd_Oc sd_OKi (sd_Ot (sd_Ot hO)))
  · cases hs
theorem sm_ishl  (C : sd_Cx p s m args meth c j D A) (hv : sd_vb j pc (.ishl, len, a, b, cq, q) = true) (hs : am_stp pc (.ishl) len a b cq ls st h = some (.inl (pc2, ls2, st2, h2)))
    (kk : sd_W p l e R s m args below meth c D A n0 γ0 κ0 sh0 Q j (cells + (h2.1.1 - h.1.1)) (slots + (h2.1.2 - h.1.2)) pc2 ls2 st2 h2) : sd_W p l e R s m args below meth c D A n0 γ0 κ0 sh0 Q j cells slots pc ls st h := by
  obtain ⟨hx, hb, hml, hr, hlk, hown, hts, hnm, hKB, hA⟩ := C
  simp only [sd_vb, Bool.and_eq_true, decide_eq_true_eq, beq_iff_eq] at hv
  obtain ⟨hd, rfl⟩ := hv
  simp only [am_stp] at hs
  split at hs
  · simp only [am_nx, Option.some.injEq, Sum.inl.injEq, Prod.mk.injEq] at hs
    obtain ⟨rfl, rfl, rfl, rfl⟩ := hs
    simp only [Nat.sub_self, Nat.add_zero] at kk
    intro γ κ sh H locs lsC hn0 hg hR hS hL hO
    refine lv_ishl hx hb hd ?_
    exact kk γ κ sh H locs lsC hn0 hg hR hS hL (sd_Oc sd_OKi (sd_Ot (sd_Ot hO)))
  · cases hs
theorem sm_ishr  (C : sd_Cx p s m args meth c j D A) (hv : sd_vb j pc (.ishr, len, a, b, cq, q) = true) (hs : am_stp pc (.ishr) len a b cq ls st h = some (.inl (pc2, ls2, st2, h2)))
    (kk : sd_W p l e R s m args below meth c D A n0 γ0 κ0 sh0 Q j (cells + (h2.1.1 - h.1.1)) (slots + (h2.1.2 - h.1.2)) pc2 ls2 st2 h2) : sd_W p l e R s m args below meth c D A n0 γ0 κ0 sh0 Q j cells slots pc ls st h := by
  obtain ⟨hx, hb, hml, hr, hlk, hown, hts, hnm, hKB, hA⟩ := C
  simp only [sd_vb, Bool.and_eq_true, decide_eq_true_eq, beq_iff_eq] at hv
  obtain ⟨hd, rfl⟩ := hv
  simp only [am_stp] at hs
  split at hs
  · simp only [am_nx, Option.some.injEq, Sum.inl.injEq, Prod.mk.injEq] at hs
    obtain ⟨rfl, rfl, rfl, rfl⟩ := hs
    simp only [Nat.sub_self, Nat.add_zero] at kk
    intro γ κ sh H locs lsC hn0 hg hR hS hL hO
    refine lv_ishr hx hb hd ?_
    exact kk γ κ sh H locs lsC hn0 hg hR hS hL (sd_Oc sd_OKi (sd_Ot (sd_Ot hO)))
  · cases hs
theorem sm_iushr  (C : sd_Cx p s m args meth c j D A) (hv : sd_vb j pc (.iushr, len, a, b, cq, q) = true) (hs : am_stp pc (.iushr) len a b cq ls st h = some (.inl (pc2, ls2, st2, h2)))
    (kk : sd_W p l e R s m args below meth c D A n0 γ0 κ0 sh0 Q j (cells + (h2.1.1 - h.1.1)) (slots + (h2.1.2 - h.1.2)) pc2 ls2 st2 h2) : sd_W p l e R s m args below meth c D A n0 γ0 κ0 sh0 Q j cells slots pc ls st h := by
  obtain ⟨hx, hb, hml, hr, hlk, hown, hts, hnm, hKB, hA⟩ := C
  simp only [sd_vb, Bool.and_eq_true, decide_eq_true_eq, beq_iff_eq] at hv
  obtain ⟨hd, rfl⟩ := hv
  simp only [am_stp] at hs
  split at hs
  · simp only [am_nx, Option.some.injEq, Sum.inl.injEq, Prod.mk.injEq] at hs
    obtain ⟨rfl, rfl, rfl, rfl⟩ := hs
    simp only [Nat.sub_self, Nat.add_zero] at kk
    intro γ κ sh H locs lsC hn0 hg hR hS hL hO
    refine lv_iushr hx hb hd rfl ?_
    exact kk γ κ sh H locs lsC hn0 hg hR hS hL (sd_Oc sd_OKi (sd_Ot (sd_Ot hO)))
  · cases hs
theorem sm_ineg  (C : sd_Cx p s m args meth c j D A) (hv : sd_vb j pc (.ineg, len, a, b, cq, q) = true) (hs : am_stp pc (.ineg) len a b cq ls st h = some (.inl (pc2, ls2, st2, h2)))
    (kk : sd_W p l e R s m args below meth c D A n0 γ0 κ0 sh0 Q j (cells + (h2.1.1 - h.1.1)) (slots + (h2.1.2 - h.1.2)) pc2 ls2 st2 h2) : sd_W p l e R s m args below meth c D A n0 γ0 κ0 sh0 Q j cells slots pc ls st h := by
  obtain ⟨hx, hb, hml, hr, hlk, hown, hts, hnm, hKB, hA⟩ := C
  simp only [sd_vb, Bool.and_eq_true, decide_eq_true_eq, beq_iff_eq] at hv
  obtain ⟨hd, rfl⟩ := hv
  simp only [am_stp] at hs
  split at hs
  · simp only [am_nx, Option.some.injEq, Sum.inl.injEq, Prod.mk.injEq] at hs
    obtain ⟨rfl, rfl, rfl, rfl⟩ := hs
    simp only [Nat.sub_self, Nat.add_zero] at kk
    intro γ κ sh H locs lsC hn0 hg hR hS hL hO
    refine lv_ineg hx hb hd ?_
    exact kk γ κ sh H locs lsC hn0 hg hR hS hL (sd_Oc sd_OKi (sd_Ot hO))
  · cases hs
theorem sm_i2l  (C : sd_Cx p s m args meth c j D A) (hv : sd_vb j pc (.i2l, len, a, b, cq, q) = true) (hs : am_stp pc (.i2l) len a b cq ls st h = some (.inl (pc2, ls2, st2, h2)))
    (kk : sd_W p l e R s m args below meth c D A n0 γ0 κ0 sh0 Q j (cells + (h2.1.1 - h.1.1)) (slots + (h2.1.2 - h.1.2)) pc2 ls2 st2 h2) : sd_W p l e R s m args below meth c D A n0 γ0 κ0 sh0 Q j cells slots pc ls st h := by
  obtain ⟨hx, hb, hml, hr, hlk, hown, hts, hnm, hKB, hA⟩ := C
  simp only [sd_vb, Bool.and_eq_true, decide_eq_true_eq, beq_iff_eq] at hv
  obtain ⟨hd, rfl⟩ := hv
  simp only [am_stp] at hs
  split at hs
  · simp only [am_nx, Option.some.injEq, Sum.inl.injEq, Prod.mk.injEq] at hs
    obtain ⟨rfl, rfl, rfl, rfl⟩ := hs
    simp only [Nat.sub_self, Nat.add_zero] at kk
    intro γ κ sh H locs lsC hn0 hg hR hS hL hO
    refine lv_i2l hx hb hd rfl ?_
    exact kk γ κ sh H locs lsC hn0 hg hR hS hL (sd_Oc sd_OKl (sd_Ot hO))
  · cases hs
theorem sm_lmul  (C : sd_Cx p s m args meth c j D A) (hv : sd_vb j pc (.lmul, len, a, b, cq, q) = true) (hs : am_stp pc (.lmul) len a b cq ls st h = some (.inl (pc2, ls2, st2, h2)))
    (kk : sd_W p l e R s m args below meth c D A n0 γ0 κ0 sh0 Q j (cells + (h2.1.1 - h.1.1)) (slots + (h2.1.2 - h.1.2)) pc2 ls2 st2 h2) : sd_W p l e R s m args below meth c D A n0 γ0 κ0 sh0 Q j cells slots pc ls st h := by
  obtain ⟨hx, hb, hml, hr, hlk, hown, hts, hnm, hKB, hA⟩ := C
  simp only [sd_vb, Bool.and_eq_true, decide_eq_true_eq, beq_iff_eq] at hv
  obtain ⟨hd, rfl⟩ := hv
  simp only [am_stp] at hs
  split at hs
  · simp only [am_nx, Option.some.injEq, Sum.inl.injEq, Prod.mk.injEq] at hs
    obtain ⟨rfl, rfl, rfl, rfl⟩ := hs
    simp only [Nat.sub_self, Nat.add_zero] at kk
    intro γ κ sh H locs lsC hn0 hg hR hS hL hO
    refine lv_lmul hx hb hd ?_
    exact kk γ κ sh H locs lsC hn0 hg hR hS hL (sd_Oc sd_OKl (sd_Ot (sd_Ot hO)))
  · cases hs
theorem sm_lcmp  (C : sd_Cx p s m args meth c j D A) (hv : sd_vb j pc (.lcmp, len, a, b, cq, q) = true) (hs : am_stp pc (.lcmp) len a b cq ls st h = some (.inl (pc2, ls2, st2, h2)))
    (kk : sd_W p l e R s m args below meth c D A n0 γ0 κ0 sh0 Q j (cells + (h2.1.1 - h.1.1)) (slots + (h2.1.2 - h.1.2)) pc2 ls2 st2 h2) : sd_W p l e R s m args below meth c D A n0 γ0 κ0 sh0 Q j cells slots pc ls st h := by
  obtain ⟨hx, hb, hml, hr, hlk, hown, hts, hnm, hKB, hA⟩ := C
  simp only [sd_vb, Bool.and_eq_true, decide_eq_true_eq, beq_iff_eq] at hv
  obtain ⟨hd, rfl⟩ := hv
  simp only [am_stp] at hs
  split at hs
  · simp only [am_nx, Option.some.injEq, Sum.inl.injEq, Prod.mk.injEq] at hs
    obtain ⟨rfl, rfl, rfl, rfl⟩ := hs
    simp only [Nat.sub_self, Nat.add_zero] at kk
    intro γ κ sh H locs lsC hn0 hg hR hS hL hO
    refine W.lcmp hx hb hd ?_
    exact kk γ κ sh H locs lsC hn0 hg hR hS hL (sd_Oc sd_OKi (sd_Ot (sd_Ot hO)))
  · cases hs
theorem sm_idiv  (C : sd_Cx p s m args meth c j D A) (hv : sd_vb j pc (.idiv, len, a, b, cq, q) = true) (hs : am_stp pc (.idiv) len a b cq ls st h = some (.inl (pc2, ls2, st2, h2)))
    (kk : sd_W p l e R s m args below meth c D A n0 γ0 κ0 sh0 Q j (cells + (h2.1.1 - h.1.1)) (slots + (h2.1.2 - h.1.2)) pc2 ls2 st2 h2) : sd_W p l e R s m args below meth c D A n0 γ0 κ0 sh0 Q j cells slots pc ls st h := by
  obtain ⟨hx, hb, hml, hr, hlk, hown, hts, hnm, hKB, hA⟩ := C
  simp only [sd_vb, Bool.and_eq_true, decide_eq_true_eq, beq_iff_eq] at hv
  obtain ⟨hd, rfl⟩ := hv
  simp only [am_stp] at hs
  split at hs
  · split at hs
    · cases hs
    · rename_i hne
      simp only [am_nx, Option.some.injEq, Sum.inl.injEq, Prod.mk.injEq] at hs
      obtain ⟨rfl, rfl, rfl, rfl⟩ := hs
      simp only [Nat.sub_self, Nat.add_zero] at kk
      intro γ κ sh H locs lsC hn0 hg hR hS hL hO
      refine lv_idiv hx hb hd hne ?_
      exact kk γ κ sh H locs lsC hn0 hg hR hS hL (sd_Oc sd_OKi (sd_Ot (sd_Ot hO)))
  · cases hs
theorem sm_irem  (C : sd_Cx p s m args meth c j D A) (hv : sd_vb j pc (.irem, len, a, b, cq, q) = true) (hs : am_stp pc (.irem) len a b cq ls st h = some (.inl (pc2, ls2, st2, h2)))
    (kk : sd_W p l e R s m args below meth c D A n0 γ0 κ0 sh0 Q j (cells + (h2.1.1 - h.1.1)) (slots + (h2.1.2 - h.1.2)) pc2 ls2 st2 h2) : sd_W p l e R s m args below meth c D A n0 γ0 κ0 sh0 Q j cells slots pc ls st h := by
  obtain ⟨hx, hb, hml, hr, hlk, hown, hts, hnm, hKB, hA⟩ := C
  simp only [sd_vb, Bool.and_eq_true, decide_eq_true_eq, beq_iff_eq] at hv
  obtain ⟨hd, rfl⟩ := hv
  simp only [am_stp] at hs
  split at hs
  · split at hs
    · cases hs
    · rename_i hne
      simp only [am_nx, Option.some.injEq, Sum.inl.injEq, Prod.mk.injEq] at hs
      obtain ⟨rfl, rfl, rfl, rfl⟩ := hs
      simp only [Nat.sub_self, Nat.add_zero] at kk
      intro γ κ sh H locs lsC hn0 hg hR hS hL hO
      refine lv_irem hx hb hd hne ?_
      exact kk γ κ sh H locs lsC hn0 hg hR hS hL (sd_Oc sd_OKi (sd_Ot (sd_Ot hO)))
  · cases hs
theorem sm_dup  (C : sd_Cx p s m args meth c j D A) (hv : sd_vb j pc (.dup, len, a, b, cq, q) = true) (hs : am_stp pc (.dup) len a b cq ls st h = some (.inl (pc2, ls2, st2, h2)))
    (kk : sd_W p l e R s m args below meth c D A n0 γ0 κ0 sh0 Q j (cells + (h2.1.1 - h.1.1)) (slots + (h2.1.2 - h.1.2)) pc2 ls2 st2 h2) : sd_W p l e R s m args below meth c D A n0 γ0 κ0 sh0 Q j cells slots pc ls st h := by
  obtain ⟨hx, hb, hml, hr, hlk, hown, hts, hnm, hKB, hA⟩ := C
  simp only [sd_vb, Bool.and_eq_true, decide_eq_true_eq, beq_iff_eq] at hv
  obtain ⟨hd, rfl⟩ := hv
  simp only [am_stp] at hs
  split at hs
  · simp only [am_nx, Option.some.injEq, Sum.inl.injEq, Prod.mk.injEq] at hs
    obtain ⟨rfl, rfl, rfl, rfl⟩ := hs
    simp only [Nat.sub_self, Nat.add_zero] at kk
    intro γ κ sh H locs lsC hn0 hg hR hS hL hO
    refine lv_dup hx hb hd rfl ?_
    exact kk γ κ sh H locs lsC hn0 hg hR hS hL (sd_Oc (sd_Oh hO) hO)
  · rename_i x r
    simp only [am_nx, Option.some.injEq, Sum.inl.injEq, Prod.mk.injEq] at hs
    obtain ⟨rfl, rfl, rfl, rfl⟩ := hs
    simp only [Nat.sub_self, Nat.add_zero] at kk
    intro γ κ sh H locs lsC hn0 hg hR hS hL hO
    refine lv_dup hx hb hd (by cases x <;> rfl) ?_
    exact kk γ κ sh H locs lsC hn0 hg hR hS hL (sd_Oc (sd_Oh hO) hO)
  · cases hs
theorem sm_dup2  (C : sd_Cx p s m args meth c j D A) (hv : sd_vb j pc (.dup2, len, a, b, cq, q) = true) (hs : am_stp pc (.dup2) len a b cq ls st h = some (.inl (pc2, ls2, st2, h2)))
    (kk : sd_W p l e R s m args below meth c D A n0 γ0 κ0 sh0 Q j (cells + (h2.1.1 - h.1.1)) (slots + (h2.1.2 - h.1.2)) pc2 ls2 st2 h2) : sd_W p l e R s m args below meth c D A n0 γ0 κ0 sh0 Q j cells slots pc ls st h := by
  obtain ⟨hx, hb, hml, hr, hlk, hown, hts, hnm, hKB, hA⟩ := C
  simp only [sd_vb, Bool.and_eq_true, decide_eq_true_eq, beq_iff_eq] at hv
  obtain ⟨hd, rfl⟩ := hv
  simp only [am_stp] at hs
  split at hs
  · rename_i y x r
    simp only [am_nx, Option.some.injEq, Sum.inl.injEq, Prod.mk.injEq] at hs
    obtain ⟨rfl, rfl, rfl, rfl⟩ := hs
    simp only [Nat.sub_self, Nat.add_zero] at kk
    intro γ κ sh H locs lsC hn0 hg hR hS hL hO
    refine lv_dup2_11 hx hb hd rfl (by cases x <;> rfl) ?_
    exact kk γ κ sh H locs lsC hn0 hg hR hS hL (sd_Oc (sd_Oh hO) (sd_Oc (sd_Oh (sd_Ot hO)) hO))
  · cases hs
theorem sm_pop  (C : sd_Cx p s m args meth c j D A) (hv : sd_vb j pc (.pop, len, a, b, cq, q) = true) (hs : am_stp pc (.pop) len a b cq ls st h = some (.inl (pc2, ls2, st2, h2)))
    (kk : sd_W p l e R s m args below meth c D A n0 γ0 κ0 sh0 Q j (cells + (h2.1.1 - h.1.1)) (slots + (h2.1.2 - h.1.2)) pc2 ls2 st2 h2) : sd_W p l e R s m args below meth c D A n0 γ0 κ0 sh0 Q j cells slots pc ls st h := by
  obtain ⟨hx, hb, hml, hr, hlk, hown, hts, hnm, hKB, hA⟩ := C
  simp only [sd_vb, Bool.and_eq_true, decide_eq_true_eq, beq_iff_eq] at hv
  obtain ⟨hd, rfl⟩ := hv
  simp only [am_stp] at hs
  split at hs
  · simp only [am_nx, Option.some.injEq, Sum.inl.injEq, Prod.mk.injEq] at hs
    obtain ⟨rfl, rfl, rfl, rfl⟩ := hs
    simp only [Nat.sub_self, Nat.add_zero] at kk
    intro γ κ sh H locs lsC hn0 hg hR hS hL hO
    refine lv_pop hx hb hd rfl ?_
    exact kk γ κ sh H locs lsC hn0 hg hR hS hL (sd_Ot hO)
  · rename_i x r
    simp only [am_nx, Option.some.injEq, Sum.inl.injEq, Prod.mk.injEq] at hs
    obtain ⟨rfl, rfl, rfl, rfl⟩ := hs
    simp only [Nat.sub_self, Nat.add_zero] at kk
    intro γ κ sh H locs lsC hn0 hg hR hS hL hO
    refine lv_pop hx hb hd (by cases x <;> rfl) ?_
    exact kk γ κ sh H locs lsC hn0 hg hR hS hL (sd_Ot hO)
  · cases hs
theorem sm_goto {n : Int} (C : sd_Cx p s m args meth c j D A) (hv : sd_vb j pc (.goto n, len, a, b, cq, q) = true) (hs : am_stp pc (.goto n) len a b cq ls st h = some (.inl (pc2, ls2, st2, h2)))
    (kk : sd_W p l e R s m args below meth c D A n0 γ0 κ0 sh0 Q j (cells + (h2.1.1 - h.1.1)) (slots + (h2.1.2 - h.1.2)) pc2 ls2 st2 h2) : sd_W p l e R s m args below meth c D A n0 γ0 κ0 sh0 Q j cells slots pc ls st h := by
  obtain ⟨hx, hb, hml, hr, hlk, hown, hts, hnm, hKB, hA⟩ := C
  simp only [sd_vb, Bool.and_eq_true, decide_eq_true_eq, beq_iff_eq] at hv
  obtain ⟨hd, rfl, ht⟩ := hv
  simp only [am_stp] at hs
  simp only [am_nx, Option.some.injEq, Sum.inl.injEq, Prod.mk.injEq] at hs
  obtain ⟨rfl, rfl, rfl, rfl⟩ := hs
  simp only [Nat.sub_self, Nat.add_zero] at kk
  intro γ κ sh H locs lsC hn0 hg hR hS hL hO
  refine lv_goto hx hb hd ht ?_
  exact kk γ κ sh H locs lsC hn0 hg hR hS hL hO
theorem sm_ifCond {op : Jvm.ClassFile.Cond} {n : Int} (C : sd_Cx p s m args meth c j D A) (hv : sd_vb j pc (.ifCond op n, len, a, b, cq, q) = true) (hs : am_stp pc (.ifCond op n) len a b cq ls st h = some (.inl (pc2, ls2, st2, h2)))
    (kk : sd_W p l e R s m args below meth c D A n0 γ0 κ0 sh0 Q j (cells + (h2.1.1 - h.1.1)) (slots + (h2.1.2 - h.1.2)) pc2 ls2 st2 h2) : sd_W p l e R s m args below meth c D A n0 γ0 κ0 sh0 Q j cells slots pc ls st h := by
  obtain ⟨hx, hb, hml, hr, hlk, hown, hts, hnm, hKB, hA⟩ := C
  simp only [sd_vb, Bool.and_eq_true, decide_eq_true_eq, beq_iff_eq] at hv
  obtain ⟨hd, rfl, ht⟩ := hv
  simp only [am_stp] at hs
  split at hs
  · cases op with
    | eq =>
      simp only at hs
      split at hs
      · rename_i hc
        simp only [am_nx, Option.some.injEq, Sum.inl.injEq, Prod.mk.injEq] at hs
        obtain ⟨rfl, rfl, rfl, rfl⟩ := hs
        simp only [Nat.sub_self, Nat.add_zero] at kk
        intro γ κ sh H locs lsC hn0 hg hR hS hL hO
        exact lv_if_eq hx hb hd ht (fun _ => kk γ κ sh H locs lsC hn0 hg hR hS hL (sd_Ot hO)) (fun z => absurd hc z)
      · rename_i hc
        simp only [am_nx, Option.some.injEq, Sum.inl.injEq, Prod.mk.injEq] at hs
        obtain ⟨rfl, rfl, rfl, rfl⟩ := hs
        simp only [Nat.sub_self, Nat.add_zero] at kk
        intro γ κ sh H locs lsC hn0 hg hR hS hL hO
        exact lv_if_eq hx hb hd ht (fun z => absurd z hc) (fun _ => kk γ κ sh H locs lsC hn0 hg hR hS hL (sd_Ot hO))
    | ne =>
      simp only at hs
      split at hs
      · rename_i hc
        simp only [am_nx, Option.some.injEq, Sum.inl.injEq, Prod.mk.injEq] at hs
        obtain ⟨rfl, rfl, rfl, rfl⟩ := hs
        simp only [Nat.sub_self, Nat.add_zero] at kk
        intro γ κ sh H locs lsC hn0 hg hR hS hL hO
        exact lv_if_ne hx hb hd ht (fun z => absurd hc z) (fun _ => kk γ κ sh H locs lsC hn0 hg hR hS hL (sd_Ot hO))
      · rename_i hc
        simp only [am_nx, Option.some.injEq, Sum.inl.injEq, Prod.mk.injEq] at hs
        obtain ⟨rfl, rfl, rfl, rfl⟩ := hs
        simp only [Nat.sub_self, Nat.add_zero] at kk
        intro γ κ sh H locs lsC hn0 hg hR hS hL hO
        exact lv_if_ne hx hb hd ht (fun _ => kk γ κ sh H locs lsC hn0 hg hR hS hL (sd_Ot hO)) (fun z => absurd z hc)
    | lt =>
      simp only at hs
      split at hs
      · rename_i hc
        simp only [am_nx, Option.some.injEq, Sum.inl.injEq, Prod.mk.injEq] at hs
        obtain ⟨rfl, rfl, rfl, rfl⟩ := hs
        simp only [Nat.sub_self, Nat.add_zero] at kk
        intro γ κ sh H locs lsC hn0 hg hR hS hL hO
        exact lv_if_lt hx hb hd ht (fun _ => kk γ κ sh H locs lsC hn0 hg hR hS hL (sd_Ot hO)) (fun z => absurd hc z)
      · rename_i hc
        simp only [am_nx, Option.some.injEq, Sum.inl.injEq, Prod.mk.injEq] at hs
        obtain ⟨rfl, rfl, rfl, rfl⟩ := hs
        simp only [Nat.sub_self, Nat.add_zero] at kk
        intro γ κ sh H locs lsC hn0 hg hR hS hL hO
        exact lv_if_lt hx hb hd ht (fun z => absurd z hc) (fun _ => kk γ κ sh H locs lsC hn0 hg hR hS hL (sd_Ot hO))
    | ge =>
      simp only at hs
      split at hs
      · rename_i hc
        simp only [am_nx, Option.some.injEq, Sum.inl.injEq, Prod.mk.injEq] at hs
        obtain ⟨rfl, rfl, rfl, rfl⟩ := hs
        simp only [Nat.sub_self, Nat.add_zero] at kk
        intro γ κ sh H locs lsC hn0 hg hR hS hL hO
        exact lv_if_ge hx hb hd ht (fun _ => kk γ κ sh H locs lsC hn0 hg hR hS hL (sd_Ot hO)) (fun z => absurd hc z)
      · rename_i hc
        simp only [am_nx, Option.some.injEq, Sum.inl.injEq, Prod.mk.injEq] at hs
        obtain ⟨rfl, rfl, rfl, rfl⟩ := hs
        simp only [Nat.sub_self, Nat.add_zero] at kk
        intro γ κ sh H locs lsC hn0 hg hR hS hL hO
        exact lv_if_ge hx hb hd ht (fun z => absurd z hc) (fun _ => kk γ κ sh H locs lsC hn0 hg hR hS hL (sd_Ot hO))
    | gt =>
      simp only at hs
      split at hs
      · rename_i hc
        simp only [am_nx, Option.some.injEq, Sum.inl.injEq, Prod.mk.injEq] at hs
        obtain ⟨rfl, rfl, rfl, rfl⟩ := hs
        simp only [Nat.sub_self, Nat.add_zero] at kk
        intro γ κ sh H locs lsC hn0 hg hR hS hL hO
        exact lv_if_gt hx hb hd ht (fun _ => kk γ κ sh H locs lsC hn0 hg hR hS hL (sd_Ot hO)) (fun z => absurd hc z)
      · rename_i hc
        simp only [am_nx, Option.some.injEq, Sum.inl.injEq, Prod.mk.injEq] at hs
        obtain ⟨rfl, rfl, rfl, rfl⟩ := hs
        simp only [Nat.sub_self, Nat.add_zero] at kk
        intro γ κ sh H locs lsC hn0 hg hR hS hL hO
        exact lv_if_gt hx hb hd ht (fun z => absurd z hc) (fun _ => kk γ κ sh H locs lsC hn0 hg hR hS hL (sd_Ot hO))
    | le =>
      simp only at hs
      split at hs
      · rename_i hc
        simp only [am_nx, Option.some.injEq, Sum.inl.injEq, Prod.mk.injEq] at hs
        obtain ⟨rfl, rfl, rfl, rfl⟩ := hs
        simp only [Nat.sub_self, Nat.add_zero] at kk
        intro γ κ sh H locs lsC hn0 hg hR hS hL hO
        exact lv_if_le hx hb hd ht (fun _ => kk γ κ sh H locs lsC hn0 hg hR hS hL (sd_Ot hO)) (fun z => absurd hc z)
      · rename_i hc
        simp only [am_nx, Option.some.injEq, Sum.inl.injEq, Prod.mk.injEq] at hs
        obtain ⟨rfl, rfl, rfl, rfl⟩ := hs
        simp only [Nat.sub_self, Nat.add_zero] at kk
        intro γ κ sh H locs lsC hn0 hg hR hS hL hO
        exact lv_if_le hx hb hd ht (fun z => absurd z hc) (fun _ => kk γ κ sh H locs lsC hn0 hg hR hS hL (sd_Ot hO))
  · cases hs
theorem sm_if_icmp {op : Jvm.ClassFile.Cond} {n : Int} (C : sd_Cx p s m args meth c j D A) (hv : sd_vb j pc (.if_icmp op n, len, a, b, cq, q) = true) (hs : am_stp pc (.if_icmp op n) len a b cq ls st h = some (.inl (pc2, ls2, st2, h2)))
    (kk : sd_W p l e R s m args below meth c D A n0 γ0 κ0 sh0 Q j (cells + (h2.1.1 - h.1.1)) (slots + (h2.1.2 - h.1.2)) pc2 ls2 st2 h2) : sd_W p l e R s m args below meth c D A n0 γ0 κ0 sh0 Q j cells slots pc ls st h := by
  obtain ⟨hx, hb, hml, hr, hlk, hown, hts, hnm, hKB, hA⟩ := C
  simp only [sd_vb, Bool.and_eq_true, decide_eq_true_eq, beq_iff_eq] at hv
  obtain ⟨hd, rfl, ht⟩ := hv
  simp only [am_stp] at hs
  split at hs
  · cases op with
    | eq =>
      simp only at hs
      split at hs
      · rename_i hc
        simp only [am_nx, Option.some.injEq, Sum.inl.injEq, Prod.mk.injEq] at hs
        obtain ⟨rfl, rfl, rfl, rfl⟩ := hs
        simp only [Nat.sub_self, Nat.add_zero] at kk
        intro γ κ sh H locs lsC hn0 hg hR hS hL hO
        exact lv_icmp_eq hx hb hd ht (fun _ => kk γ κ sh H locs lsC hn0 hg hR hS hL (sd_Ot (sd_Ot hO))) (fun z => absurd hc z)
      · rename_i hc
        simp only [am_nx, Option.some.injEq, Sum.inl.injEq, Prod.mk.injEq] at hs
        obtain ⟨rfl, rfl, rfl, rfl⟩ := hs
        simp only [Nat.sub_self, Nat.add_zero] at kk
        intro γ κ sh H locs lsC hn0 hg hR hS hL hO
        exact lv_icmp_eq hx hb hd ht (fun z => absurd z hc) (fun _ => kk γ κ sh H locs lsC hn0 hg hR hS hL (sd_Ot (sd_Ot hO)))
    | ne =>
      simp only at hs
      split at hs
      · rename_i hc
        simp only [am_nx, Option.some.injEq, Sum.inl.injEq, Prod.mk.injEq] at hs
        obtain ⟨rfl, rfl, rfl, rfl⟩ := hs
        simp only [Nat.sub_self, Nat.add_zero] at kk
        intro γ κ sh H locs lsC hn0 hg hR hS hL hO
        exact lv_icmp_ne hx hb hd ht (fun z => absurd hc z) (fun _ => kk γ κ sh H locs lsC hn0 hg hR hS hL (sd_Ot (sd_Ot hO)))
      · rename_i hc
        simp only [am_nx, Option.some.injEq, Sum.inl.injEq, Prod.mk.injEq] at hs
        obtain ⟨rfl, rfl, rfl, rfl⟩ := hs
        simp only [Nat.sub_self, Nat.add_zero] at kk
        intro γ κ sh H locs lsC hn0 hg hR hS hL hO
        exact lv_icmp_ne hx hb hd ht (fun _ => kk γ κ sh H locs lsC hn0 hg hR hS hL (sd_Ot (sd_Ot hO))) (fun z => absurd z hc)
    | lt =>
      simp only at hs
      split at hs
      · rename_i hc
        simp only [am_nx, Option.some.injEq, Sum.inl.injEq, Prod.mk.injEq] at hs
        obtain ⟨rfl, rfl, rfl, rfl⟩ := hs
        simp only [Nat.sub_self, Nat.add_zero] at kk
        intro γ κ sh H locs lsC hn0 hg hR hS hL hO
        exact lv_icmp_lt hx hb hd ht (fun _ => kk γ κ sh H locs lsC hn0 hg hR hS hL (sd_Ot (sd_Ot hO))) (fun z => absurd hc z)
      · rename_i hc
        simp only [am_nx, Option.some.injEq, Sum.inl.injEq, Prod.mk.injEq] at hs
        obtain ⟨rfl, rfl, rfl, rfl⟩ := hs
        simp only [Nat.sub_self, Nat.add_zero] at kk
        intro γ κ sh H locs lsC hn0 hg hR hS hL hO
        exact lv_icmp_lt hx hb hd ht (fun z => absurd z hc) (fun _ => kk γ κ sh H locs lsC hn0 hg hR hS hL (sd_Ot (sd_Ot hO)))
    | ge =>
      simp only at hs
      split at hs
      · rename_i hc
        simp only [am_nx, Option.some.injEq, Sum.inl.injEq, Prod.mk.injEq] at hs
        obtain ⟨rfl, rfl, rfl, rfl⟩ := hs
        simp only [Nat.sub_self, Nat.add_zero] at kk
        intro γ κ sh H locs lsC hn0 hg hR hS hL hO
        exact lv_icmp_ge hx hb hd ht (fun _ => kk γ κ sh H locs lsC hn0 hg hR hS hL (sd_Ot (sd_Ot hO))) (fun z => absurd hc z)
      · rename_i hc
        simp only [am_nx, Option.some.injEq, Sum.inl.injEq, Prod.mk.injEq] at hs
        obtain ⟨rfl, rfl, rfl, rfl⟩ := hs
        simp only [Nat.sub_self, Nat.add_zero] at kk
        intro γ κ sh H locs lsC hn0 hg hR hS hL hO
        exact lv_icmp_ge hx hb hd ht (fun z => absurd z hc) (fun _ => kk γ κ sh H locs lsC hn0 hg hR hS hL (sd_Ot (sd_Ot hO)))
    | gt =>
      simp only at hs
      split at hs
      · rename_i hc
        simp only [am_nx, Option.some.injEq, Sum.inl.injEq, Prod.mk.injEq] at hs
        obtain ⟨rfl, rfl, rfl, rfl⟩ := hs
        simp only [Nat.sub_self, Nat.add_zero] at kk
        intro γ κ sh H locs lsC hn0 hg hR hS hL hO
        exact lv_icmp_gt hx hb hd ht (fun _ => kk γ κ sh H locs lsC hn0 hg hR hS hL (sd_Ot (sd_Ot hO))) (fun z => absurd hc z)
      · rename_i hc
        simp only [am_nx, Option.some.injEq, Sum.inl.injEq, Prod.mk.injEq] at hs
        obtain ⟨rfl, rfl, rfl, rfl⟩ := hs
        simp only [Nat.sub_self, Nat.add_zero] at kk
        intro γ κ sh H locs lsC hn0 hg hR hS hL hO
        exact lv_icmp_gt hx hb hd ht (fun z => absurd z hc) (fun _ => kk γ κ sh H locs lsC hn0 hg hR hS hL (sd_Ot (sd_Ot hO)))
    | le =>
      simp only at hs
      split at hs
      · rename_i hc
        simp only [am_nx, Option.some.injEq, Sum.inl.injEq, Prod.mk.injEq] at hs
        obtain ⟨rfl, rfl, rfl, rfl⟩ := hs
        simp only [Nat.sub_self, Nat.add_zero] at kk
        intro γ κ sh H locs lsC hn0 hg hR hS hL hO
        exact lv_icmp_le hx hb hd ht (fun _ => kk γ κ sh H locs lsC hn0 hg hR hS hL (sd_Ot (sd_Ot hO))) (fun z => absurd hc z)
      · rename_i hc
        simp only [am_nx, Option.some.injEq, Sum.inl.injEq, Prod.mk.injEq] at hs
        obtain ⟨rfl, rfl, rfl, rfl⟩ := hs
        simp only [Nat.sub_self, Nat.add_zero] at kk
        intro γ κ sh H locs lsC hn0 hg hR hS hL hO
        exact lv_icmp_le hx hb hd ht (fun z => absurd z hc) (fun _ => kk γ κ sh H locs lsC hn0 hg hR hS hL (sd_Ot (sd_Ot hO)))
  · cases hs
theorem sm_ifnull {n : Int} (C : sd_Cx p s m args meth c j D A) (hv : sd_vb j pc (.ifnull n, len, a, b, cq, q) = true) (hs : am_stp pc (.ifnull n) len a b cq ls st h = some (.inl (pc2, ls2, st2, h2)))
    (kk : sd_W p l e R s m args below meth c D A n0 γ0 κ0 sh0 Q j (cells + (h2.1.1 - h.1.1)) (slots + (h2.1.2 - h.1.2)) pc2 ls2 st2 h2) : sd_W p l e R s m args below meth c D A n0 γ0 κ0 sh0 Q j cells slots pc ls st h := by
  obtain ⟨hx, hb, hml, hr, hlk, hown, hts, hnm, hKB, hA⟩ := C
  simp only [sd_vb, Bool.and_eq_true, decide_eq_true_eq, beq_iff_eq] at hv
  obtain ⟨hd, rfl, ht⟩ := hv
  simp only [am_stp] at hs
  split at hs
  · simp only [am_nx, Option.some.injEq, Sum.inl.injEq, Prod.mk.injEq] at hs
    obtain ⟨rfl, rfl, rfl, rfl⟩ := hs
    simp only [Nat.sub_self, Nat.add_zero] at kk
    intro γ κ sh H locs lsC hn0 hg hR hS hL hO
    refine lv_ifnullN hx hb hd ht ?_
    exact kk γ κ sh H locs lsC hn0 hg hR hS hL (sd_Ot hO)
  · simp only [am_nx, Option.some.injEq, Sum.inl.injEq, Prod.mk.injEq] at hs
    obtain ⟨rfl, rfl, rfl, rfl⟩ := hs
    simp only [Nat.sub_self, Nat.add_zero] at kk
    intro γ κ sh H locs lsC hn0 hg hR hS hL hO
    refine lv_ifnull hx hb hd ?_
    exact kk γ κ sh H locs lsC hn0 hg hR hS hL (sd_Ot hO)
  · cases hs
theorem sm_ifnonnull {n : Int} (C : sd_Cx p s m args meth c j D A) (hv : sd_vb j pc (.ifnonnull n, len, a, b, cq, q) = true) (hs : am_stp pc (.ifnonnull n) len a b cq ls st h = some (.inl (pc2, ls2, st2, h2)))
    (kk : sd_W p l e R s m args below meth c D A n0 γ0 κ0 sh0 Q j (cells + (h2.1.1 - h.1.1)) (slots + (h2.1.2 - h.1.2)) pc2 ls2 st2 h2) : sd_W p l e R s m args below meth c D A n0 γ0 κ0 sh0 Q j cells slots pc ls st h := by
  obtain ⟨hx, hb, hml, hr, hlk, hown, hts, hnm, hKB, hA⟩ := C
  simp only [sd_vb, Bool.and_eq_true, decide_eq_true_eq, beq_iff_eq] at hv
  obtain ⟨hd, rfl, ht⟩ := hv
  simp only [am_stp] at hs
  split at hs
  · simp only [am_nx, Option.some.injEq, Sum.inl.injEq, Prod.mk.injEq] at hs
    obtain ⟨rfl, rfl, rfl, rfl⟩ := hs
    simp only [Nat.sub_self, Nat.add_zero] at kk
    intro γ κ sh H locs lsC hn0 hg hR hS hL hO
    refine lv_ifnonnullN hx hb hd ?_
    exact kk γ κ sh H locs lsC hn0 hg hR hS hL (sd_Ot hO)
  · simp only [am_nx, Option.some.injEq, Sum.inl.injEq, Prod.mk.injEq] at hs
    obtain ⟨rfl, rfl, rfl, rfl⟩ := hs
    simp only [Nat.sub_self, Nat.add_zero] at kk
    intro γ κ sh H locs lsC hn0 hg hR hS hL hO
    refine lv_ifnonnull hx hb hd ht ?_
    exact kk γ κ sh H locs lsC hn0 hg hR hS hL (sd_Ot hO)
  · cases hs
theorem sm_tableswitch {d lo hi : Int} {offs : Array Int} (C : sd_Cx p s m args meth c j D A) (hv : sd_vb j pc (.tableswitch d lo hi offs, len, a, b, cq, q) = true) (hs : am_stp pc (.tableswitch d lo hi offs) len a b cq ls st h = some (.inl (pc2, ls2, st2, h2)))
    (kk : sd_W p l e R s m args below meth c D A n0 γ0 κ0 sh0 Q j (cells + (h2.1.1 - h.1.1)) (slots + (h2.1.2 - h.1.2)) pc2 ls2 st2 h2) : sd_W p l e R s m args below meth c D A n0 γ0 κ0 sh0 Q j cells slots pc ls st h := by
  obtain ⟨hx, hb, hml, hr, hlk, hown, hts, hnm, hKB, hA⟩ := C
  simp only [sd_vb, Bool.and_eq_true, decide_eq_true_eq, beq_iff_eq] at hv
  obtain ⟨hd, hd0, hof⟩ := hv
  simp only [am_stp] at hs
  split at hs
  · rename_i x r
    split at hs
    · rename_i t hsw
      simp only [am_nx, Option.some.injEq, Sum.inl.injEq, Prod.mk.injEq] at hs
      obtain ⟨rfl, rfl, rfl, rfl⟩ := hs
      simp only [Nat.sub_self, Nat.add_zero] at kk
      intro γ κ sh H locs lsC hn0 hg hR hS hL hO
      unfold am_swT at hsw
      split at hsw
      · rename_i ho
        simp only [Option.some.injEq] at hsw
        refine lv_tableOut hx hb hd ho (tgt := t) (by rw [← hsw, Int.toNat_of_nonneg hd0]) ?_
        exact kk γ κ sh H locs lsC hn0 hg hR hS hL (sd_Ot hO)
      · rename_i ho
        split at hsw
        · rename_i off hoff
          simp only [Option.some.injEq] at hsw
          have h0 : 0 ≤ (pc : Int) + off := by
            have := List.all_eq_true.mp hof off (Array.mem_toList_iff.mpr (Array.mem_of_getElem? hoff))
            simpa using this
          refine lv_tableIn hx hb hd (fun z => ho (Or.inl z)) (fun z => ho (Or.inr z)) hoff (tgt := t) (by rw [← hsw, Int.toNat_of_nonneg h0]) ?_
          exact kk γ κ sh H locs lsC hn0 hg hR hS hL (sd_Ot hO)
        · cases hsw
    · cases hs
  · cases hs
theorem sd_lkin : ∀ (ps : List (Int × Int)) (d x : Int), Op.lookupswitch.offset ps d x = d ∨ ∃ o ∈ ps, Op.lookupswitch.offset ps d x = o.2 := by
  intro ps d x
  induction ps with
  | nil => left; rfl
  | cons y r ih =>
    obtain ⟨v, o⟩ := y
    rw [Op.lookupswitch.offset]
    by_cases hv : v = x
    · rw [if_pos hv]
      right
      exact ⟨(v, o), List.mem_cons_self, rfl⟩
    · rw [if_neg hv]
      rcases ih with h1 | ⟨z, h1, h2⟩
      · exact Or.inl h1
      · exact Or.inr ⟨z, List.mem_cons_of_mem _ h1, h2⟩
theorem sm_lookupswitch {d : Int} {ps : Array (Int × Int)} (C : sd_Cx p s m args meth c j D A) (hv : sd_vb j pc (.lookupswitch d ps, len, a, b, cq, q) = true) (hs : am_stp pc (.lookupswitch d ps) len a b cq ls st h = some (.inl (pc2, ls2, st2, h2)))
    (kk : sd_W p l e R s m args below meth c D A n0 γ0 κ0 sh0 Q j (cells + (h2.1.1 - h.1.1)) (slots + (h2.1.2 - h.1.2)) pc2 ls2 st2 h2) : sd_W p l e R s m args below meth c D A n0 γ0 κ0 sh0 Q j cells slots pc ls st h := by
  obtain ⟨hx, hb, hml, hr, hlk, hown, hts, hnm, hKB, hA⟩ := C
  simp only [sd_vb, Bool.and_eq_true, decide_eq_true_eq, beq_iff_eq] at hv
  obtain ⟨hd, ⟨hp, hd0⟩, hof⟩ := hv
  simp only [am_stp] at hs
  split at hs
  · rename_i x r
    simp only [am_nx, Option.some.injEq, Sum.inl.injEq, Prod.mk.injEq] at hs
    obtain ⟨rfl, rfl, rfl, rfl⟩ := hs
    simp only [Nat.sub_self, Nat.add_zero] at kk
    intro γ κ sh H locs lsC hn0 hg hR hS hL hO
    have h0 : 0 ≤ (pc : Int) + Op.lookupswitch.offset ps.toList d x.toInt := by
      rcases sd_lkin ps.toList d x.toInt with q1 | ⟨o, q1, q2⟩
      · rw [q1]; exact hd0
      · rw [q2]
        have := List.all_eq_true.mp hof o q1
        simpa using this
    refine lv_lookup hx hb hd hp rfl (tgt := ((pc : Int) + Op.lookupswitch.offset ps.toList d x.toInt).toNat) (by rw [Int.toNat_of_nonneg h0]) ?_
    exact kk γ κ sh H locs lsC hn0 hg hR hS hL (sd_Ot hO)
  · cases hs
end SIM
