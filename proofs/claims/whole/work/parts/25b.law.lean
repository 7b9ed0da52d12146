def MI : Nat := 44
/-- what the pure half owes: both sides answer alike, and the invariant goes on -/
def lw_ok (Inv : Nat → Hp → Prop) (xm mm : Nat) (as : List Int32) : Prop := ∀ k h, Inv k h → ∃ (r : Int32) (h1 h2 : Hp), call xm (vr (0, 11, 0) :: as.map vi) h = some (some (vi r), h1) ∧ call mm (vr (MI, 12, 0) :: as.map vi) h1 = some (some (vi r), h2) ∧ Inv (k + 1) h2
section LAW
variable {p : Program} {l : Launch} {e : Env} {R : Room} {s : State} {m : MethodId} {args : Array Value} {below : List Frame} {meth : Method} {c : Code} {Q : State → Prop} {D : va_G} {A : Nat → Prop} {H : Heap} {locs : List Loc} {cells slots pc : Nat} {ls : Array Slot} {h h1 : Hp} {γ : Nat → Nat} {κ : Nat → ClassId} {sh : Nat → Nat × Nat}
/-- a call of ours out of the law -/
theorem lw_inv {a idx pl k : Nat} {as : List Int32} {r : Int32} {rest : List Value} (hx : p.tables.exec = Jvm.exec) (hb : c.code = code) (hml : c.maxLocals = 4) (hown : s.vm.findClass R_law = some m.cls) (hts : ∀ w ∈ sd_tb, w.before args s = true) (hKB : sd_KB D A s) (hA : ∀ q, s.heap.size ≤ q → A q) (hf : 100 ≤ R.frames) (hlo : 12800 ≤ R.locals)
    (hRl : sd_Rel D A γ κ sh h s H) (hS : va_S A s.heap H locs) (hl : ls.size = 4) {o : Nat} (ho : o < h.1.1) (hsh : sh o = (k, 0))
    (ha : a ∈ sd_ids) (hsf : sd_sf a = false) (hps : 0 < sd_ps a) (hcl : (sd_y a).cls = sd_R (a / 100)) (hk : k = a / 100) (hnp : as.length = sd_np a) (hrk : am_rk a (vr (o, k, 0) :: as.map vi) ≤ 60) (hal : (am_al (vr (o, k, 0) :: as.map vi)).length ≤ am_mx a) (hw : lw_tbl[pl]? = some (.methodLink R_law idx (sd_y a)))
    (hcall : call a (vr (o, k, 0) :: as.map vi) h = some (some (vi r), h1)) (hd : decode code pc = .ok (.invokevirtual idx, 3)) (hrest : (rest.map fun v => v.category).sum ≤ 8) (hc1 : cells + (h1.1.1 - h.1.1) ≤ R.cells) (hc2 : slots + (h1.1.2 - h.1.2) ≤ R.slots)
    (kk : ∀ (γ1 : Nat → Nat) (κ1 : Nat → ClassId) (sh1 : Nat → Nat × Nat) (H1 : Heap) (locs1 : List Loc), (∀ i, i < h.1.1 → γ1 i = γ i ∧ κ1 i = κ i ∧ sh1 i = sh i) → sd_Rel D A γ1 κ1 sh1 h1 s H1 → va_S A s.heap H1 locs1 → W p l e R s m args below meth c H1 locs1 (cells + (h1.1.1 - h.1.1)) (slots + (h1.1.2 - h.1.2)) Q (F0 m (pc + 3) ls (.int r :: rest))) :
    W p l e R s m args below meth c H locs cells slots Q (F0 m pc ls ((as.map Value.int).reverse ++ .ref (γ o) :: rest)) := by
  obtain ⟨n, hev⟩ := run_iff.mp hcall
  have hM := sd_met (sd_main n) hev ha hal l D A γ κ sh
  obtain ⟨mw1, -, mw3, mw4, mw5, mw6⟩ := sd_mw ha
  have hk13 : k < 13 := sd_k13 ha hk hsf
  have he := (sd_wsG (γ := γ) (κ := κ) (sh := sh) ho).trans (by rw [sd_E_obj hsh hk13])
  have hOa : ∀ x ∈ vr (o, k, 0) :: as.map vi, sd_OK sh h.1.1 x := sd_Oc (fun r hr => by cases hr; exact ⟨ho, hsh⟩) (fun x hx => by obtain ⟨z, -, rfl⟩ := List.mem_map.mp hx; exact sd_OKi)
  have hmap : (vr (o, k, 0) :: as.map vi).map (sd_cv γ) = .ref (γ o) :: as.map Value.int := by
    rw [List.map_cons, List.map_map]
    rfl
  have hrun : va_Run p l e R s m args below meth c H locs cells slots (h1.1.1 - h.1.1) (h1.1.2 - h.1.2) (F0 m pc ls ((as.map Value.int).reverse ++ .ref (γ o) :: rest)) rest (sd_Qc D A γ κ sh h.1.1 (some (vi r)) h1 (Value.ref (γ o) :: as.map Value.int).toArray) A := by
    refine va_runV (nL := 4) (b := γ o) (C := sd_R k) (As := as.map Value.int) (bytes := sd_b a) (maxL := am_mx a) (ret := sd_rt a) ⟨hx, hb, hml, hown, hts⟩ hM (cwV (ws' := sd_tb) (sd_np a) hts (sd_good ?_) rfl rfl rfl ⟨by rw [hcl, hk], mw5⟩ ?_) ⟨sd_blind, va_recv (sd_hK0 hKB) hRl.1 (sd_clk hk13) he, fun U hU hW => ?_⟩ rfl (by rw [List.length_map]; exact hnp) hl rfl (lv_room hrest) hd ⟨hc1, hc2⟩
    · intro x hx
      rcases List.mem_append.mp hx with hx | hx
      · simp only [List.mem_cons, List.not_mem_nil, or_false] at hx
        rcases hx with rfl | rfl | rfl | rfl
        · exact sd_in pl hw rfl
        · exact mw3 hsf
        · rw [hk, ← hcl]; exact mw4 hps
        · rw [hk, ← hcl]; exact mw1.2
      · exact sd_wdT ha x hx
    · unfold sd_rm
      generalize am_mx a = z at mw6 ⊢
      generalize am_rk a (vr (o, k, 0) :: as.map vi) = y at hrk ⊢
      constructor
      · show y + 10 + 1 ≤ _; omega
      · show 8 + (z + 11) + 128 * (y + 10) ≤ _
        have := Nat.mul_le_mul_left 128 (show y + 10 ≤ 70 by omega)
        generalize 128 * (y + 10) = w at this ⊢
        omega
    · refine ⟨by rw [hmap], sd_KB_moved hW (fun x g1 g2 => by rw [hU]; exact hS.2.1 x g1 g2) hKB, fun q hq => hA q (by rw [hU] at hq; exact Nat.le_trans hS.1 hq), ?_, hOa⟩
      rw [hU]
      exact ⟨hRl.1, hRl.2.1, sd_G_moved hW.alike hRl.2.2⟩
  refine sd_callK hrun (fun _ _ _ q => q.2) hS (fun vv st₀ t locs1 hvm hq hS1 => ?_)
  obtain ⟨⟨γ1, κ1, sh1, hg1, hv, hok, hRl1⟩, -⟩ := hq
  cases hv
  exact kk γ1 κ1 sh1 t.heap locs1 hg1 ⟨hRl1.1, hRl1.2.1, sd_G_moved hvm.symm hRl1.2.2⟩ hS1
/-- a constructor of ours out of the law -/
theorem lw_ini {a idx pl k : Nat} {rest : List Value} (hx : p.tables.exec = Jvm.exec) (hb : c.code = code) (hml : c.maxLocals = 4) (hown : s.vm.findClass R_law = some m.cls) (hts : ∀ w ∈ sd_tb, w.before args s = true) (hKB : sd_KB D A s) (hA : ∀ q, s.heap.size ≤ q → A q) (hf : 100 ≤ R.frames) (hlo : 12800 ≤ R.locals)
    (hRl : sd_Rel D A γ κ sh h s H) (hS : va_S A s.heap H locs) (hl : ls.size = 4) {o : Nat} (ho : o < h.1.1) (hsh : sh o = (k, 0))
    (ha : a ∈ sd_ids) (hsf : sd_sf a = false) (hnm : (sd_y a).name = "<init>") (hrt : sd_rt a = none) (hnp : 0 = sd_np a) (hrk : am_rk a [vr (o, k, 0)] ≤ 60) (hal : (am_al [vr (o, k, 0)]).length ≤ am_mx a) (hw : lw_tbl[pl]? = some (.methodLink R_law idx (sd_y a)))
    (hcall : call a [vr (o, k, 0)] h = some (none, h1)) (hd : decode code pc = .ok (.invokespecial idx, 3)) (hrest : (rest.map fun v => v.category).sum ≤ 8) (hc1 : cells + (h1.1.1 - h.1.1) ≤ R.cells) (hc2 : slots + (h1.1.2 - h.1.2) ≤ R.slots)
    (kk : ∀ (γ1 : Nat → Nat) (κ1 : Nat → ClassId) (sh1 : Nat → Nat × Nat) (H1 : Heap) (locs1 : List Loc), (∀ i, i < h.1.1 → γ1 i = γ i ∧ κ1 i = κ i ∧ sh1 i = sh i) → sd_Rel D A γ1 κ1 sh1 h1 s H1 → va_S A s.heap H1 locs1 → W p l e R s m args below meth c H1 locs1 (cells + (h1.1.1 - h.1.1)) (slots + (h1.1.2 - h.1.2)) Q (F0 m (pc + 3) ls rest)) :
    W p l e R s m args below meth c H locs cells slots Q (F0 m pc ls (.ref (γ o) :: rest)) := by
  obtain ⟨n, hev⟩ := run_iff.mp hcall
  have hM := sd_met (sd_main n) hev ha hal l D A γ κ sh
  obtain ⟨mw1, -, mw3, -, mw5, mw6⟩ := sd_mw ha
  have hOa : ∀ x ∈ [vr (o, k, 0)], sd_OK sh h.1.1 x := sd_Oc (fun r hr => by cases hr; exact ⟨ho, hsh⟩) (fun x hx => absurd hx List.not_mem_nil)
  have hrun : va_Run p l e R s m args below meth c H locs cells slots (h1.1.1 - h.1.1) (h1.1.2 - h.1.2) (F0 m pc ls (.ref (γ o) :: rest)) rest (sd_Qc D A γ κ sh h.1.1 none h1 (Value.ref (γ o) :: ([] : List Value)).toArray) A := by
    refine va_runI (nL := 4) (b := γ o) (As := []) (bytes := sd_b a) (maxL := am_mx a) ⟨hx, hb, hml, hown, hts⟩ hM (cwI (ws' := sd_tb) 0 hts (sd_good (sd_wdT ha)) (by rw [sd_wd, hrt]) rfl rfl (hts _ mw1.2) (hts _ (sd_in pl hw rfl)) (hts _ (mw3 hsf)) hnm ⟨mw5.1, mw5.2.1, by rw [mw5.2.2, ← hnp]⟩ ?_) ⟨sd_blind, fun U hU hW => ?_⟩ rfl rfl hl rfl (lv_room hrest) hd ⟨hc1, hc2⟩
    · unfold sd_rm
      generalize am_mx a = z at mw6 ⊢
      generalize am_rk a [vr (o, k, 0)] = y at hrk ⊢
      constructor
      · show y + 10 + 1 ≤ _; omega
      · show 8 + (z + 11) + 128 * (y + 10) ≤ _
        have := Nat.mul_le_mul_left 128 (show y + 10 ≤ 70 by omega)
        generalize 128 * (y + 10) = w at this ⊢
        omega
    · refine ⟨rfl, sd_KB_moved hW (fun x g1 g2 => by rw [hU]; exact hS.2.1 x g1 g2) hKB, fun q hq => hA q (by rw [hU] at hq; exact Nat.le_trans hS.1 hq), ?_, hOa⟩
      rw [hU]
      exact ⟨hRl.1, hRl.2.1, sd_G_moved hW.alike hRl.2.2⟩
  refine sd_callK hrun (fun _ _ _ q => q.2) hS (fun vv st₀ t locs1 hvm hq hS1 => ?_)
  obtain ⟨⟨γ1, κ1, sh1, hg1, hv, hok, hRl1⟩, -⟩ := hq
  cases hv
  exact kk γ1 κ1 sh1 t.heap locs1 hg1 ⟨hRl1.1, hRl1.2.1, sd_G_moved hvm.symm hRl1.2.2⟩ hS1
/-- a new object in the law -/
theorem lw_new {a idx pl : Nat} {rest : List Value} (hx : p.tables.exec = Jvm.exec) (hb : c.code = code) (hown : s.vm.findClass R_law = some m.cls) (hts : ∀ w ∈ sd_tb, w.before args s = true) (hKB : sd_KB D A s) (hA : ∀ q, s.heap.size ≤ q → A q) (hRl : sd_Rel D A γ κ sh h s H) (hS : va_S A s.heap H locs) (ha : a < 13) (hq : lw_tbl[pl]? = some (.classLink R_law idx (sd_R a))) (hd : decode code pc = .ok (.new idx, 3)) (hc1 : cells + 1 ≤ R.cells) (hc2 : slots + sd_N a ≤ R.slots)
    (kk : ∀ (γ1 : Nat → Nat) (κ1 : Nat → ClassId) (sh1 : Nat → Nat × Nat) (H1 : Heap) (locs1 : List Loc), (∀ i, i < h.1.1 → γ1 i = γ i ∧ κ1 i = κ i ∧ sh1 i = sh i) → sh1 h.1.1 = (a, 0) → sd_Rel D A γ1 κ1 sh1 (hmk h (sd_N a)) s H1 → va_S A s.heap H1 locs1 → W p l e R s m args below meth c H1 locs1 (cells + 1) (slots + sd_N a) Q (F0 m (pc + 3) ls (.ref (γ1 h.1.1) :: rest))) :
    W p l e R s m args below meth c H locs cells slots Q (F0 m pc ls rest) := by
  refine va_new (ci := a) (fs := sd_fs γ (hmk h (sd_N a)) a h.1.1) (C := sd_R a) (T := sd_T a) (N := sd_N a) hx hb hts (sd_inT ha) (sd_ty a) (sd_tyo ha) hown (hts _ (sd_in pl hq rfl)) (sd_cl_nw hts ha).1 (sd_cl_nw hts ha).2 (sd_hK0 hKB) hRl.1 hRl.2.1 hS hA (sd_clk ha) (fun z hz => ?_) hc1 hc2 hd (fun q0 H1 hP hD hS1 => ?_)
  · rw [sd_dv ha z hz]
    have : vp_V (sd_fs γ (hmk h (sd_N a)) a h.1.1) z = sd_fv γ (hmk h (sd_N a)) a h.1.1 z := by simp [vp_V, sd_fsG hz]
    rw [this]
    simp only [sd_fv, hI_hmk, hR_hmk, if_true, Option.map_none]
    rfl
  · have hE : sd_E (sd_up γ h.1.1 q0) (sd_up κ h.1.1 0) (sd_up sh h.1.1 (a, 0)) (hmk h (sd_N a)) h.1.1 = .inr (a, sd_fs γ (hmk h (sd_N a)) a h.1.1) := by
      rw [sd_E_obj (k := a) (z := 0) sd_up_eq ha]
      have : sd_fs (sd_up γ h.1.1 q0) (hmk h (sd_N a)) a h.1.1 = sd_fs γ (hmk h (sd_N a)) a h.1.1 := by
        unfold sd_fs
        refine List.map_congr_left fun z _ => ?_
        simp only [sd_fv, hR_hmk, if_true, Option.map_none]
      rw [this]
    rw [← hE, ← sd_wsP hRl.2.2] at hP hD
    have := kk (sd_up γ h.1.1 q0) (sd_up κ h.1.1 0) (sd_up sh h.1.1 (a, 0)) H1 locs (fun i hi => ⟨sd_up_lt hi, sd_up_lt hi, sd_up_lt hi⟩) sd_up_eq ⟨hP, hD, sd_G_mk hRl.2.2 (by omega) (fun z => absurd z (by omega))⟩ hS1
    rw [sd_up_eq] at this
    exact this
end LAW
