/-- the words behind a virtual call -/
def sd_VW (a k t : Nat) : Prop := t ∈ sd_ids ∧ k < 13 ∧ sd_sf t = false ∧ Cond.sameMethod (sd_vx a).cls (sd_vo a) (sd_vx a).name (sd_vx a).desc ∈ sd_tb ∧ Cond.instanceMethod ⟨sd_vo a, (sd_vx a).name, (sd_vx a).desc⟩ ∈ sd_tb ∧ Cond.selects (sd_R k) (sd_vx a) (sd_y t) ∈ sd_tb ∧ (∃ b0 m0 r0, Cond.code ⟨sd_vo a, (sd_vx a).name, (sd_vx a).desc⟩ b0 m0 r0 ∈ sd_tb) ∧ sd_vo a ≠ "java/lang/invoke/MethodHandle" ∧ sd_vo a ≠ "java/lang/invoke/VarHandle"
theorem sd_vw0_9 : sd_VW 0 9 902 := ⟨by decide +kernel, by decide, by decide, sd_in 575 (by decide +kernel) rfl, sd_in 573 (by decide +kernel) rfl, sd_in 574 (by decide +kernel) rfl, ⟨prog_11_method_3_code, 1, some .int, sd_in 591 (by decide +kernel) rfl⟩, by decide, by decide⟩
theorem sd_vw0_3 : sd_VW 0 3 301 := ⟨by decide +kernel, by decide, by decide, sd_in 575 (by decide +kernel) rfl, sd_in 573 (by decide +kernel) rfl, sd_in 582 (by decide +kernel) rfl, ⟨prog_11_method_3_code, 1, some .int, sd_in 591 (by decide +kernel) rfl⟩, by decide, by decide⟩
theorem sd_vw0_2 : sd_VW 0 2 201 := ⟨by decide +kernel, by decide, by decide, sd_in 575 (by decide +kernel) rfl, sd_in 573 (by decide +kernel) rfl, sd_in 579 (by decide +kernel) rfl, ⟨prog_11_method_3_code, 1, some .int, sd_in 591 (by decide +kernel) rfl⟩, by decide, by decide⟩
theorem sd_vw0_1 : sd_VW 0 1 101 := ⟨by decide +kernel, by decide, by decide, sd_in 575 (by decide +kernel) rfl, sd_in 573 (by decide +kernel) rfl, sd_in 576 (by decide +kernel) rfl, ⟨prog_11_method_3_code, 1, some .int, sd_in 591 (by decide +kernel) rfl⟩, by decide, by decide⟩
theorem sd_vw0_8 : sd_VW 0 8 801 := ⟨by decide +kernel, by decide, by decide, sd_in 575 (by decide +kernel) rfl, sd_in 573 (by decide +kernel) rfl, sd_in 588 (by decide +kernel) rfl, ⟨prog_11_method_3_code, 1, some .int, sd_in 591 (by decide +kernel) rfl⟩, by decide, by decide⟩
theorem sd_vw0_6 : sd_VW 0 6 601 := ⟨by decide +kernel, by decide, by decide, sd_in 575 (by decide +kernel) rfl, sd_in 573 (by decide +kernel) rfl, sd_in 585 (by decide +kernel) rfl, ⟨prog_11_method_3_code, 1, some .int, sd_in 591 (by decide +kernel) rfl⟩, by decide, by decide⟩
theorem sd_vw1_9 : sd_VW 1 9 903 := ⟨by decide +kernel, by decide, by decide, sd_in 599 (by decide +kernel) rfl, sd_in 597 (by decide +kernel) rfl, sd_in 598 (by decide +kernel) rfl, ⟨prog_11_method_4_code, 4, some .int, sd_in 672 (by decide +kernel) rfl⟩, by decide, by decide⟩
theorem sd_vw1_3 : sd_VW 1 3 302 := ⟨by decide +kernel, by decide, by decide, sd_in 599 (by decide +kernel) rfl, sd_in 597 (by decide +kernel) rfl, sd_in 667 (by decide +kernel) rfl, ⟨prog_11_method_4_code, 4, some .int, sd_in 672 (by decide +kernel) rfl⟩, by decide, by decide⟩
theorem sd_vw1_2 : sd_VW 1 2 202 := ⟨by decide +kernel, by decide, by decide, sd_in 599 (by decide +kernel) rfl, sd_in 597 (by decide +kernel) rfl, sd_in 651 (by decide +kernel) rfl, ⟨prog_11_method_4_code, 4, some .int, sd_in 672 (by decide +kernel) rfl⟩, by decide, by decide⟩
theorem sd_vw1_1 : sd_VW 1 1 302 := ⟨by decide +kernel, by decide, by decide, sd_in 599 (by decide +kernel) rfl, sd_in 597 (by decide +kernel) rfl, sd_in 600 (by decide +kernel) rfl, ⟨prog_11_method_4_code, 4, some .int, sd_in 672 (by decide +kernel) rfl⟩, by decide, by decide⟩
theorem sd_vw1_8 : sd_VW 1 8 802 := ⟨by decide +kernel, by decide, by decide, sd_in 599 (by decide +kernel) rfl, sd_in 597 (by decide +kernel) rfl, sd_in 669 (by decide +kernel) rfl, ⟨prog_11_method_4_code, 4, some .int, sd_in 672 (by decide +kernel) rfl⟩, by decide, by decide⟩
theorem sd_vw1_6 : sd_VW 1 6 302 := ⟨by decide +kernel, by decide, by decide, sd_in 599 (by decide +kernel) rfl, sd_in 597 (by decide +kernel) rfl, sd_in 668 (by decide +kernel) rfl, ⟨prog_11_method_4_code, 4, some .int, sd_in 672 (by decide +kernel) rfl⟩, by decide, by decide⟩
theorem sd_vw2_9 : sd_VW 2 9 904 := ⟨by decide +kernel, by decide, by decide, sd_in 1338 (by decide +kernel) rfl, sd_in 609 (by decide +kernel) rfl, sd_in 1344 (by decide +kernel) rfl, ⟨prog_11_method_5_code, 5, some .int, sd_in 610 (by decide +kernel) rfl⟩, by decide, by decide⟩
theorem sd_vw3_3 : sd_VW 3 3 303 := ⟨by decide +kernel, by decide, by decide, sd_in 623 (by decide +kernel) rfl, sd_in 621 (by decide +kernel) rfl, sd_in 622 (by decide +kernel) rfl, ⟨prog_5_method_4_code, 4, some .int, sd_in 639 (by decide +kernel) rfl⟩, by decide, by decide⟩
theorem sd_vw3_1 : sd_VW 3 1 102 := ⟨by decide +kernel, by decide, by decide, sd_in 623 (by decide +kernel) rfl, sd_in 621 (by decide +kernel) rfl, sd_in 624 (by decide +kernel) rfl, ⟨prog_5_method_4_code, 4, some .int, sd_in 639 (by decide +kernel) rfl⟩, by decide, by decide⟩
theorem sd_vw3_6 : sd_VW 3 6 602 := ⟨by decide +kernel, by decide, by decide, sd_in 623 (by decide +kernel) rfl, sd_in 621 (by decide +kernel) rfl, sd_in 631 (by decide +kernel) rfl, ⟨prog_5_method_4_code, 4, some .int, sd_in 639 (by decide +kernel) rfl⟩, by decide, by decide⟩
theorem sd_vw4_3 : sd_VW 4 3 904 := ⟨by decide +kernel, by decide, by decide, sd_in 604 (by decide +kernel) rfl, sd_in 609 (by decide +kernel) rfl, sd_in 607 (by decide +kernel) rfl, ⟨prog_11_method_5_code, 5, some .int, sd_in 610 (by decide +kernel) rfl⟩, by decide, by decide⟩
theorem sd_vw4_1 : sd_VW 4 1 904 := ⟨by decide +kernel, by decide, by decide, sd_in 604 (by decide +kernel) rfl, sd_in 609 (by decide +kernel) rfl, sd_in 606 (by decide +kernel) rfl, ⟨prog_11_method_5_code, 5, some .int, sd_in 610 (by decide +kernel) rfl⟩, by decide, by decide⟩
theorem sd_vw4_6 : sd_VW 4 6 904 := ⟨by decide +kernel, by decide, by decide, sd_in 604 (by decide +kernel) rfl, sd_in 609 (by decide +kernel) rfl, sd_in 608 (by decide +kernel) rfl, ⟨prog_11_method_5_code, 5, some .int, sd_in 610 (by decide +kernel) rfl⟩, by decide, by decide⟩
theorem sd_vw5_2 : sd_VW 5 2 904 := ⟨by decide +kernel, by decide, by decide, sd_in 655 (by decide +kernel) rfl, sd_in 609 (by decide +kernel) rfl, sd_in 656 (by decide +kernel) rfl, ⟨prog_11_method_5_code, 5, some .int, sd_in 610 (by decide +kernel) rfl⟩, by decide, by decide⟩
theorem sd_vw {a k t : Nat} (ha : a < 6) (h : am_vt a k = some t) : sd_VW a k t := by
  unfold am_vt at h
  split at h
  · split at h
    · cases h; exact sd_vw0_9
    · cases h; exact sd_vw0_3
    · cases h; exact sd_vw0_2
    · cases h; exact sd_vw0_1
    · cases h; exact sd_vw0_8
    · cases h; exact sd_vw0_6
    · cases h
  · split at h
    · cases h; exact sd_vw1_9
    · cases h; exact sd_vw1_3
    · cases h; exact sd_vw1_2
    · cases h; exact sd_vw1_1
    · cases h; exact sd_vw1_8
    · cases h; exact sd_vw1_6
    · cases h
  · split at h
    · cases h; exact sd_vw2_9
    · cases h
  · split at h
    · cases h; exact sd_vw3_3
    · cases h; exact sd_vw3_1
    · cases h; exact sd_vw3_6
    · cases h
  · split at h
    · cases h; exact sd_vw4_3
    · cases h; exact sd_vw4_1
    · cases h; exact sd_vw4_6
    · cases h
  · split at h
    · cases h; exact sd_vw5_2
    · cases h
  · cases h
theorem sd_mw {a : Nat} (ha : a ∈ sd_ids) : (Cond.code (sd_y a) (sd_b a) (am_mx a) (sd_rt a) ∈ sd_tb ∧ Cond.initialized (sd_y a).cls ∈ sd_tb) ∧ (sd_sf a = true → Cond.static (sd_y a) ∈ sd_tb) ∧ (sd_sf a = false → Cond.instanceMethod (sd_y a) ∈ sd_tb) ∧ (0 < sd_ps a → Cond.selects (sd_y a).cls (sd_y a) (sd_y a) ∈ sd_tb) ∧
    ((sd_y a).cls ≠ "java/lang/invoke/MethodHandle" ∧ (sd_y a).cls ≠ "java/lang/invoke/VarHandle" ∧ (parseMethodDescriptor (sd_y a).desc).map (fun d => d.parameters.length) = some (sd_np a)) ∧ am_mx a ≤ 60 := by
  have hmb := (sd_mall a ha).1
  simp only [sd_mb, Bool.and_eq_true, Bool.or_eq_true, decide_eq_true_eq, beq_iff_eq] at hmb
  obtain ⟨⟨⟨⟨⟨⟨⟨⟨h1, h2⟩, h3⟩, h4⟩, h5⟩, h6⟩, h7⟩, h8⟩, h9⟩ := hmb
  refine ⟨⟨sd_in _ h1 rfl, sd_in _ h2 rfl⟩, fun hs => ?_, fun hs => ?_, fun hs => ?_, ⟨h5, h6, h8⟩, h9⟩
  · rw [if_pos hs] at h3
    exact sd_in _ (by simpa using h3) rfl
  · rw [if_neg (by rw [hs]; simp)] at h3
    exact sd_in _ (by simpa using h3) rfl
  · rcases h4 with h4 | h4
    · omega
    · exact sd_in _ h4 rfl
theorem sd_lt13 : ∀ a ∈ sd_ids, sd_sf a = false → a < 1300 := by decide +kernel
theorem sd_k13 {a k : Nat} (ha : a ∈ sd_ids) (hk : k = a / 100) (hs : sd_sf a = false) : k < 13 := by
  have := sd_lt13 a ha hs
  omega
theorem sd_wdT {a : Nat} (ha : a ∈ sd_ids) : ∀ w ∈ sd_wd a, w ∈ sd_tb := by
  intro w hw
  rcases List.mem_cons.mp hw with rfl | hw
  · exact (sd_mw ha).1.1
  · exact hw
section SIM
variable {p : Program} {l : Launch} {e : Env} {R : Room} {s : State} {m : MethodId} {args : Array Value} {below : List Frame} {meth : Method} {c : Code} {Q : State → Prop} {D : va_G} {A : Nat → Prop} {n0 : Nat} {γ0 : Nat → Nat} {κ0 : Nat → ClassId} {sh0 : Nat → Nat × Nat} {j cells slots pc pc2 len a b cq q : Nat} {ls ls2 : Lc} {st st2 : List AV} {h h2 : Hp}
set_option maxRecDepth 8000 in
/-- what a call needs of the room -/
theorem sd_roomC {d d2 a mc ms : Nat} (hx : am_mx a ≤ 60) (hd : d2 < d) (h1 : d + 10 ≤ R.frames) (h2 : 128 * (d + 10) ≤ R.locals) : (sd_rm d2 mc ms).frames + 1 ≤ R.frames ∧ 8 + (am_mx a + 11) + (sd_rm d2 mc ms).locals ≤ R.locals := by
  unfold sd_rm
  generalize am_mx a = z at hx ⊢
  constructor
  · dsimp only; omega
  · dsimp only; omega
/-- a call and what comes behind it -/
theorem sd_callW {n d : Nat} {r : List AV} {v1 v : Option AV} {h1 h3 : Hp} {γ : Nat → Nat} {κ : Nat → ClassId} {sh : Nat → Nat × Nat} {H : Heap} {locs : List Loc} {lsC : Array Slot} {st0 : List Value} {mc ms : Nat} (hP : sd_P n) (C : sd_Cx p s m args meth c j D A) (hj : j ∈ sd_ids) (hf : d + 10 ≤ R.frames) (hlo : 128 * (d + 10) ≤ R.locals)
    (hev : ev n d j (pc + 3) ls (v1.toList ++ r) h1 = some (v, h3)) (hm1 : cells + (h1.1.1 - h.1.1) + (h3.1.1 - h1.1.1) = mc) (hm2 : slots + (h1.1.2 - h.1.2) + (h3.1.2 - h1.1.2) = ms) (hc1 : mc ≤ R.cells) (hc2 : ms ≤ R.slots) (hle : h.1.1 ≤ h1.1.1)
    (hn0 : n0 ≤ h.1.1) (hg : ∀ i, i < n0 → γ i = γ0 i ∧ κ i = κ0 i ∧ sh i = sh0 i) (hS : va_S A s.heap H locs) (hL : sd_LR γ sh h.1.1 ls lsC (am_mx j)) (hO : ∀ w ∈ r, sd_OK sh h.1.1 w) (av : Array Value)
    (hr : va_Run p l e R s m args below meth c H locs cells slots (h1.1.1 - h.1.1) (h1.1.2 - h.1.2) (F0 m pc lsC st0) (r.map (sd_cv γ)) (sd_Qc D A γ κ sh h.1.1 v1 h1 av) A) :
    W p l e R s m args below meth c H locs cells slots (MQ below (sd_Qc D A γ0 κ0 sh0 n0 v h3) args s mc ms A) (F0 m pc lsC st0) := by
  refine sd_callK hr (fun _ _ _ q => q.2) hS (fun vv st₀ t locs1 hvm hq hS1 => ?_)
  obtain ⟨⟨γ1, κ1, sh1, hg1, hv, hok, hRl⟩, -⟩ := hq
  cases hv
  have hRl2 : sd_Rel D A γ1 κ1 sh1 h1 s t.heap := ⟨hRl.1, hRl.2.1, sd_G_moved hvm.symm hRl.2.2⟩
  have hO1 : ∀ w ∈ v1.toList ++ r, sd_OK sh1 h1.1.1 w := by
    intro w hw
    rcases List.mem_append.mp hw with hw | hw
    · exact hok w (Option.mem_toList.mp hw)
    · exact sd_OK_ext hle (fun i hi => (hg1 i hi).2.2) (hO w hw)
  have := hP d j (pc + 3) ls (v1.toList ++ r) h1 v h3 hev hj p l e R s m args below meth c D A n0 γ0 κ0 sh0 (cells + (h1.1.1 - h.1.1)) (slots + (h1.1.2 - h.1.2)) mc ms C hf hlo hm1 hm2 hc1 hc2 γ1 κ1 sh1 t.heap locs1 lsC (by omega)
    (fun i hi => by rw [(hg1 i (by omega)).1, (hg1 i (by omega)).2.1, (hg1 i (by omega)).2.2]; exact hg i hi) hRl2 hS1 (sd_LR_ext hle (fun i hi => (hg1 i hi).1) (fun i hi => (hg1 i hi).2.2) hL) hO1
  rw [List.map_append, sd_map_ext (fun i hi => (hg1 i hi).1) hO] at this
  have e : (v1.map (sd_cv γ1)).toList = v1.toList.map (sd_cv γ1) := by cases v1 <;> rfl
  rw [e]
  exact this
theorem sd_pre {as : List AV} {γ : Nat → Nat} {κ : Nat → ClassId} {sh : Nat → Nat × Nat} {H : Heap} {locs : List Loc} (C : sd_Cx p s m args meth c j D A) (hRl : sd_Rel D A γ κ sh h s H) (hS : va_S A s.heap H locs) (hO : ∀ w ∈ as, sd_OK sh h.1.1 w) : PreS s H (sd_Pc D A γ κ sh h as) (as.map (sd_cv γ)) := by
  obtain ⟨hx, hb, hml, hr, hlk, hown, hts, hnm, hKB, hA⟩ := C
  refine ⟨sd_blind, fun U hU hW => ⟨rfl, sd_KB_moved hW (fun x g1 g2 => by rw [hU]; exact hS.2.1 x g1 g2) hKB, fun q hq => hA q (by rw [hU] at hq; exact Nat.le_trans hS.1 hq), ?_, hO⟩⟩
  rw [hU]
  exact ⟨hRl.1, hRl.2.1, sd_G_moved hW.alike hRl.2.2⟩
/-- the three ends -/
theorem sd_retW {i : Instr} {v : Option AV} {mc ms : Nat} (C : sd_Cx p s m args meth c j D A) (hv : sd_vb j pc (i, len, a, b, cq, q) = true) (hs : am_stp pc i len a b cq ls st h = some (.inr (.inl v))) (h1 : cells = mc) (h2 : slots = ms) :
    sd_W p l e R s m args below meth c D A n0 γ0 κ0 sh0 (MQ below (sd_Qc D A γ0 κ0 sh0 n0 v h) args s mc ms A) j cells slots pc ls st h := by
  obtain ⟨hx, hb, hml, hr, hlk, hown, hts, hnm, hKB, hA⟩ := C
  subst h1; subst h2
  cases i with
  | ireturn =>
    simp only [sd_vb, Bool.and_eq_true, Bool.or_eq_true, decide_eq_true_eq, beq_iff_eq] at hv
    obtain ⟨hd, rfl, hrt⟩ := hv
    simp only [am_stp] at hs
    split at hs
    · rename_i x
      split at hs
      · rename_i hc
        simp only [Option.some.injEq, Sum.inr.injEq, Sum.inl.injEq] at hs
        subst hs
        intro γ κ sh H locs lsC hn0 hg hRl hS hL hO
        have fin : ∀ t : State, t.heap = H → s.WarmedH t.vm → sd_Qc D A γ0 κ0 sh0 n0 (some (vi x)) h args s (.returned (some (.int x))) t := by
          intro t ht hW
          exact ⟨⟨γ, κ, sh, hg, rfl, fun y hy => by cases hy; exact sd_OKi, by rw [ht]; exact ⟨hRl.1, hRl.2.1, sd_G_moved hW.alike hRl.2.2⟩⟩, hS.F ht⟩
        rcases hrt with ⟨ha, hrt⟩ | ⟨ha, hrt⟩
        · exact W.iret hx hb (hr.trans hrt) fin hS.2.2 hd hlk
        · have hx01 : x = 0 ∨ x = 1 := by
            rcases hc with hc | hc
            · omega
            · simpa [am_isd] using hc
          exact W.zret hx hb (hr.trans hrt) (by rcases hx01 with rfl | rfl <;> rfl) fin hS.2.2 hd hlk
      · cases hs
    · cases hs
  | areturn =>
    simp only [sd_vb, Bool.and_eq_true, decide_eq_true_eq, beq_iff_eq] at hv
    obtain ⟨hd, rfl, hrt⟩ := hv
    simp only [am_stp] at hs
    split at hs
    · rename_i x
      simp only [Option.some.injEq, Sum.inr.injEq, Sum.inl.injEq] at hs
      subst hs
      intro γ κ sh H locs lsC hn0 hg hRl hS hL hO
      refine W.aret hx hb (hr.trans hrt) (Or.inl ⟨_, rfl⟩) (by cases x <;> simp [sd_cv, va_rf]) (fun t ht hW => ?_) hS.2.2 hd hlk
      exact ⟨⟨γ, κ, sh, hg, rfl, fun y hy => by cases hy; exact sd_Oh hO, by rw [ht]; exact ⟨hRl.1, hRl.2.1, sd_G_moved hW.alike hRl.2.2⟩⟩, hS.F ht⟩
    · cases hs
  | return_ =>
    simp only [sd_vb, Bool.and_eq_true, decide_eq_true_eq, beq_iff_eq] at hv
    obtain ⟨hd, rfl, hrt⟩ := hv
    simp only [am_stp] at hs
    split at hs
    · simp only [Option.some.injEq, Sum.inr.injEq, Sum.inl.injEq] at hs
      subst hs
      intro γ κ sh H locs lsC hn0 hg hRl hS hL hO
      refine W.vret hx hb (hr.trans hrt) (fun t ht hW => ?_) hS.2.2 hd hlk
      exact ⟨⟨γ, κ, sh, hg, rfl, (fun y hy => by cases hy), by rw [ht]; exact ⟨hRl.1, hRl.2.1, sd_G_moved hW.alike hRl.2.2⟩⟩, hS.F ht⟩
    · cases hs
  | newarray t => exfalso; cases t <;> simp only [am_stp] at hs <;> (first | (cases hs; done) | (repeat' split at hs) <;> (first | (cases hs; done) | (simp only [am_nx] at hs; cases hs)))
  | _ => exfalso; simp only [am_stp] at hs; (first | (cases hs; done) | (repeat' split at hs) <;> (first | (cases hs; done) | (simp only [am_nx] at hs; cases hs)))
/-- a call -/
theorem sd_goCall {i : Instr} {n d m2 : Nat} {as rs : List AV} {w v : Option AV} {h2 h3 : Hp} {mc ms : Nat} (ih : sd_P n) (C : sd_Cx p s m args meth c j D A) (hj : j ∈ sd_ids) (hv : sd_vb j pc (i, len, a, b, cq, q) = true) (hs : am_stp pc i len a b cq ls st h = some (.inr (.inr (m2, as, rs)))) (hf : d + 10 ≤ R.frames) (hlo : 128 * (d + 10) ≤ R.locals)
    (hd : am_rk m2 as < d) (hal : (am_al as).length ≤ am_mx m2) (h1 : ev n (am_rk m2 as) m2 0 (am_en m2 as) [] h = some (w, h2)) (hr : ev n d j (pc + len) ls (w.toList ++ rs) h2 = some (v, h3)) (hm1 : cells + (h3.1.1 - h.1.1) = mc) (hm2 : slots + (h3.1.2 - h.1.2) = ms) (hc1 : mc ≤ R.cells) (hc2 : ms ≤ R.slots) (g1 : h.1.1 ≤ h2.1.1 ∧ h.1.2 ≤ h2.1.2) (g2 : h2.1.1 ≤ h3.1.1 ∧ h2.1.2 ≤ h3.1.2) :
    sd_W p l e R s m args below meth c D A n0 γ0 κ0 sh0 (MQ below (sd_Qc D A γ0 κ0 sh0 n0 v h3) args s mc ms A) j cells slots pc ls st h := by
  have C2 := C
  obtain ⟨hx, hb, hml, hrt, hlk, hown, hts, hnm, hKB, hA⟩ := C2
  cases i with
  | invokestatic idx =>
    rcases cq with _ | cq
    · simp only [sd_vb, Bool.and_eq_true, decide_eq_true_eq, beq_iff_eq] at hv
      obtain ⟨hdc, rfl, ⟨⟨ha, hsf⟩, rfl⟩, hw⟩ := hv
      simp only [am_stp] at hs
      split at hs
      · rename_i hlen
        simp only [Option.some.injEq, Sum.inr.injEq, Prod.mk.injEq] at hs
        obtain ⟨rfl, rfl, rfl⟩ := hs
        have ha : a ∈ sd_ids := by simpa using ha
        obtain ⟨mw1, mw2, -, -, mw5, mw6⟩ := sd_mw ha
        intro γ κ sh H locs lsC hn0 hg hRl hS hL hO
        have hOa : ∀ x ∈ (st.take (sd_np a)).reverse, sd_OK sh h.1.1 x := fun x hx => hO x (List.mem_of_mem_take (List.mem_reverse.mp hx))
        have hOr : ∀ x ∈ st.drop (sd_np a), sd_OK sh h.1.1 x := fun x hx => hO x (List.mem_of_mem_drop hx)
        have hM := sd_met ih h1 ha hal l D A γ κ sh
        refine sd_callW (n := n) (d := d) (v1 := w) (r := st.drop (sd_np a)) (h1 := h2) ih C hj hf hlo hr (by omega) (by omega) hc1 hc2 g1.1 hn0 hg hS hL hOr (((st.take (sd_np a)).reverse.map (sd_cv γ)).toArray) ?_
        refine va_runS (nL := am_mx j) ⟨hx, hb, hml, hown, hts⟩ hM (va_cwS (ws' := sd_tb) (sd_np a) hts (sd_good ?_) rfl rfl rfl mw5 (sd_roomC mw6 hd hf hlo)) (sd_pre C hRl hS hOa) rfl ?_ hL.2.1 ?_ (lv_room (sd_len4 hlen.2)) hdc ⟨by omega, by omega⟩
        · intro x hx
          rcases List.mem_append.mp hx with hx | hx
          · simp only [List.mem_cons, List.not_mem_nil, or_false] at hx
            rcases hx with rfl | rfl | rfl
            · exact sd_in q hw rfl
            · exact mw2 hsf
            · exact mw1.2
          · exact sd_wdT ha x hx
        · rw [List.length_map, List.length_reverse, List.length_take]; omega
        · show st.map (sd_cv γ) = _
          rw [← List.map_reverse, List.reverse_reverse, ← List.map_append, List.take_append_drop]
      · cases hs
    · exfalso
      rcases cq with _ | _ | _ | _ | _ | cq <;> simp only [am_stp] at hs <;> (first | (cases hs; done) | (repeat' split at hs) <;> (first | (cases hs; done) | (simp only [am_nx] at hs; cases hs)))
  | invokespecial idx =>
    rcases cq with _ | cq
    · simp only [sd_vb, Bool.and_eq_true, decide_eq_true_eq, beq_iff_eq, Bool.not_eq_true'] at hv
      obtain ⟨hdc, rfl, ⟨⟨⟨⟨ha, hsf⟩, rfl⟩, hnm2⟩, hrn⟩, hw⟩ := hv
      simp only [am_stp] at hs
      split at hs
      · rename_i o k z r hdr
        split at hs
        · rename_i hlen
          simp only [Option.some.injEq, Sum.inr.injEq, Prod.mk.injEq] at hs
          obtain ⟨rfl, rfl, rfl⟩ := hs
          have ha : a ∈ sd_ids := by simpa using ha
          obtain ⟨mw1, -, mw3, -, mw5, mw6⟩ := sd_mw ha
          have hst : st = st.take (sd_np a) ++ vr (o, k, z) :: r := by rw [← hdr, List.take_append_drop]
          have hle : sd_np a ≤ st.length := by
            refine Nat.not_lt.mp fun hq => ?_
            rw [List.drop_eq_nil_of_le (by omega)] at hdr
            cases hdr
          intro γ κ sh H locs lsC hn0 hg hRl hS hL hO
          have hOx : sd_OK sh h.1.1 (vr (o, k, z)) := hO _ (by rw [hst]; simp)
          have hOa : ∀ x ∈ vr (o, k, z) :: (st.take (sd_np a)).reverse, sd_OK sh h.1.1 x := sd_Oc hOx (fun x hx => hO x (List.mem_of_mem_take (List.mem_reverse.mp hx)))
          have hOr : ∀ x ∈ r, sd_OK sh h.1.1 x := fun x hx => hO x (by rw [hst]; simp [hx])
          have hM := sd_met ih h1 ha hal l D A γ κ sh
          refine sd_callW (n := n) (d := d) (v1 := w) (r := r) (h1 := h2) ih C hj hf hlo hr (by omega) (by omega) hc1 hc2 g1.1 hn0 hg hS hL hOr ((Value.ref (γ o) :: ((st.take (sd_np a)).reverse).map (sd_cv γ)).toArray) ?_
          refine va_runI (nL := am_mx j) (b := γ o) (As := ((st.take (sd_np a)).reverse).map (sd_cv γ)) (bytes := sd_b a) (maxL := am_mx a) ⟨hx, hb, hml, hown, hts⟩ hM (cwI (ws' := sd_tb) (sd_np a) hts (sd_good (sd_wdT ha)) (by rw [sd_wd, hrn]) rfl rfl (hts _ mw1.2) (hts _ (sd_in q hw rfl)) (hts _ (mw3 hsf)) hnm2 mw5 (sd_roomC mw6 hd hf hlo)) (sd_pre C hRl hS hOa) rfl ?_ hL.2.1 ?_ (lv_room (sd_len4 hlen.2)) hdc ⟨by omega, by omega⟩
          · rw [List.length_map, List.length_reverse, List.length_take]; omega
          · show st.map (sd_cv γ) = _
            rw [← List.map_reverse, List.reverse_reverse]
            conv => lhs; rw [hst]
            rw [List.map_append, List.map_cons]
            rfl
        · cases hs
      · cases hs
    · exfalso
      simp only [am_stp] at hs
      split at hs
      · split at hs
        · simp only [am_nx] at hs; cases hs
        · cases hs
      · cases hs
  | invokevirtual idx =>
    rcases cq with _ | cq
    · simp only [sd_vb, Bool.and_eq_true, decide_eq_true_eq, beq_iff_eq, Bool.not_eq_true'] at hv
      obtain ⟨hdc, rfl, ⟨⟨⟨⟨ha, hsf⟩, rfl⟩, hps⟩, hcl⟩, hw⟩ := hv
      simp only [am_stp] at hs
      split at hs
      · rename_i o k z r hdr
        split at hs
        · rename_i hlen
          split at hs
          · rename_i hk
            simp only [Option.some.injEq, Sum.inr.injEq, Prod.mk.injEq] at hs
            obtain ⟨rfl, rfl, rfl⟩ := hs
            have ha : a ∈ sd_ids := by simpa using ha
            obtain ⟨mw1, -, mw3, mw4, mw5, mw6⟩ := sd_mw ha
            have hst : st = st.take (sd_np a) ++ vr (o, k, z) :: r := by rw [← hdr, List.take_append_drop]
            have hle : sd_np a ≤ st.length := by
              refine Nat.not_lt.mp fun hq => ?_
              rw [List.drop_eq_nil_of_le (by omega)] at hdr
              cases hdr
            have hk13 : k < 13 := sd_k13 ha hk hsf
            intro γ κ sh H locs lsC hn0 hg hRl hS hL hO
            have hOx : sd_OK sh h.1.1 (vr (o, k, z)) := hO _ (by rw [hst]; simp)
            obtain ⟨ho, hsh⟩ := (show o < h.1.1 ∧ sh o = (k, z) from hOx (o, k, z) rfl)
            have hOa : ∀ x ∈ vr (o, k, z) :: (st.take (sd_np a)).reverse, sd_OK sh h.1.1 x := sd_Oc hOx (fun x hx => hO x (List.mem_of_mem_take (List.mem_reverse.mp hx)))
            have hOr : ∀ x ∈ r, sd_OK sh h.1.1 x := fun x hx => hO x (by rw [hst]; simp [hx])
            have hM := sd_met ih h1 ha hal l D A γ κ sh
            have he := (sd_wsG (γ := γ) (κ := κ) (sh := sh) ho).trans (by rw [sd_E_obj hsh hk13])
            have hpre := sd_pre C hRl hS hOa
            refine sd_callW (n := n) (d := d) (v1 := w) (r := r) (h1 := h2) ih C hj hf hlo hr (by omega) (by omega) hc1 hc2 g1.1 hn0 hg hS hL hOr ((Value.ref (γ o) :: ((st.take (sd_np a)).reverse).map (sd_cv γ)).toArray) ?_
            refine va_runV (nL := am_mx j) (b := γ o) (C := sd_R k) (As := ((st.take (sd_np a)).reverse).map (sd_cv γ)) (bytes := sd_b a) (maxL := am_mx a) (ret := sd_rt a) ⟨hx, hb, hml, hown, hts⟩ hM (cwV (ws' := sd_tb) (sd_np a) hts (sd_good ?_) rfl rfl rfl ⟨by rw [hcl, hk], mw5⟩ (sd_roomC mw6 hd hf hlo)) ⟨hpre.1, va_recv (sd_hK0 hKB) hRl.1 (sd_clk hk13) he, hpre.2⟩ rfl ?_ hL.2.1 ?_ (lv_room (sd_len4 hlen)) hdc ⟨by omega, by omega⟩
            · intro x hx
              rcases List.mem_append.mp hx with hx | hx
              · simp only [List.mem_cons, List.not_mem_nil, or_false] at hx
                rcases hx with rfl | rfl | rfl | rfl
                · exact sd_in q hw rfl
                · exact mw3 hsf
                · rw [hk, ← hcl]; exact mw4 hps
                · rw [hk, ← hcl]; exact mw1.2
              · exact sd_wdT ha x hx
            · rw [List.length_map, List.length_reverse, List.length_take]; omega
            · show st.map (sd_cv γ) = _
              rw [← List.map_reverse, List.reverse_reverse]
              conv => lhs; rw [hst]
              rw [List.map_append, List.map_cons]
              rfl
          · cases hs
        · cases hs
      · cases hs
    · simp only [sd_vb, Bool.and_eq_true, decide_eq_true_eq, beq_iff_eq] at hv
      obtain ⟨hdc, rfl, ⟨ha6, hpd⟩, hw⟩ := hv
      simp only [am_stp] at hs
      split at hs
      · rename_i o k z r hdr
        split at hs
        · rename_i hlen
          split at hs
          · rename_i t hvt
            simp only [Option.some.injEq, Sum.inr.injEq, Prod.mk.injEq] at hs
            obtain ⟨rfl, rfl, rfl⟩ := hs
            obtain ⟨ha, hk13, hsf, v1, v2, v3, ⟨b0, m0, r0, v4⟩, v5, v6⟩ := sd_vw ha6 hvt
            obtain ⟨mw1, -, mw3, mw4, mw5, mw6⟩ := sd_mw ha
            have hst : st = st.take b ++ vr (o, k, z) :: r := by rw [← hdr, List.take_append_drop]
            have hle : b ≤ st.length := by
              refine Nat.not_lt.mp fun hq => ?_
              rw [List.drop_eq_nil_of_le (by omega)] at hdr
              cases hdr
            intro γ κ sh H locs lsC hn0 hg hRl hS hL hO
            have hOx : sd_OK sh h.1.1 (vr (o, k, z)) := hO _ (by rw [hst]; simp)
            obtain ⟨ho, hsh⟩ := (show o < h.1.1 ∧ sh o = (k, z) from hOx (o, k, z) rfl)
            have hOa : ∀ x ∈ vr (o, k, z) :: (st.take b).reverse, sd_OK sh h.1.1 x := sd_Oc hOx (fun x hx => hO x (List.mem_of_mem_take (List.mem_reverse.mp hx)))
            have hOr : ∀ x ∈ r, sd_OK sh h.1.1 x := fun x hx => hO x (by rw [hst]; simp [hx])
            have hM := sd_met ih h1 ha hal l D A γ κ sh
            have he := (sd_wsG (γ := γ) (κ := κ) (sh := sh) ho).trans (by rw [sd_E_obj hsh hk13])
            have hpre := sd_pre C hRl hS hOa
            refine sd_callW (n := n) (d := d) (v1 := w) (r := r) (h1 := h2) ih C hj hf hlo hr (by omega) (by omega) hc1 hc2 g1.1 hn0 hg hS hL hOr ((Value.ref (γ o) :: ((st.take b).reverse).map (sd_cv γ)).toArray) ?_
            refine va_runU (nL := am_mx j) (b := γ o) (C := sd_R k) (owner := sd_vo a) (x := sd_vx a) (n := b) (As := ((st.take b).reverse).map (sd_cv γ)) (bytes := sd_b t) (maxL := am_mx t) (ret := sd_rt t) ⟨hx, hb, hml, hown, hts⟩ hM (va_cwO (ws' := sd_tb) b hts (sd_good ?_) rfl rfl rfl v4 ⟨v5, v6, hpd⟩ (sd_roomC mw6 hd hf hlo)) ⟨hpre.1, va_recv (sd_hK0 hKB) hRl.1 (sd_clk hk13) he, hpre.2⟩ rfl ?_ hL.2.1 ?_ (lv_room (sd_len4 hlen)) hdc ⟨by omega, by omega⟩
            · intro x hx
              rcases List.mem_append.mp hx with hx | hx
              · simp only [List.mem_cons, List.not_mem_nil, or_false] at hx
                rcases hx with rfl | rfl | rfl | rfl | rfl | rfl
                · exact sd_in q hw rfl
                · exact v1
                · exact v2
                · exact v3
                · exact mw3 hsf
                · exact mw1.2
              · exact sd_wdT ha x hx
            · rw [List.length_map, List.length_reverse, List.length_take]; omega
            · show st.map (sd_cv γ) = _
              rw [← List.map_reverse, List.reverse_reverse]
              conv => lhs; rw [hst]
              rw [List.map_append, List.map_cons]
              rfl
          · cases hs
        · cases hs
      · cases hs
  | newarray t => exfalso; cases t <;> simp only [am_stp] at hs <;> (first | (cases hs; done) | (repeat' split at hs) <;> (first | (cases hs; done) | (simp only [am_nx] at hs; cases hs)))
  | _ => exfalso; simp only [am_stp] at hs; (first | (cases hs; done) | (repeat' split at hs) <;> (first | (cases hs; done) | (simp only [am_nx] at hs; cases hs)))
theorem sd_main : ∀ n, sd_P n := by
  intro n
  induction n with
  | zero => intro d j pc ls st h v h2 hr; simp [ev] at hr
  | succ n ih =>
    intro d j pc ls st h v h3 hr hj p l e R s m args below meth c D A n0 γ0 κ0 sh0 cells slots mc ms C hf hlo hm1 hm2 hc1 hc2
    cases hc : am_cd j pc with
    | none => rw [ev, hc] at hr; simp at hr
    | some x =>
      obtain ⟨i, len, a, b, cq, q⟩ := x
      have hv := sd_val hj hc
      rw [ev_succ hc] at hr
      cases hs : am_stp pc i len a b cq ls st h with
      | none => rw [hs] at hr; simp at hr
      | some o =>
        rw [hs] at hr
        rcases o with ⟨pc2, ls2, st2, h2⟩ | w | ⟨m2, as, rs⟩
        · have g1 := sd_cnt hs
          have g2 := ev_cnt _ _ _ _ _ _ _ _ _ hr
          exact sd_next C hv hs (ih d j pc2 ls2 st2 h2 v h3 hr hj p l e R s m args below meth c D A n0 γ0 κ0 sh0 _ _ mc ms C hf hlo (by omega) (by omega) hc1 hc2) (by omega) (by omega) (by omega) (by omega)
        · simp only [Option.some.injEq, Prod.mk.injEq] at hr
          obtain ⟨rfl, rfl⟩ := hr
          exact sd_retW C hv hs (by omega) (by omega)
        · dsimp only at hr
          by_cases hd : am_rk m2 as < d ∧ (am_al as).length ≤ am_mx m2
          · rw [if_pos hd] at hr
            cases h1 : ev n (am_rk m2 as) m2 0 (am_en m2 as) [] h with
            | none => rw [h1] at hr; simp at hr
            | some w =>
              obtain ⟨w, h2⟩ := w
              rw [h1] at hr
              have g1 := ev_cnt _ _ _ _ _ _ _ _ _ h1
              have g2 := ev_cnt _ _ _ _ _ _ _ _ _ hr
              exact sd_goCall ih C hj hv hs hf hlo hd.1 hd.2 h1 hr (by omega) (by omega) hc1 hc2 g1 g2
          · rw [if_neg hd] at hr; cases hr
end SIM
