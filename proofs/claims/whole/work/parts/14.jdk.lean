/-! THE SIMULATION: System.arraycopy, Math, Object's constructor -/
theorem sd_len4 {γ : Nat → Nat} : ∀ {r : List AV}, r.length ≤ 4 → ((r.map (sd_cv γ)).map fun v => v.category).sum ≤ 8 := by
  have key : ∀ (r : List AV), ((r.map (sd_cv γ)).map fun v => v.category).sum ≤ 2 * r.length := by
    intro r
    induction r with
    | nil => simp
    | cons v r ih =>
      have : (sd_cv γ v).category ≤ 2 := by rcases lv_cat (sd_cv γ v) with h | h <;> omega
      simp only [List.map_cons, List.sum_cons, List.length_cons]
      omega
  intro r h
  have := key r
  omega
theorem sd_n7 : nativeFrameWords "java/lang/System" "arraycopy" 5 = 7 := by decide +kernel
theorem hI_hcp {h : Hp} {o0 sp o1 dp n i j : Nat} : hI (hcp h o0 sp o1 dp n) i j = if i = o1 ∧ dp ≤ j ∧ j < dp + n then hI h o0 (sp + (j - dp)) else hI h i j := rfl
section SIM
variable {p : Program} {l : Launch} {e : Env} {R : Room} {s : State} {m : MethodId} {args : Array Value} {below : List Frame} {meth : Method} {c : Code} {Q : State → Prop} {D : va_G} {A : Nat → Prop} {n0 : Nat} {γ0 : Nat → Nat} {κ0 : Nat → ClassId} {sh0 : Nat → Nat × Nat} {j cells slots pc pc2 len a b cq q : Nat} {ls ls2 : Lc} {st st2 : List AV} {h h2 : Hp}
theorem sm_mmax {n : Nat} (C : sd_Cx p s m args meth c j D A) (hv : sd_vb j pc (.invokestatic n, len, a, b, 1, q) = true) (hs : am_stp pc (.invokestatic n) len a b 1 ls st h = some (.inl (pc2, ls2, st2, h2)))
    (kk : sd_W p l e R s m args below meth c D A n0 γ0 κ0 sh0 Q j (cells + (h2.1.1 - h.1.1)) (slots + (h2.1.2 - h.1.2)) pc2 ls2 st2 h2) (hf : 10 ≤ R.frames) (hlo : 1280 ≤ R.locals) (hc1 : cells ≤ R.cells) (hc2 : slots ≤ R.slots) : sd_W p l e R s m args below meth c D A n0 γ0 κ0 sh0 Q j cells slots pc ls st h := by
  obtain ⟨hx, hb, hml, hr, hlk, hown, hts, hnm, hKB, hA⟩ := C
  simp only [sd_vb, Bool.and_eq_true, decide_eq_true_eq, beq_iff_eq] at hv
  obtain ⟨hd, rfl, hq⟩ := hv
  simp only [am_stp] at hs
  split at hs
  · rename_i y x r
    split at hs
    · rename_i hlen
      simp only [am_nx, Option.some.injEq, Sum.inl.injEq, Prod.mk.injEq] at hs
      obtain ⟨rfl, rfl, rfl, rfl⟩ := hs
      intro γ κ sh H locs lsC hn0 hg hRl hS hL hO
      simp only [Nat.sub_self, Nat.add_zero] at kk
      have h8 := sd_len4 (γ := γ) hlen
      refine va_mmax hx hb (hml.trans hL.2.1.symm) hown (hts _ (sd_in q hq rfl)) (hts _ (sd_in 104 (by decide +kernel) rfl)) (hts _ (sd_in 66 (by decide +kernel) rfl)) (hts _ (sd_in 105 (by decide +kernel) rfl)) (by omega) (by omega) hc1 hc2 hd ?_
      exact kk γ κ sh H locs lsC hn0 hg hRl hS hL (sd_Oc sd_OKi (sd_Ot (sd_Ot hO)))
    · cases hs
  · cases hs
theorem sm_mmin {n : Nat} (C : sd_Cx p s m args meth c j D A) (hv : sd_vb j pc (.invokestatic n, len, a, b, 2, q) = true) (hs : am_stp pc (.invokestatic n) len a b 2 ls st h = some (.inl (pc2, ls2, st2, h2)))
    (kk : sd_W p l e R s m args below meth c D A n0 γ0 κ0 sh0 Q j (cells + (h2.1.1 - h.1.1)) (slots + (h2.1.2 - h.1.2)) pc2 ls2 st2 h2) (hf : 10 ≤ R.frames) (hlo : 1280 ≤ R.locals) (hc1 : cells ≤ R.cells) (hc2 : slots ≤ R.slots) : sd_W p l e R s m args below meth c D A n0 γ0 κ0 sh0 Q j cells slots pc ls st h := by
  obtain ⟨hx, hb, hml, hr, hlk, hown, hts, hnm, hKB, hA⟩ := C
  simp only [sd_vb, Bool.and_eq_true, decide_eq_true_eq, beq_iff_eq] at hv
  obtain ⟨hd, rfl, hq⟩ := hv
  simp only [am_stp] at hs
  split at hs
  · rename_i y x r
    split at hs
    · rename_i hlen
      simp only [am_nx, Option.some.injEq, Sum.inl.injEq, Prod.mk.injEq] at hs
      obtain ⟨rfl, rfl, rfl, rfl⟩ := hs
      intro γ κ sh H locs lsC hn0 hg hRl hS hL hO
      simp only [Nat.sub_self, Nat.add_zero] at kk
      have h8 := sd_len4 (γ := γ) hlen
      refine va_mmin hx hb (hml.trans hL.2.1.symm) hown (hts _ (sd_in q hq rfl)) (hts _ (sd_in 101 (by decide +kernel) rfl)) (hts _ (sd_in 66 (by decide +kernel) rfl)) (hts _ (sd_in 102 (by decide +kernel) rfl)) (by omega) (by omega) hc1 hc2 hd ?_
      exact kk γ κ sh H locs lsC hn0 hg hRl hS hL (sd_Oc sd_OKi (sd_Ot (sd_Ot hO)))
    · cases hs
  · cases hs
theorem sm_mabs {n : Nat} (C : sd_Cx p s m args meth c j D A) (hv : sd_vb j pc (.invokestatic n, len, a, b, 3, q) = true) (hs : am_stp pc (.invokestatic n) len a b 3 ls st h = some (.inl (pc2, ls2, st2, h2)))
    (kk : sd_W p l e R s m args below meth c D A n0 γ0 κ0 sh0 Q j (cells + (h2.1.1 - h.1.1)) (slots + (h2.1.2 - h.1.2)) pc2 ls2 st2 h2) (hf : 10 ≤ R.frames) (hlo : 1280 ≤ R.locals) (hc1 : cells ≤ R.cells) (hc2 : slots ≤ R.slots) : sd_W p l e R s m args below meth c D A n0 γ0 κ0 sh0 Q j cells slots pc ls st h := by
  obtain ⟨hx, hb, hml, hr, hlk, hown, hts, hnm, hKB, hA⟩ := C
  simp only [sd_vb, Bool.and_eq_true, decide_eq_true_eq, beq_iff_eq] at hv
  obtain ⟨hd, rfl, hq⟩ := hv
  simp only [am_stp] at hs
  split at hs
  · rename_i x r
    split at hs
    · rename_i hlen
      simp only [am_nx, Option.some.injEq, Sum.inl.injEq, Prod.mk.injEq] at hs
      obtain ⟨rfl, rfl, rfl, rfl⟩ := hs
      intro γ κ sh H locs lsC hn0 hg hRl hS hL hO
      simp only [Nat.sub_self, Nat.add_zero] at kk
      have h8 := sd_len4 (γ := γ) hlen
      refine va_mabs hx hb (hml.trans hL.2.1.symm) hown (hts _ (sd_in q hq rfl)) (hts _ (sd_in 649 (by decide +kernel) rfl)) (hts _ (sd_in 66 (by decide +kernel) rfl)) (hts _ (sd_in 650 (by decide +kernel) rfl)) (by omega) (by omega) hc1 hc2 hd ?_
      exact kk γ κ sh H locs lsC hn0 hg hRl hS hL (sd_Oc sd_OKi (sd_Ot hO))
    · cases hs
  · cases hs
theorem sm_acopy {n : Nat} (C : sd_Cx p s m args meth c j D A) (hv : sd_vb j pc (.invokestatic n, len, a, b, 4, q) = true) (hs : am_stp pc (.invokestatic n) len a b 4 ls st h = some (.inl (pc2, ls2, st2, h2)))
    (kk : sd_W p l e R s m args below meth c D A n0 γ0 κ0 sh0 Q j (cells + (h2.1.1 - h.1.1)) (slots + (h2.1.2 - h.1.2)) pc2 ls2 st2 h2) (hf : 10 ≤ R.frames) (hlo : 1280 ≤ R.locals) (hc1 : cells ≤ R.cells) (hc2 : slots ≤ R.slots) : sd_W p l e R s m args below meth c D A n0 γ0 κ0 sh0 Q j cells slots pc ls st h := by
  obtain ⟨hx, hb, hml, hr, hlk, hown, hts, hnm, hKB, hA⟩ := C
  simp only [sd_vb, Bool.and_eq_true, decide_eq_true_eq, beq_iff_eq] at hv
  obtain ⟨hd, rfl, hq⟩ := hv
  simp only [am_stp] at hs
  split at hs
  · rename_i n dp o1 n1 sp o0 n0' r
    split at hs
    · cases hs
    · rename_i hin
      simp only [am_nx, Option.some.injEq, Sum.inl.injEq, Prod.mk.injEq] at hs
      obtain ⟨rfl, rfl, rfl, rfl⟩ := hs
      intro γ κ sh H locs lsC hn0 hg hRl hS hL hO
      simp only [hcp, Nat.sub_self, Nat.add_zero] at kk
      have hlen : r.length ≤ 4 := by
        refine Nat.not_lt.mp fun z => hin ?_
        exact Or.inr (Or.inr (Or.inr (Or.inr (Or.inr z))))
      have h8 := sd_len4 (γ := γ) hlen
      obtain ⟨ho1, hs1⟩ := (show o1 < h.1.1 ∧ sh o1 = (13, n1) from sd_Oh (sd_Ot (sd_Ot hO)) (o1, 13, n1) rfl)
      obtain ⟨ho0, hs0⟩ := (show o0 < h.1.1 ∧ sh o0 = (13, n0') from sd_Oh (sd_Ot (sd_Ot (sd_Ot (sd_Ot hO)))) (o0, 13, n0') rfl)
      have he1 := (sd_wsG (γ := γ) (κ := κ) (sh := sh) ho1).trans (by rw [sd_E_int hs1])
      have he0 := (sd_wsG (γ := γ) (κ := κ) (sh := sh) ho0).trans (by rw [sd_E_int hs0])
      have hk1 := hRl.2.2.2.1 o1 ho1 (by rw [hs1]; exact Nat.le_refl 13)
      have hk0 := hRl.2.2.2.1 o0 ho0 (by rw [hs0]; exact Nat.le_refl 13)
      rw [hs1] at hk1
      rw [hs0] at hk0
      refine va_copyi (ty := .int) hx hb (hml.trans hL.2.1.symm) hown (hts _ (sd_in q hq rfl)) (hts _ (sd_in 447 (by decide +kernel) rfl)) (hts _ (sd_in 446 (by decide +kernel) rfl)) (hts _ (sd_in 78 (by decide +kernel) rfl)) (sd_hK2 hKB hk0 hk1) hRl.1 hRl.2.1 hS o0 o1 0 1 he0 he1 rfl rfl rfl
        (fun z => hin (Or.inl z)) (fun z => hin (Or.inr (Or.inl z))) (fun z => hin (Or.inr (Or.inr (Or.inl z)))) (Nat.not_lt.mp fun z => hin (Or.inr (Or.inr (Or.inr (Or.inl z))))) (Nat.not_lt.mp fun z => hin (Or.inr (Or.inr (Or.inr (Or.inr (Or.inl z)))))) (fun _ _ => rfl) (by omega) (by rw [sd_n7]; omega) hd (fun H1 locs1 hP hD hS1 => ?_)
      have hset : (sd_ws γ κ sh h).set o1 (γ o1, .inl (κ o1, n1, .inl (va_cpy (hI h o0) (hI h o1) sp.toNatClampNeg dp.toNatClampNeg n.toNatClampNeg))) = sd_ws γ κ sh (hcp h o0 sp.toNatClampNeg o1 dp.toNatClampNeg n.toNatClampNeg) := by
        refine sd_wsS (h := h) (h2 := hcp h o0 sp.toNatClampNeg o1 dp.toNatClampNeg n.toNatClampNeg) rfl (fun w hw => sd_E_ne (fun y => by rw [hI_hcp, if_neg (fun q => hw q.1)]) (fun _ => rfl)) _ ?_
        rw [sd_E_int hs1]
        have : va_cpy (hI h o0) (hI h o1) sp.toNatClampNeg dp.toNatClampNeg n.toNatClampNeg = hI (hcp h o0 sp.toNatClampNeg o1 dp.toNatClampNeg n.toNatClampNeg) o1 := by
          funext w
          rw [hI_hcp]
          by_cases hw : dp.toNatClampNeg ≤ w ∧ w < dp.toNatClampNeg + n.toNatClampNeg
          · simp [va_cpy, hw]
          · rw [if_neg (fun z => hw z.2)]; simp only [va_cpy]; rw [if_neg hw]
        rw [this]
      rw [hset] at hP hD
      exact kk γ κ sh H1 locs1 lsC hn0 hg ⟨hP, hD, hRl.2.2⟩ hS1 hL (sd_Ot (sd_Ot (sd_Ot (sd_Ot (sd_Ot hO)))))
  · cases hs
theorem sm_objInit {n : Nat} (C : sd_Cx p s m args meth c j D A) (hv : sd_vb j pc (.invokespecial n, len, a, b, cq + 1, q) = true) (hs : am_stp pc (.invokespecial n) len a b (cq + 1) ls st h = some (.inl (pc2, ls2, st2, h2)))
    (kk : sd_W p l e R s m args below meth c D A n0 γ0 κ0 sh0 Q j (cells + (h2.1.1 - h.1.1)) (slots + (h2.1.2 - h.1.2)) pc2 ls2 st2 h2) (hf : 10 ≤ R.frames) (hlo : 1280 ≤ R.locals) (hc1 : cells ≤ R.cells) (hc2 : slots ≤ R.slots) : sd_W p l e R s m args below meth c D A n0 γ0 κ0 sh0 Q j cells slots pc ls st h := by
  obtain ⟨hx, hb, hml, hr, hlk, hown, hts, hnm, hKB, hA⟩ := C
  simp only [sd_vb, Bool.and_eq_true, decide_eq_true_eq, beq_iff_eq] at hv
  obtain ⟨hd, rfl, hq⟩ := hv
  simp only [am_stp] at hs
  split at hs
  · rename_i w r
    split at hs
    · rename_i hlen
      simp only [am_nx, Option.some.injEq, Sum.inl.injEq, Prod.mk.injEq] at hs
      obtain ⟨rfl, rfl, rfl, rfl⟩ := hs
      intro γ κ sh H locs lsC hn0 hg hRl hS hL hO
      simp only [Nat.sub_self, Nat.add_zero] at kk
      have h8 := sd_len4 (γ := γ) hlen
      refine W.objInit hx hb hown (hts _ (sd_in q hq rfl)) (hts _ (sd_in 92 (by decide +kernel) rfl)) (hts _ (sd_in 93 (by decide +kernel) rfl)) (g := F0 m pc lsC (List.map (sd_cv γ) (vr w :: r))) rfl (hL.2.1.trans hml.symm) rfl hd (by omega) (by have : (F0 m pc lsC (List.map (sd_cv γ) (vr w :: r))).monitorRoom = 0 := rfl; rw [this]; omega) ?_
      exact kk γ κ sh H locs lsC hn0 hg hRl hS hL (sd_Ot hO)
    · cases hs
  · cases hs
end SIM
