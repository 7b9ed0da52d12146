theorem sd_KS_moved {A : Nat → Prop} {u U : State} (hW : u.WarmedH U.vm) (hh : ∀ x : Nat, x < u.heap.size → ¬ A x → U.heap[x]? = u.heap[x]?) (h : sd_KS A u) : sd_KS A U := by
  obtain ⟨aK, aV, h1, h2⟩ := h
  exact ⟨aK, aV, sj_S_moved hW.alike hh h1, h2.warm hW⟩
theorem sd_KS_same {A : Nat → Prop} {u U : State} (hv : u.vm = U.vm) (hh : u.heap = U.heap) (h : sd_KS A u) : sd_KS A U := by
  obtain ⟨aK, aV, h1, h2⟩ := h
  exact ⟨aK, aV, sj_S_moved (by rw [hv]; exact Vm.Alike.refl _) (fun _ _ _ => by rw [hh]) h1, h2.same hv.symm⟩
section SIM
variable {p : Program} {l : Launch} {e : Env} {R : Room} {s : State} {m : MethodId} {args : Array Value} {below : List Frame} {meth : Method} {c : Code} {Q : State → Prop} {D : va_G} {A : Nat → Prop} {n0 : Nat} {γ0 : Nat → Nat} {κ0 : Nat → ClassId} {sh0 : Nat → Nat × Nat} {j cells slots pc pc2 len a b cq q : Nat} {ls ls2 : Lc} {st st2 : List AV} {h h2 : Hp}
theorem sm_stepOf {n : Nat} (C : sd_Cx p s m args meth c j D A) (hv : sd_vb j pc (.invokestatic n, len, a, b, 5, q) = true) (hs : am_stp pc (.invokestatic n) len a b 5 ls st h = some (.inl (pc2, ls2, st2, h2)))
    (kk : sd_W p l e R s m args below meth c D A n0 γ0 κ0 sh0 Q j (cells + (h2.1.1 - h.1.1)) (slots + (h2.1.2 - h.1.2)) pc2 ls2 st2 h2) (hf : 10 ≤ R.frames) (hlo : 1280 ≤ R.locals) (hc1 : cells ≤ R.cells) (hc2 : slots ≤ R.slots) : sd_W p l e R s m args below meth c D A n0 γ0 κ0 sh0 Q j cells slots pc ls st h := by
  obtain ⟨hx, hb, hml, hr, hlk, hown, hts, hnm, hKB, hA⟩ := C
  simp only [sd_vb, Bool.and_eq_true, decide_eq_true_eq, beq_iff_eq] at hv
  obtain ⟨hd, rfl, hq⟩ := hv
  simp only [am_stp] at hs
  split at hs
  · rename_i x r
    split at hs
    · rename_i hlen
      simp only [am_nx, Option.some.injEq, Sum.inl.injEq, Prod.mk.injEq] at hs
      obtain ⟨rfl, rfl, rfl, rfl⟩ := hs
      intro γ κ sh H locs lsC hn0 hg hRl hS hL hO
      simp only [Nat.sub_self, Nat.add_zero] at kk
      obtain ⟨aK, aV, h1, h2⟩ := hKB.2.2.2.1
      refine W.callR (W.runS (nL := am_mx j) (As := [.int x]) (rest := r.map (sd_cv γ)) (g := F0 m pc lsC (.int x :: r.map (sd_cv γ))) ⟨hx, hb, hml, hown, hts⟩ (sj_stepOf l A aK aV x) (va_cwS (ws' := sd_tb) 1 hts (sd_good (sj_ws q 356 69 357 hq (by decide +kernel) (by decide +kernel) (by decide +kernel) rfl rfl rfl rfl)) rfl rfl rfl ⟨by decide, by decide, by decide +kernel⟩ (sj_room (by omega) (by omega) (by decide)))
        ⟨fun a U g mk z => ⟨z.1, sj_S_moved (Vm.Alike.refl U.vm) (fun _ _ _ => rfl) z.2.1, z.2.2.same rfl⟩, fun U hU hW => ⟨rfl, sj_S_moved hW.alike (fun y g1 g2 => by rw [hU]; exact hS.2.1 y g1 g2) h1, h2.warm hW⟩⟩ rfl rfl hL.2.1 rfl (lv_room (sd_len4 hlen)) hd ⟨hc1, hc2⟩) ?_
      exact kk γ κ sh H locs lsC hn0 hg hRl hS hL (sd_Oc sd_OKi (sd_Ot hO))
    · cases hs
  · cases hs
end SIM
