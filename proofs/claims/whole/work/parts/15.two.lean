theorem sd_AOA_moved {u U : State} (hvm : u.vm.Alike U.vm) (h : (Cond.arrayOver (.array .int)).before #[] u = true) : (Cond.arrayOver (.array .int)).before #[] U = true := by
  sorry
theorem sd_KS_moved {u U : State} (hW : u.WarmedH U.vm) (h : sd_KS u) : sd_KS U := trivial
theorem sd_KS_same {u U : State} (hv : u.vm = U.vm) (hh : u.heap = U.heap) (h : sd_KS u) : sd_KS U := trivial
section SIM
variable {p : Program} {l : Launch} {e : Env} {R : Room} {s : State} {m : MethodId} {args : Array Value} {below : List Frame} {meth : Method} {c : Code} {Q : State → Prop} {D : va_G} {A : Nat → Prop} {n0 : Nat} {γ0 : Nat → Nat} {κ0 : Nat → ClassId} {sh0 : Nat → Nat × Nat} {j cells slots pc pc2 len a b cq q : Nat} {ls ls2 : Lc} {st st2 : List AV} {h h2 : Hp}
theorem sm_mna {n k : Nat} (C : sd_Cx p s m args meth c j D A) (hv : sd_vb j pc (.multianewarray n k, len, a, b, cq, q) = true) (hs : am_stp pc (.multianewarray n k) len a b cq ls st h = some (.inl (pc2, ls2, st2, h2)))
    (kk : sd_W p l e R s m args below meth c D A n0 γ0 κ0 sh0 Q j (cells + (h2.1.1 - h.1.1)) (slots + (h2.1.2 - h.1.2)) pc2 ls2 st2 h2) (hc1 : cells + (h2.1.1 - h.1.1) ≤ R.cells) (hc2 : slots + (h2.1.2 - h.1.2) ≤ R.slots) : sd_W p l e R s m args below meth c D A n0 γ0 κ0 sh0 Q j cells slots pc ls st h := by
  sorry
theorem sm_stepOf {n : Nat} (C : sd_Cx p s m args meth c j D A) (hv : sd_vb j pc (.invokestatic n, len, a, b, 5, q) = true) (hs : am_stp pc (.invokestatic n) len a b 5 ls st h = some (.inl (pc2, ls2, st2, h2)))
    (kk : sd_W p l e R s m args below meth c D A n0 γ0 κ0 sh0 Q j (cells + (h2.1.1 - h.1.1)) (slots + (h2.1.2 - h.1.2)) pc2 ls2 st2 h2) (hf : 1 ≤ R.frames) (hlo : 128 ≤ R.locals) (hc1 : cells ≤ R.cells) (hc2 : slots ≤ R.slots) : sd_W p l e R s m args below meth c D A n0 γ0 κ0 sh0 Q j cells slots pc ls st h := by
  sorry
end SIM
