section SIM
variable {p : Program} {l : Launch} {e : Env} {R : Room} {s : State} {m : MethodId} {args : Array Value} {below : List Frame} {meth : Method} {c : Code} {Q : State → Prop} {D : va_G} {A : Nat → Prop} {n0 : Nat} {γ0 : Nat → Nat} {κ0 : Nat → ClassId} {sh0 : Nat → Nat × Nat} {j cells slots pc pc2 len a b cq q : Nat} {ls ls2 : Lc} {st st2 : List AV} {h h2 : Hp}
/-- a step that goes on in the same method -/
theorem sd_next {i : Instr} (C : sd_Cx p s m args meth c j D A) (hv : sd_vb j pc (i, len, a, b, cq, q) = true) (hs : am_stp pc i len a b cq ls st h = some (.inl (pc2, ls2, st2, h2)))
    (kk : sd_W p l e R s m args below meth c D A n0 γ0 κ0 sh0 Q j (cells + (h2.1.1 - h.1.1)) (slots + (h2.1.2 - h.1.2)) pc2 ls2 st2 h2) (hf : 10 ≤ R.frames) (hlo : 1280 ≤ R.locals) (hc1 : cells + (h2.1.1 - h.1.1) ≤ R.cells) (hc2 : slots + (h2.1.2 - h.1.2) ≤ R.slots) : sd_W p l e R s m args below meth c D A n0 γ0 κ0 sh0 Q j cells slots pc ls st h := by
  have g1 : cells ≤ R.cells := by omega
  have g2 : slots ≤ R.slots := by omega
  cases i with
  | aconst_null  => exact sm_aconst_null C hv hs kk
  | iconst n => exact sm_iconst C hv hs kk
  | bipush n => exact sm_bipush C hv hs kk
  | sipush n => exact sm_sipush C hv hs kk
  | lconst n => exact sm_lconst C hv hs kk
  | ldc n => exact sm_ldc C hv hs kk
  | ldc_w n => exact sm_ldc_w C hv hs kk
  | ldc2_w n => exact sm_ldc2_w C hv hs kk
  | iload k => exact sm_iload C hv hs kk
  | iload_n k => exact sm_iload_n C hv hs kk
  | lload k => exact sm_lload C hv hs kk
  | lload_n k => exact sm_lload_n C hv hs kk
  | aload k => exact sm_aload C hv hs kk
  | aload_n k => exact sm_aload_n C hv hs kk
  | istore k => exact sm_istore C hv hs kk
  | istore_n k => exact sm_istore_n C hv hs kk
  | lstore k => exact sm_lstore C hv hs kk
  | astore k => exact sm_astore C hv hs kk
  | astore_n k => exact sm_astore_n C hv hs kk
  | iinc k n => exact sm_iinc C hv hs kk
  | iadd  => exact sm_iadd C hv hs kk
  | isub  => exact sm_isub C hv hs kk
  | imul  => exact sm_imul C hv hs kk
  | iand  => exact sm_iand C hv hs kk
  | ior  => exact sm_ior C hv hs kk
  | ixor  => exact sm_ixor C hv hs kk
  | idiv  => exact sm_idiv C hv hs kk
  | irem  => exact sm_irem C hv hs kk
  | ineg  => exact sm_ineg C hv hs kk
  | ishl  => exact sm_ishl C hv hs kk
  | ishr  => exact sm_ishr C hv hs kk
  | iushr  => exact sm_iushr C hv hs kk
  | i2l  => exact sm_i2l C hv hs kk
  | lmul  => exact sm_lmul C hv hs kk
  | lcmp  => exact sm_lcmp C hv hs kk
  | dup  => exact sm_dup C hv hs kk
  | dup2  => exact sm_dup2 C hv hs kk
  | pop  => exact sm_pop C hv hs kk
  | goto n => exact sm_goto C hv hs kk
  | ifCond o n => exact sm_ifCond C hv hs kk
  | if_icmp o n => exact sm_if_icmp C hv hs kk
  | ifnull n => exact sm_ifnull C hv hs kk
  | ifnonnull n => exact sm_ifnonnull C hv hs kk
  | tableswitch d lo hi offs => exact sm_tableswitch C hv hs kk
  | lookupswitch d ps => exact sm_lookupswitch C hv hs kk
  | getfield n => exact sm_getfield C hv hs kk
  | putfield n => exact sm_putfield C hv hs kk
  | iaload  => exact sm_iaload C hv hs kk
  | iastore  => exact sm_iastore C hv hs kk
  | aaload  => exact sm_aaload C hv hs kk
  | aastore  => exact sm_aastore C hv hs kk
  | arraylength  => exact sm_arraylength C hv hs kk
  | new n => exact sm_new C hv hs kk hc1 hc2
  | newarray t =>
    cases t with
    | int => exact sm_newarray C hv hs kk hc1 hc2
    | _ => simp only [am_stp] at hs; cases hs
  | anewarray n => exact sm_anewarray C hv hs kk hc1 hc2
  | multianewarray n k => exact sm_mna C hv hs kk hc1 hc2
  | invokestatic n =>
    rcases cq with _ | _ | _ | _ | _ | _ | cq
    · simp only [am_stp] at hs
      split at hs <;> cases hs
    · exact sm_mmax C hv hs kk hf hlo g1 g2
    · exact sm_mmin C hv hs kk hf hlo g1 g2
    · exact sm_mabs C hv hs kk hf hlo g1 g2
    · exact sm_acopy C hv hs kk hf hlo g1 g2
    · exact sm_stepOf C hv hs kk hf hlo g1 g2
    · simp only [am_stp] at hs
      cases hs
  | invokespecial n =>
    rcases cq with _ | cq
    · simp only [am_stp] at hs
      split at hs
      · split at hs <;> cases hs
      · cases hs
    · exact sm_objInit C hv hs kk hf hlo g1 g2
  | invokevirtual n =>
    simp only [am_stp] at hs
    split at hs
    · split at hs
      · split at hs
        · split at hs <;> cases hs
        · split at hs <;> cases hs
      · cases hs
    · cases hs
  | ireturn =>
    simp only [am_stp] at hs
    split at hs
    · split at hs <;> cases hs
    · cases hs
  | areturn =>
    simp only [am_stp] at hs
    split at hs <;> cases hs
  | return_ =>
    simp only [am_stp] at hs
    split at hs <;> cases hs
  | _ => simp only [am_stp] at hs; cases hs
end SIM
