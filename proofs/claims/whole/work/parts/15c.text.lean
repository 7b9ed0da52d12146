theorem sd_good {ws : List Cond} (hw : ∀ w ∈ ws, w ∈ sd_tb) : GoodIn sd_tb ws := fun w h => ⟨hw w h, good_of_word (List.mem_filter.mp (hw w h)).2⟩
/-! THE TEXT "nesw-": String.indexOf over it -/
def sj_S (A : Nat → Prop) (aK aV : Nat) (s : State) : Prop := vk_S 1 [5] [[110, 101, 115, 119, 45]] (fun _ => aK) (fun _ => aV) A s s.heap ∧ va_Z "java/lang/String" "COMPACT_STRINGS" "Z" (.int 1) A s s.heap
theorem sj_S_moved {A : Nat → Prop} {aK aV : Nat} {u U : State} (hvm : u.vm.Alike U.vm) (hh : ∀ x : Nat, x < u.heap.size → ¬ A x → U.heap[x]? = u.heap[x]?) (h : sj_S A aK aV u) : sj_S A aK aV U := ⟨(h.1.kept hh).moved hvm, (h.2.kept hh).moved hvm⟩
def sj_P (A : Nat → Prop) (aK aV : Nat) (as : List Value) : Array Value → State → Prop := fun v U => v = as.toArray ∧ sj_S A aK aV U
theorem sj_blind {A : Nat → Prop} {aK aV : Nat} {as : List Value} : FrameBlind (sj_P A aK aV as) := fun a U g mk q => ⟨q.1, sj_S_moved (Vm.Alike.refl U.vm) (fun _ _ _ => rfl) q.2⟩
theorem sj_pre {A : Nat → Prop} {aK aV : Nat} {as : List Value} {s : State} (h : sj_S A aK aV s) : PreS s s.heap (sj_P A aK aV as) as := ⟨sj_blind, fun U hU hW => ⟨rfl, sj_S_moved hW.alike (fun x _ _ => by rw [hU]) h⟩⟩
def sj_r (d : Nat) : Room := { frames := d, cells := 0, slots := 0, locals := 40 * d }
theorem sj_room {R : Room} {d x : Nat} (h1 : d + 1 ≤ R.frames) (h2 : 40 * (d + 1) ≤ R.locals) (hx : x ≤ 20) : (sj_r d).frames + 1 ≤ R.frames ∧ 8 + (x + 11) + (sj_r d).locals ≤ R.locals := ⟨h1, by show 8 + (x + 11) + 40 * d ≤ _; omega⟩
def sj_hit (c : Int32) (k : Nat) : Int32 := [110, 101, 115, 119, 45].getD k 0 - c
/-- the place of a sign from k on -/
def sj_ix (c : Int32) : Nat → Nat → Int32
  | 0, _ => -1
  | n + 1, k => if ([110, 101, 115, 119, 45] : List Int32).getD k 0 = c then nI k else sj_ix c n (k + 1)
theorem sj_ws {own : String} {idx : Nat} {y : MethodName} {b : ByteArray} {mx : Nat} {rt : Option FieldType} (p1 p2 p3 p4 : Nat) (h1 : lw_tbl[p1]? = some (.methodLink own idx y)) (h2 : lw_tbl[p2]? = some (.static y)) (h3 : lw_tbl[p3]? = some (.initialized y.cls)) (h4 : lw_tbl[p4]? = some (.code y b mx rt)) (g1 : goodWord (.methodLink own idx y) = true) (g2 : goodWord (.static y) = true) (g3 : goodWord (.initialized y.cls) = true) (g4 : goodWord (.code y b mx rt) = true) : ∀ w ∈ va_wsS own idx y (.code y b mx rt :: sd_tb), w ∈ sd_tb := by
  intro w hw
  simp only [va_wsS, List.mem_append, List.mem_cons, List.not_mem_nil, or_false] at hw
  rcases hw with (rfl | rfl | rfl) | rfl | hw
  · exact sd_in p1 h1 g1
  · exact sd_in p2 h2 g2
  · exact sd_in p3 h3 g3
  · exact sd_in p4 h4 g4
  · exact hw
theorem sj_wv {own C : String} {idx : Nat} {y : MethodName} {b : ByteArray} {mx : Nat} {rt : Option FieldType} (p1 p2 p5 p3 p4 : Nat) (h1 : lw_tbl[p1]? = some (.methodLink own idx y)) (h2 : lw_tbl[p2]? = some (.instanceMethod y)) (h5 : lw_tbl[p5]? = some (.selects C y y)) (h3 : lw_tbl[p3]? = some (.initialized C)) (h4 : lw_tbl[p4]? = some (.code y b mx rt)) (g1 : goodWord (.methodLink own idx y) = true) (g2 : goodWord (.instanceMethod y) = true) (g5 : goodWord (.selects C y y) = true) (g3 : goodWord (.initialized C) = true) (g4 : goodWord (.code y b mx rt) = true) : ∀ w ∈ wsV own idx C y (.code y b mx rt :: sd_tb), w ∈ sd_tb := by
  intro w hw
  simp only [wsV, List.mem_append, List.mem_cons, List.not_mem_nil, or_false] at hw
  rcases hw with (rfl | rfl | rfl | rfl) | rfl | hw
  · exact sd_in p1 h1 g1
  · exact sd_in p2 h2 g2
  · exact sd_in p5 h5 g5
  · exact sd_in p3 h3 g3
  · exact sd_in p4 h4 g4
  · exact hw
theorem sj_canEncode (l : Launch) (A : Nat → Prop) (aK aV : Nat) (x : Int32) : Met l (⟨"java/lang/StringLatin1", "canEncode", "(I)Z"⟩) (.code (⟨"java/lang/StringLatin1", "canEncode", "(I)Z"⟩) prog_19_method_4_code 1 (some .boolean) :: sd_tb) (sj_r 1) (sj_P A aK aV [.int x]) (QcRead (if x < 0 then 0 else if 255 < x then 0 else 1)) 0 0 (fun _ => False) := by
  refine Met.ofW (cc := prog_19_method_4_code) (maxL := 1) (ret := some .boolean) (by decide) rfl ?_
  intro p e s m args below meth c s₁ BB hml hv
  obtain ⟨rfl, hSS⟩ := hv
  have hx := BB.exec
  have hb := BB.bytes
  have hr := BB.returns
  have hlk := BB.notSynchronized
  have hts0 := atoms_spec BB.pre
  have hts : ∀ w ∈ sd_tb, w.before _ s = true := fun w hw => hts0 w (List.mem_cons_of_mem _ hw)
  have hown : s.vm.findClass "java/lang/StringLatin1" = some m.cls := findClass_of_methodNamed BB.named
  have hS : va_S A s.heap s.heap [] := va_S.rf
  have hl := lv_entry ([.int x]) (n := 1) (Nat.le_of_ble_eq_true rfl)
  rw [lg_entry_eq]
  generalize (lg_sl ([.int x]) ++ List.replicate (1 - (lg_sl ([.int x])).length) Slot.unset).toArray = ls at hl ⊢
  have hl : lv_has ls 1 [(0, .int x)] := hl
  refine lv_iload_n hx hb (by decide +kernel : decode prog_19_method_4_code 0 = .ok (.iload_n 0, 1)) rfl (lv_at hl 0 rfl) ?_
  refine lv_if_lt (tgt := 15) hx hb (by decide +kernel : decode prog_19_method_4_code 1 = .ok (.ifCond .lt 14, 3)) rfl (fun h1 => ?_) (fun h1 => ?_)
  · refine lv_iconst (v := 0) hx hb (by decide +kernel : decode prog_19_method_4_code 15 = .ok (.iconst 0, 1)) (by decide) ?_
    exact W.zret hx hb hr rfl (fun t ht hW => ⟨by rw [if_pos h1], ht⟩) (fun q h => absurd h List.not_mem_nil) (by decide +kernel : decode prog_19_method_4_code 16 = .ok (.ireturn, 1)) hlk
  · refine lv_iload_n hx hb (by decide +kernel : decode prog_19_method_4_code 4 = .ok (.iload_n 0, 1)) rfl (lv_at hl 0 rfl) ?_
    refine lv_sipush (v := 255) hx hb (by decide +kernel : decode prog_19_method_4_code 5 = .ok (.sipush 255, 3)) (by decide) ?_
    refine lv_icmp_gt (tgt := 15) hx hb (by decide +kernel : decode prog_19_method_4_code 8 = .ok (.if_icmp .gt 7, 3)) rfl (fun h2 => ?_) (fun h2 => ?_)
    · refine lv_iconst (v := 0) hx hb (by decide +kernel : decode prog_19_method_4_code 15 = .ok (.iconst 0, 1)) (by decide) ?_
      exact W.zret hx hb hr rfl (fun t ht hW => ⟨by rw [if_neg h1, if_pos h2], ht⟩) (fun q h => absurd h List.not_mem_nil) (by decide +kernel : decode prog_19_method_4_code 16 = .ok (.ireturn, 1)) hlk
    · refine lv_iconst (v := 1) hx hb (by decide +kernel : decode prog_19_method_4_code 11 = .ok (.iconst 1, 1)) (by decide) ?_
      refine lv_goto (tgt := 16) hx hb (by decide +kernel : decode prog_19_method_4_code 12 = .ok (.goto 4, 3)) rfl ?_
      exact W.zret hx hb hr rfl (fun t ht hW => ⟨by rw [if_neg h1, if_neg h2], ht⟩) (fun q h => absurd h List.not_mem_nil) (by decide +kernel : decode prog_19_method_4_code 16 = .ok (.ireturn, 1)) hlk
theorem sj_isLatin1 (l : Launch) (A : Nat → Prop) (aK aV : Nat) : Met l (⟨"java/lang/String", "isLatin1", "()Z"⟩) (.code (⟨"java/lang/String", "isLatin1", "()Z"⟩) prog_18_method_154_code 1 (some .boolean) :: sd_tb) (sj_r 1) (sj_P A aK aV [.ref aK]) (QcRead (1)) 0 0 (fun _ => False) := by
  refine Met.ofW (cc := prog_18_method_154_code) (maxL := 1) (ret := some .boolean) (by decide) rfl ?_
  intro p e s m args below meth c s₁ BB hml hv
  obtain ⟨rfl, hSS⟩ := hv
  have hx := BB.exec
  have hb := BB.bytes
  have hr := BB.returns
  have hlk := BB.notSynchronized
  have hts0 := atoms_spec BB.pre
  have hts : ∀ w ∈ sd_tb, w.before _ s = true := fun w hw => hts0 w (List.mem_cons_of_mem _ hw)
  have hown : s.vm.findClass "java/lang/String" = some m.cls := findClass_of_methodNamed BB.named
  have hS : va_S A s.heap s.heap [] := va_S.rf
  have hl := lv_entry ([.ref aK]) (n := 1) (Nat.le_of_ble_eq_true rfl)
  rw [lg_entry_eq]
  generalize (lg_sl ([.ref aK]) ++ List.replicate (1 - (lg_sl ([.ref aK])).length) Slot.unset).toArray = ls at hl ⊢
  have hl : lv_has ls 1 [(0, .ref aK)] := hl
  refine va_gets (v := .int 1) hx hb hSS.2 hS hown (hts _ (sd_in 371 (by decide +kernel) rfl)) (fun _ h => h) (by decide +kernel : decode prog_18_method_154_code 0 = .ok (.getstatic 38, 3)) ?_
  refine lv_if_eq (tgt := 17) hx hb (by decide +kernel : decode prog_18_method_154_code 3 = .ok (.ifCond .eq 14, 3)) rfl (fun h1 => absurd h1 (by decide)) (fun _ => ?_)
  refine lv_aload_n hx hb (by decide +kernel : decode prog_18_method_154_code 6 = .ok (.aload_n 0, 1)) rfl (lv_at hl 0 rfl) ?_
  refine vk_getf (v := .int 0) hx hb (hSS.1.1 0 Nat.zero_lt_one).2.1 hS hown (hts _ (sd_in 1350 (by decide +kernel) rfl)) (fun _ h => h) (by decide +kernel : decode prog_18_method_154_code 7 = .ok (.getfield 15, 3)) ?_
  refine lv_if_ne (tgt := 17) hx hb (by decide +kernel : decode prog_18_method_154_code 10 = .ok (.ifCond .ne 7, 3)) rfl (fun h1 => absurd rfl h1) (fun _ => ?_)
  refine lv_iconst (v := 1) hx hb (by decide +kernel : decode prog_18_method_154_code 13 = .ok (.iconst 1, 1)) (by decide) ?_
  refine lv_goto (tgt := 18) hx hb (by decide +kernel : decode prog_18_method_154_code 14 = .ok (.goto 4, 3)) rfl ?_
  exact W.zret hx hb hr rfl (fun t ht hW => ⟨rfl, ht⟩) (fun q h => absurd h List.not_mem_nil) (by decide +kernel : decode prog_18_method_154_code 18 = .ok (.ireturn, 1)) hlk
theorem sj_coder (l : Launch) (A : Nat → Prop) (aK aV : Nat) : Met l (⟨"java/lang/String", "coder", "()B"⟩) (.code (⟨"java/lang/String", "coder", "()B"⟩) prog_18_method_152_code 1 (some .byte) :: sd_tb) (sj_r 1) (sj_P A aK aV [.ref aK]) (QcRead (0)) 0 0 (fun _ => False) := by
  refine Met.ofW (cc := prog_18_method_152_code) (maxL := 1) (ret := some .byte) (by decide) rfl ?_
  intro p e s m args below meth c s₁ BB hml hv
  obtain ⟨rfl, hSS⟩ := hv
  have hx := BB.exec
  have hb := BB.bytes
  have hr := BB.returns
  have hlk := BB.notSynchronized
  have hts0 := atoms_spec BB.pre
  have hts : ∀ w ∈ sd_tb, w.before _ s = true := fun w hw => hts0 w (List.mem_cons_of_mem _ hw)
  have hown : s.vm.findClass "java/lang/String" = some m.cls := findClass_of_methodNamed BB.named
  have hS : va_S A s.heap s.heap [] := va_S.rf
  have hl := lv_entry ([.ref aK]) (n := 1) (Nat.le_of_ble_eq_true rfl)
  rw [lg_entry_eq]
  generalize (lg_sl ([.ref aK]) ++ List.replicate (1 - (lg_sl ([.ref aK])).length) Slot.unset).toArray = ls at hl ⊢
  have hl : lv_has ls 1 [(0, .ref aK)] := hl
  refine va_gets (v := .int 1) hx hb hSS.2 hS hown (hts _ (sd_in 371 (by decide +kernel) rfl)) (fun _ h => h) (by decide +kernel : decode prog_18_method_152_code 0 = .ok (.getstatic 38, 3)) ?_
  refine lv_if_eq (tgt := 13) hx hb (by decide +kernel : decode prog_18_method_152_code 3 = .ok (.ifCond .eq 10, 3)) rfl (fun h1 => absurd h1 (by decide)) (fun _ => ?_)
  refine lv_aload_n hx hb (by decide +kernel : decode prog_18_method_152_code 6 = .ok (.aload_n 0, 1)) rfl (lv_at hl 0 rfl) ?_
  refine vk_getf (v := .int 0) hx hb (hSS.1.1 0 Nat.zero_lt_one).2.1 hS hown (hts _ (sd_in 1350 (by decide +kernel) rfl)) (fun _ h => h) (by decide +kernel : decode prog_18_method_152_code 7 = .ok (.getfield 15, 3)) ?_
  refine lv_goto (tgt := 14) hx hb (by decide +kernel : decode prog_18_method_152_code 10 = .ok (.goto 4, 3)) rfl ?_
  exact W.zret hx hb hr rfl (fun t ht hW => ⟨rfl, ht⟩) (fun q h => absurd h List.not_mem_nil) (by decide +kernel : decode prog_18_method_152_code 14 = .ok (.ireturn, 1)) hlk
theorem sj_length (l : Launch) (A : Nat → Prop) (aK aV : Nat) : Met l (⟨"java/lang/String", "length", "()I"⟩) (.code (⟨"java/lang/String", "length", "()I"⟩) prog_18_method_54_code 1 (some .int) :: sd_tb) (sj_r 2) (sj_P A aK aV [.ref aK]) (QcRead (5)) 0 0 (fun _ => False) := by
  refine Met.ofW (cc := prog_18_method_54_code) (maxL := 1) (ret := some .int) (by decide) rfl ?_
  intro p e s m args below meth c s₁ BB hml hv
  obtain ⟨rfl, hSS⟩ := hv
  have hx := BB.exec
  have hb := BB.bytes
  have hr := BB.returns
  have hlk := BB.notSynchronized
  have hts0 := atoms_spec BB.pre
  have hts : ∀ w ∈ sd_tb, w.before _ s = true := fun w hw => hts0 w (List.mem_cons_of_mem _ hw)
  have hown : s.vm.findClass "java/lang/String" = some m.cls := findClass_of_methodNamed BB.named
  have hS : va_S A s.heap s.heap [] := va_S.rf
  have hl := lv_entry ([.ref aK]) (n := 1) (Nat.le_of_ble_eq_true rfl)
  rw [lg_entry_eq]
  generalize (lg_sl ([.ref aK]) ++ List.replicate (1 - (lg_sl ([.ref aK])).length) Slot.unset).toArray = ls at hl ⊢
  have hl : lv_has ls 1 [(0, .ref aK)] := hl
  refine lv_aload_n hx hb (by decide +kernel : decode prog_18_method_54_code 0 = .ok (.aload_n 0, 1)) rfl (lv_at hl 0 rfl) ?_
  refine vk_getf (v := .ref aV) hx hb (hSS.1.1 0 Nat.zero_lt_one).2.2.1 hS hown (hts _ (sd_in 1351 (by decide +kernel) rfl)) (fun _ h => h) (by decide +kernel : decode prog_18_method_54_code 1 = .ok (.getfield 9, 3)) ?_
  refine va_tlen (v := 5) hx hb (hSS.1.1 0 Nat.zero_lt_one).2.2.2 hS rfl (by decide +kernel : decode prog_18_method_54_code 4 = .ok (.arraylength, 1)) ?_
  refine lv_aload_n hx hb (by decide +kernel : decode prog_18_method_54_code 5 = .ok (.aload_n 0, 1)) rfl (lv_at hl 0 rfl) ?_
  refine W.callR (W.runV (nL := 1) (b := aK) (C := "java/lang/String") (As := []) (rest := [.int 5]) ⟨hx, hb, hml, hown, hts⟩ (sj_coder l A aK aV ) (cwV (ws' := sd_tb) 0 hts (sd_good (sj_wv 377 378 379 73 380 (by decide +kernel) (by decide +kernel) (by decide +kernel) (by decide +kernel) (by decide +kernel) rfl rfl rfl rfl rfl)) rfl rfl rfl ⟨rfl, by decide, by decide, by decide +kernel⟩ (sj_room (by decide) (by decide) (by decide))) ⟨sj_blind, vk_recv hSS.1 (Nat.zero_lt_one) hS, (sj_pre (as := .ref aK :: []) hSS).2⟩ rfl rfl hl.1 rfl (lv_room (Nat.le_of_ble_eq_true rfl)) (by decide +kernel : decode prog_18_method_54_code 6 = .ok (.invokevirtual 335, 3)) ⟨Nat.le_of_ble_eq_true rfl, Nat.le_of_ble_eq_true rfl⟩) ?_
  refine lv_ishr hx hb (by decide +kernel : decode prog_18_method_54_code 9 = .ok (.ishr, 1)) ?_
  exact W.iret hx hb hr (fun t ht hW => ⟨rfl, ht⟩) (fun q h => absurd h List.not_mem_nil) (by decide +kernel : decode prog_18_method_54_code 10 = .ok (.ireturn, 1)) hlk
theorem sj_indexOfChar (l : Launch) (A : Nat → Prop) (aK aV : Nat) (x : Int32) : Met l (⟨"java/lang/StringLatin1", "indexOfChar", "([BIII)I"⟩) (.code (⟨"java/lang/StringLatin1", "indexOfChar", "([BIII)I"⟩) prog_19_method_23_code 6 (some .int) :: sd_tb) (sj_r 1) (sj_P A aK aV [.ref aV, .int x, .int 0, .int 5]) (QcRead (sj_ix x.toInt8.toInt32 5 0)) 0 0 (fun _ => False) := by
  refine Met.ofW (cc := prog_19_method_23_code) (maxL := 6) (ret := some .int) (by decide) rfl ?_
  intro p e s m args below meth c s₁ BB hml hv
  obtain ⟨rfl, hSS⟩ := hv
  have hx := BB.exec
  have hb := BB.bytes
  have hr := BB.returns
  have hlk := BB.notSynchronized
  have hts0 := atoms_spec BB.pre
  have hts : ∀ w ∈ sd_tb, w.before _ s = true := fun w hw => hts0 w (List.mem_cons_of_mem _ hw)
  have hown : s.vm.findClass "java/lang/StringLatin1" = some m.cls := findClass_of_methodNamed BB.named
  have hS : va_S A s.heap s.heap [] := va_S.rf
  have hl := lv_entry ([.ref aV, .int x, .int 0, .int 5]) (n := 6) (Nat.le_of_ble_eq_true rfl)
  rw [lg_entry_eq]
  generalize (lg_sl ([.ref aV, .int x, .int 0, .int 5]) ++ List.replicate (6 - (lg_sl ([.ref aV, .int x, .int 0, .int 5])).length) Slot.unset).toArray = ls at hl ⊢
  have hl : lv_has ls 6 [(0, .ref aV), (1, .int x), (2, .int 0), (3, .int 5)] := hl
  refine lv_iload_n hx hb (by decide +kernel : decode prog_19_method_23_code 0 = .ok (.iload_n 1, 1)) rfl (lv_at hl 1 rfl) ?_
  refine lv_i2b (v := x.toInt8.toInt32) hx hb (by decide +kernel : decode prog_19_method_23_code 1 = .ok (.i2b, 1)) rfl ?_
  refine lv_istore (lv' := [(4, .int x.toInt8.toInt32), (0, .ref aV), (1, .int x), (2, .int 0), (3, .int 5)]) hx hb (by decide +kernel : decode prog_19_method_23_code 2 = .ok (.istore 4, 2)) hl (by decide) rfl (fun ls hl => ?_)
  refine lv_iload_n hx hb (by decide +kernel : decode prog_19_method_23_code 4 = .ok (.iload_n 2, 1)) rfl (lv_at hl 3 rfl) ?_
  refine lv_istore (lv' := [(5, .int 0), (4, .int x.toInt8.toInt32), (0, .ref aV), (1, .int x), (2, .int 0), (3, .int 5)]) hx hb (by decide +kernel : decode prog_19_method_23_code 5 = .ok (.istore 5, 2)) hl (by decide) rfl (fun ls hl => ?_)
  have loop : ∀ (k i : Nat), i + k = 5 → ∀ (ls : Array Slot), lv_has ls 6 [(5, .int (nI i)), (4, .int x.toInt8.toInt32), (0, .ref aV), (1, .int x), (2, .int 0), (3, .int 5)] → (∀ r : Int32, sj_ix x.toInt8.toInt32 k i = r → sj_ix x.toInt8.toInt32 5 0 = r) → W p l e (headSpec (.code (⟨"java/lang/StringLatin1", "indexOfChar", "([BIII)I"⟩) prog_19_method_23_code 6 (some .int) :: sd_tb) (sj_r 1)).room s m [.ref aV, .int x, .int 0, .int 5].toArray below meth c s.heap [] 0 0 (MQ below (QcRead (sj_ix x.toInt8.toInt32 5 0)) [.ref aV, .int x, .int 0, .int 5].toArray s 0 0 (fun _ => False)) (F0 m 7 ls []) := by
    intro k
    induction k with
    | zero =>
      intro i hi ls hl hr2
      have hi5 : i = 5 := by omega
      subst hi5
      refine lv_iload hx hb (by decide +kernel : decode prog_19_method_23_code 7 = .ok (.iload 5, 2)) (lv_at hl 0 rfl) ?_
      refine lv_iload_n hx hb (by decide +kernel : decode prog_19_method_23_code 9 = .ok (.iload_n 3, 1)) rfl (lv_at hl 5 rfl) ?_
      refine lv_icmp_ge (tgt := 31) hx hb (by decide +kernel : decode prog_19_method_23_code 10 = .ok (.if_icmp .ge 21, 3)) rfl (fun _ => ?_) (fun h1 => absurd (by decide) h1)
      refine lv_iconst (v := -1) hx hb (by decide +kernel : decode prog_19_method_23_code 31 = .ok (.iconst (-1), 1)) (by decide) ?_
      exact W.iret hx hb hr (fun t ht hW => ⟨by rw [hr2 (-1) rfl], ht⟩) (fun q h => absurd h List.not_mem_nil) (by decide +kernel : decode prog_19_method_23_code 32 = .ok (.ireturn, 1)) hlk
    | succ k ih =>
      intro i hi ls hl hr2
      refine lv_iload hx hb (by decide +kernel : decode prog_19_method_23_code 7 = .ok (.iload 5, 2)) (lv_at hl 0 rfl) ?_
      refine lv_iload_n hx hb (by decide +kernel : decode prog_19_method_23_code 9 = .ok (.iload_n 3, 1)) rfl (lv_at hl 5 rfl) ?_
      refine lv_icmp_ge (tgt := 31) hx hb (by decide +kernel : decode prog_19_method_23_code 10 = .ok (.if_icmp .ge 21, 3)) rfl (fun h1 => absurd h1 (nI_ge (a := i) (b := 5) (by omega) (by decide))) (fun _ => ?_)
      refine lv_aload_n hx hb (by decide +kernel : decode prog_19_method_23_code 13 = .ok (.aload_n 0, 1)) rfl (lv_at hl 2 rfl) ?_
      refine lv_iload hx hb (by decide +kernel : decode prog_19_method_23_code 14 = .ok (.iload 5, 2)) (lv_at hl 0 rfl) ?_
      refine va_tb (v := .int (([110, 101, 115, 119, 45] : List Int32).getD i 0)) hx hb (hSS.1.1 0 Nat.zero_lt_one).2.2.2 hS (vp_in_nI (by show i < 5; omega) (by decide)) (by rw [nI_clamp (by omega)]; rfl) (by decide +kernel : decode prog_19_method_23_code 16 = .ok (.baload, 1)) ?_
      refine lv_iload hx hb (by decide +kernel : decode prog_19_method_23_code 17 = .ok (.iload 4, 2)) (lv_at hl 1 rfl) ?_
      refine lv_icmp_ne (tgt := 25) hx hb (by decide +kernel : decode prog_19_method_23_code 19 = .ok (.if_icmp .ne 6, 3)) rfl (fun h1 => ?_) (fun h1 => ?_)
      · refine lv_iinc (v := nI (i + 1)) (lv' := [(5, .int (nI (i + 1))), (4, .int x.toInt8.toInt32), (0, .ref aV), (1, .int x), (2, .int 0), (3, .int 5)]) hx hb (by decide +kernel : decode prog_19_method_23_code 25 = .ok (.iinc 5 1, 3)) hl (k := 0) rfl (nI_1 i) (by decide) rfl (fun ls hl => ?_)
        refine lv_goto (tgt := 7) hx hb (by decide +kernel : decode prog_19_method_23_code 28 = .ok (.goto (-21), 3)) rfl ?_
        exact ih (i + 1) (by omega) ls hl (fun r h2 => hr2 r (by rw [sj_ix, if_neg h1]; exact h2))
      · refine lv_iload hx hb (by decide +kernel : decode prog_19_method_23_code 22 = .ok (.iload 5, 2)) (lv_at hl 0 rfl) ?_
        exact W.iret hx hb hr (fun t ht hW => ⟨by rw [hr2 (nI i) (by rw [sj_ix, if_pos h1])], ht⟩) (fun q h => absurd h List.not_mem_nil) (by decide +kernel : decode prog_19_method_23_code 24 = .ok (.ireturn, 1)) hlk
  exact loop 5 0 rfl ls hl (fun r h => h)
theorem sj_L1indexOf (l : Launch) (A : Nat → Prop) (aK aV : Nat) (x : Int32) : Met l (⟨"java/lang/StringLatin1", "indexOf", "([BIII)I"⟩) (.code (⟨"java/lang/StringLatin1", "indexOf", "([BIII)I"⟩) prog_19_method_22_code 4 (some .int) :: sd_tb) (sj_r 2) (sj_P A aK aV [.ref aV, .int x, .int 0, .int 5]) (QcRead (if x < 0 then -1 else if 255 < x then -1 else sj_ix x.toInt8.toInt32 5 0)) 0 0 (fun _ => False) := by
  refine Met.ofW (cc := prog_19_method_22_code) (maxL := 4) (ret := some .int) (by decide) rfl ?_
  intro p e s m args below meth c s₁ BB hml hv
  obtain ⟨rfl, hSS⟩ := hv
  have hx := BB.exec
  have hb := BB.bytes
  have hr := BB.returns
  have hlk := BB.notSynchronized
  have hts0 := atoms_spec BB.pre
  have hts : ∀ w ∈ sd_tb, w.before _ s = true := fun w hw => hts0 w (List.mem_cons_of_mem _ hw)
  have hown : s.vm.findClass "java/lang/StringLatin1" = some m.cls := findClass_of_methodNamed BB.named
  have hS : va_S A s.heap s.heap [] := va_S.rf
  have hl := lv_entry ([.ref aV, .int x, .int 0, .int 5]) (n := 4) (Nat.le_of_ble_eq_true rfl)
  rw [lg_entry_eq]
  generalize (lg_sl ([.ref aV, .int x, .int 0, .int 5]) ++ List.replicate (4 - (lg_sl ([.ref aV, .int x, .int 0, .int 5])).length) Slot.unset).toArray = ls at hl ⊢
  have hl : lv_has ls 4 [(0, .ref aV), (1, .int x), (2, .int 0), (3, .int 5)] := hl
  refine lv_iload_n hx hb (by decide +kernel : decode prog_19_method_22_code 0 = .ok (.iload_n 1, 1)) rfl (lv_at hl 1 rfl) ?_
  refine W.callR (W.runS (nL := 4) (As := [.int x]) (rest := []) ⟨hx, hb, hml, hown, hts⟩ (sj_canEncode l A aK aV x) (va_cwS (ws' := sd_tb) 1 hts (sd_good (sj_ws 384 385 74 386 (by decide +kernel) (by decide +kernel) (by decide +kernel) (by decide +kernel) rfl rfl rfl rfl)) rfl rfl rfl ⟨by decide, by decide, by decide +kernel⟩ (sj_room (by decide) (by decide) (by decide))) (sj_pre hSS) rfl rfl hl.1 rfl (lv_room (Nat.le_of_ble_eq_true rfl)) (by decide +kernel : decode prog_19_method_22_code 1 = .ok (.invokestatic 88, 3)) ⟨Nat.le_of_ble_eq_true rfl, Nat.le_of_ble_eq_true rfl⟩) ?_
  refine lv_if_ne (tgt := 9) hx hb (by decide +kernel : decode prog_19_method_22_code 4 = .ok (.ifCond .ne 5, 3)) rfl (fun h1 => ?_) (fun h1 => ?_)
  · have hx0 : ¬ x < 0 := fun z => h1 (by rw [if_pos z])
    have hx1 : ¬ 255 < x := fun z => h1 (by rw [if_neg hx0, if_pos z])
    rw [if_neg hx0, if_neg hx1]
    refine lv_iload_n hx hb (by decide +kernel : decode prog_19_method_22_code 9 = .ok (.iload_n 2, 1)) rfl (lv_at hl 2 rfl) ?_
    refine lv_iconst (v := 0) hx hb (by decide +kernel : decode prog_19_method_22_code 10 = .ok (.iconst 0, 1)) (by decide) ?_
    refine va_mmax hx hb (hml.trans hl.1.symm) hown (hts _ (sd_in 387 (by decide +kernel) rfl)) (hts _ (sd_in 104 (by decide +kernel) rfl)) (hts _ (sd_in 66 (by decide +kernel) rfl)) (hts _ (sd_in 105 (by decide +kernel) rfl)) (by decide) (by decide) (by decide) (by decide) (by decide +kernel : decode prog_19_method_22_code 11 = .ok (.invokestatic 92, 3)) ?_
    refine lv_istore_n (x := 0) (lv' := [(2, .int 0), (0, .ref aV), (1, .int x), (3, .int 5)]) hx hb (by decide +kernel : decode prog_19_method_22_code 14 = .ok (.istore_n 2, 1)) rfl hl (by decide) rfl (fun ls hl => ?_)
    refine lv_iload_n hx hb (by decide +kernel : decode prog_19_method_22_code 15 = .ok (.iload_n 3, 1)) rfl (lv_at hl 3 rfl) ?_
    refine lv_aload_n hx hb (by decide +kernel : decode prog_19_method_22_code 16 = .ok (.aload_n 0, 1)) rfl (lv_at hl 1 rfl) ?_
    refine va_tlen (v := 5) hx hb (hSS.1.1 0 Nat.zero_lt_one).2.2.2 hS rfl (by decide +kernel : decode prog_19_method_22_code 17 = .ok (.arraylength, 1)) ?_
    refine va_mmin hx hb (hml.trans hl.1.symm) hown (hts _ (sd_in 388 (by decide +kernel) rfl)) (hts _ (sd_in 101 (by decide +kernel) rfl)) (hts _ (sd_in 66 (by decide +kernel) rfl)) (hts _ (sd_in 102 (by decide +kernel) rfl)) (by decide) (by decide) (by decide) (by decide) (by decide +kernel : decode prog_19_method_22_code 18 = .ok (.invokestatic 38, 3)) ?_
    refine lv_istore_n (x := 5) (lv' := [(3, .int 5), (2, .int 0), (0, .ref aV), (1, .int x)]) hx hb (by decide +kernel : decode prog_19_method_22_code 21 = .ok (.istore_n 3, 1)) rfl hl (by decide) rfl (fun ls hl => ?_)
    refine lv_iload_n hx hb (by decide +kernel : decode prog_19_method_22_code 22 = .ok (.iload_n 2, 1)) rfl (lv_at hl 1 rfl) ?_
    refine lv_iload_n hx hb (by decide +kernel : decode prog_19_method_22_code 23 = .ok (.iload_n 3, 1)) rfl (lv_at hl 0 rfl) ?_
    refine lv_icmp_lt (tgt := 29) hx hb (by decide +kernel : decode prog_19_method_22_code 24 = .ok (.if_icmp .lt 5, 3)) rfl (fun _ => ?_) (fun h2 => absurd (by decide) h2)
    refine lv_aload_n hx hb (by decide +kernel : decode prog_19_method_22_code 29 = .ok (.aload_n 0, 1)) rfl (lv_at hl 2 rfl) ?_
    refine lv_iload_n hx hb (by decide +kernel : decode prog_19_method_22_code 30 = .ok (.iload_n 1, 1)) rfl (lv_at hl 3 rfl) ?_
    refine lv_iload_n hx hb (by decide +kernel : decode prog_19_method_22_code 31 = .ok (.iload_n 2, 1)) rfl (lv_at hl 1 rfl) ?_
    refine lv_iload_n hx hb (by decide +kernel : decode prog_19_method_22_code 32 = .ok (.iload_n 3, 1)) rfl (lv_at hl 0 rfl) ?_
    refine W.callR (W.runS (nL := 4) (As := [.ref aV, .int x, .int 0, .int 5]) (rest := []) ⟨hx, hb, hml, hown, hts⟩ (sj_indexOfChar l A aK aV x) (va_cwS (ws' := sd_tb) 4 hts (sd_good (sj_ws 389 390 74 391 (by decide +kernel) (by decide +kernel) (by decide +kernel) (by decide +kernel) rfl rfl rfl rfl)) rfl rfl rfl ⟨by decide, by decide, by decide +kernel⟩ (sj_room (by decide) (by decide) (by decide))) (sj_pre hSS) rfl rfl hl.1 rfl (lv_room (Nat.le_of_ble_eq_true rfl)) (by decide +kernel : decode prog_19_method_22_code 33 = .ok (.invokestatic 95, 3)) ⟨Nat.le_of_ble_eq_true rfl, Nat.le_of_ble_eq_true rfl⟩) ?_
    exact W.iret hx hb hr (fun t ht hW => ⟨rfl, ht⟩) (fun q h => absurd h List.not_mem_nil) (by decide +kernel : decode prog_19_method_22_code 36 = .ok (.ireturn, 1)) hlk
  · refine lv_iconst (v := -1) hx hb (by decide +kernel : decode prog_19_method_22_code 7 = .ok (.iconst (-1), 1)) (by decide) ?_
    have hx2 : x < 0 ∨ 255 < x := by
      by_cases z1 : x < 0
      · exact Or.inl z1
      · by_cases z2 : 255 < x
        · exact Or.inr z2
        · rw [if_neg z1, if_neg z2] at h1; exact absurd h1 (by decide)
    exact W.iret hx hb hr (fun t ht hW => ⟨by rcases hx2 with z | z <;> simp [z], ht⟩) (fun q h => absurd h List.not_mem_nil) (by decide +kernel : decode prog_19_method_22_code 8 = .ok (.ireturn, 1)) hlk
theorem sj_indexOf2 (l : Launch) (A : Nat → Prop) (aK aV : Nat) (x : Int32) : Met l (⟨"java/lang/String", "indexOf", "(II)I"⟩) (.code (⟨"java/lang/String", "indexOf", "(II)I"⟩) prog_18_method_80_code 3 (some .int) :: sd_tb) (sj_r 3) (sj_P A aK aV [.ref aK, .int x, .int 0]) (QcRead (if x < 0 then -1 else if 255 < x then -1 else sj_ix x.toInt8.toInt32 5 0)) 0 0 (fun _ => False) := by
  refine Met.ofW (cc := prog_18_method_80_code) (maxL := 3) (ret := some .int) (by decide) rfl ?_
  intro p e s m args below meth c s₁ BB hml hv
  obtain ⟨rfl, hSS⟩ := hv
  have hx := BB.exec
  have hb := BB.bytes
  have hr := BB.returns
  have hlk := BB.notSynchronized
  have hts0 := atoms_spec BB.pre
  have hts : ∀ w ∈ sd_tb, w.before _ s = true := fun w hw => hts0 w (List.mem_cons_of_mem _ hw)
  have hown : s.vm.findClass "java/lang/String" = some m.cls := findClass_of_methodNamed BB.named
  have hS : va_S A s.heap s.heap [] := va_S.rf
  have hl := lv_entry ([.ref aK, .int x, .int 0]) (n := 3) (Nat.le_of_ble_eq_true rfl)
  rw [lg_entry_eq]
  generalize (lg_sl ([.ref aK, .int x, .int 0]) ++ List.replicate (3 - (lg_sl ([.ref aK, .int x, .int 0])).length) Slot.unset).toArray = ls at hl ⊢
  have hl : lv_has ls 3 [(0, .ref aK), (1, .int x), (2, .int 0)] := hl
  refine lv_aload_n hx hb (by decide +kernel : decode prog_18_method_80_code 0 = .ok (.aload_n 0, 1)) rfl (lv_at hl 0 rfl) ?_
  refine W.callR (W.runV (nL := 3) (b := aK) (C := "java/lang/String") (As := []) (rest := []) ⟨hx, hb, hml, hown, hts⟩ (sj_isLatin1 l A aK aV ) (cwV (ws' := sd_tb) 0 hts (sd_good (sj_wv 367 368 369 73 370 (by decide +kernel) (by decide +kernel) (by decide +kernel) (by decide +kernel) (by decide +kernel) rfl rfl rfl rfl rfl)) rfl rfl rfl ⟨rfl, by decide, by decide, by decide +kernel⟩ (sj_room (by decide) (by decide) (by decide))) ⟨sj_blind, vk_recv hSS.1 (Nat.zero_lt_one) hS, (sj_pre (as := .ref aK :: []) hSS).2⟩ rfl rfl hl.1 rfl (lv_room (Nat.le_of_ble_eq_true rfl)) (by decide +kernel : decode prog_18_method_80_code 1 = .ok (.invokevirtual 492, 3)) ⟨Nat.le_of_ble_eq_true rfl, Nat.le_of_ble_eq_true rfl⟩) ?_
  refine lv_if_eq (tgt := 23) hx hb (by decide +kernel : decode prog_18_method_80_code 4 = .ok (.ifCond .eq 19, 3)) rfl (fun h1 => absurd h1 (by decide)) (fun _ => ?_)
  refine lv_aload_n hx hb (by decide +kernel : decode prog_18_method_80_code 7 = .ok (.aload_n 0, 1)) rfl (lv_at hl 0 rfl) ?_
  refine vk_getf (v := .ref aV) hx hb (hSS.1.1 0 Nat.zero_lt_one).2.2.1 hS hown (hts _ (sd_in 1351 (by decide +kernel) rfl)) (fun _ h => h) (by decide +kernel : decode prog_18_method_80_code 8 = .ok (.getfield 9, 3)) ?_
  refine lv_iload_n hx hb (by decide +kernel : decode prog_18_method_80_code 11 = .ok (.iload_n 1, 1)) rfl (lv_at hl 1 rfl) ?_
  refine lv_iload_n hx hb (by decide +kernel : decode prog_18_method_80_code 12 = .ok (.iload_n 2, 1)) rfl (lv_at hl 2 rfl) ?_
  refine lv_aload_n hx hb (by decide +kernel : decode prog_18_method_80_code 13 = .ok (.aload_n 0, 1)) rfl (lv_at hl 0 rfl) ?_
  refine W.callR (W.runV (nL := 3) (b := aK) (C := "java/lang/String") (As := []) (rest := [.int 0, .int x, .ref aV]) ⟨hx, hb, hml, hown, hts⟩ (sj_length l A aK aV ) (cwV (ws' := sd_tb) 0 hts (sd_good (sj_wv 373 374 375 73 376 (by decide +kernel) (by decide +kernel) (by decide +kernel) (by decide +kernel) (by decide +kernel) rfl rfl rfl rfl rfl)) rfl rfl rfl ⟨rfl, by decide, by decide, by decide +kernel⟩ (sj_room (by decide) (by decide) (by decide))) ⟨sj_blind, vk_recv hSS.1 (Nat.zero_lt_one) hS, (sj_pre (as := .ref aK :: []) hSS).2⟩ rfl rfl hl.1 rfl (lv_room (Nat.le_of_ble_eq_true rfl)) (by decide +kernel : decode prog_18_method_80_code 14 = .ok (.invokevirtual 505, 3)) ⟨Nat.le_of_ble_eq_true rfl, Nat.le_of_ble_eq_true rfl⟩) ?_
  refine W.callR (W.runS (nL := 3) (As := [.ref aV, .int x, .int 0, .int 5]) (rest := []) ⟨hx, hb, hml, hown, hts⟩ (sj_L1indexOf l A aK aV x) (va_cwS (ws' := sd_tb) 4 hts (sd_good (sj_ws 381 382 74 383 (by decide +kernel) (by decide +kernel) (by decide +kernel) (by decide +kernel) rfl rfl rfl rfl)) rfl rfl rfl ⟨by decide, by decide, by decide +kernel⟩ (sj_room (by decide) (by decide) (by decide))) (sj_pre hSS) rfl rfl hl.1 rfl (lv_room (Nat.le_of_ble_eq_true rfl)) (by decide +kernel : decode prog_18_method_80_code 17 = .ok (.invokestatic 637, 3)) ⟨Nat.le_of_ble_eq_true rfl, Nat.le_of_ble_eq_true rfl⟩) ?_
  refine lv_goto (tgt := 36) hx hb (by decide +kernel : decode prog_18_method_80_code 20 = .ok (.goto 16, 3)) rfl ?_
  exact W.iret hx hb hr (fun t ht hW => ⟨rfl, ht⟩) (fun q h => absurd h List.not_mem_nil) (by decide +kernel : decode prog_18_method_80_code 36 = .ok (.ireturn, 1)) hlk
theorem sj_indexOf1 (l : Launch) (A : Nat → Prop) (aK aV : Nat) (x : Int32) : Met l (⟨"java/lang/String", "indexOf", "(I)I"⟩) (.code (⟨"java/lang/String", "indexOf", "(I)I"⟩) prog_18_method_79_code 2 (some .int) :: sd_tb) (sj_r 4) (sj_P A aK aV [.ref aK, .int x]) (QcRead (if x < 0 then -1 else if 255 < x then -1 else sj_ix x.toInt8.toInt32 5 0)) 0 0 (fun _ => False) := by
  refine Met.ofW (cc := prog_18_method_79_code) (maxL := 2) (ret := some .int) (by decide) rfl ?_
  intro p e s m args below meth c s₁ BB hml hv
  obtain ⟨rfl, hSS⟩ := hv
  have hx := BB.exec
  have hb := BB.bytes
  have hr := BB.returns
  have hlk := BB.notSynchronized
  have hts0 := atoms_spec BB.pre
  have hts : ∀ w ∈ sd_tb, w.before _ s = true := fun w hw => hts0 w (List.mem_cons_of_mem _ hw)
  have hown : s.vm.findClass "java/lang/String" = some m.cls := findClass_of_methodNamed BB.named
  have hS : va_S A s.heap s.heap [] := va_S.rf
  have hl := lv_entry ([.ref aK, .int x]) (n := 2) (Nat.le_of_ble_eq_true rfl)
  rw [lg_entry_eq]
  generalize (lg_sl ([.ref aK, .int x]) ++ List.replicate (2 - (lg_sl ([.ref aK, .int x])).length) Slot.unset).toArray = ls at hl ⊢
  have hl : lv_has ls 2 [(0, .ref aK), (1, .int x)] := hl
  refine lv_aload_n hx hb (by decide +kernel : decode prog_18_method_79_code 0 = .ok (.aload_n 0, 1)) rfl (lv_at hl 0 rfl) ?_
  refine lv_iload_n hx hb (by decide +kernel : decode prog_18_method_79_code 1 = .ok (.iload_n 1, 1)) rfl (lv_at hl 1 rfl) ?_
  refine lv_iconst (v := 0) hx hb (by decide +kernel : decode prog_18_method_79_code 2 = .ok (.iconst 0, 1)) (by decide) ?_
  refine W.callR (W.runV (nL := 2) (b := aK) (C := "java/lang/String") (As := [.int x, .int 0]) (rest := []) ⟨hx, hb, hml, hown, hts⟩ (sj_indexOf2 l A aK aV x) (cwV (ws' := sd_tb) 2 hts (sd_good (sj_wv 363 364 365 73 366 (by decide +kernel) (by decide +kernel) (by decide +kernel) (by decide +kernel) (by decide +kernel) rfl rfl rfl rfl rfl)) rfl rfl rfl ⟨rfl, by decide, by decide, by decide +kernel⟩ (sj_room (by decide) (by decide) (by decide))) ⟨sj_blind, vk_recv hSS.1 (Nat.zero_lt_one) hS, (sj_pre (as := .ref aK :: [.int x, .int 0]) hSS).2⟩ rfl rfl hl.1 rfl (lv_room (Nat.le_of_ble_eq_true rfl)) (by decide +kernel : decode prog_18_method_79_code 3 = .ok (.invokevirtual 633, 3)) ⟨Nat.le_of_ble_eq_true rfl, Nat.le_of_ble_eq_true rfl⟩) ?_
  exact W.iret hx hb hr (fun t ht hW => ⟨rfl, ht⟩) (fun q h => absurd h List.not_mem_nil) (by decide +kernel : decode prog_18_method_79_code 6 = .ok (.ireturn, 1)) hlk
theorem sj_so (x : Int32) : (if (x.toUInt32 % 65536).toInt32 < 0 then -1 else if 255 < (x.toUInt32 % 65536).toInt32 then -1 else sj_ix (x.toUInt32 % 65536).toInt32.toInt8.toInt32 5 0) = am_so x := by
  unfold am_so
  generalize hy : (x.toUInt32 % 65536).toInt32 = y
  by_cases h0 : y < 0
  · rw [if_pos h0]
    have : y ≠ 110 ∧ y ≠ 101 ∧ y ≠ 115 ∧ y ≠ 119 ∧ y ≠ 45 := by
      refine ⟨?_, ?_, ?_, ?_, ?_⟩ <;> (intro z; rw [z] at h0; exact absurd h0 (by decide))
    simp [this]
  · rw [if_neg h0]
    by_cases h1 : 255 < y
    · rw [if_pos h1]
      have : y ≠ 110 ∧ y ≠ 101 ∧ y ≠ 115 ∧ y ≠ 119 ∧ y ≠ 45 := by
        refine ⟨?_, ?_, ?_, ?_, ?_⟩ <;> (intro z; rw [z] at h1; exact absurd h1 (by decide))
      simp [this]
    · rw [if_neg h1]
      obtain ⟨j, hj, rfl⟩ := nI_of2 (M := 255) (n := 255) (by decide) h0 (by
        rw [Int32.le_iff_toInt_le]
        rw [Int32.lt_iff_toInt_lt] at h1
        omega)
      have key : ∀ j, j < 256 → sj_ix (nI j).toInt8.toInt32 5 0 = (if nI j = 110 then 0 else if nI j = 101 then 1 else if nI j = 115 then 2 else if nI j = 119 then 3 else if nI j = 45 then 4 else -1) := by decide +kernel
      exact key j (by omega)
theorem sj_stepOf (l : Launch) (A : Nat → Prop) (aK aV : Nat) (x : Int32) : Met l (⟨"SeenADayLate$Letters", "stepOf", "(I)I"⟩) (.code (⟨"SeenADayLate$Letters", "stepOf", "(I)I"⟩) prog_6_method_13_code 1 (some .int) :: sd_tb) (sj_r 5) (fun v U => v = [.int x].toArray ∧ sj_S A aK aV U ∧ vk_R "SeenADayLate$Letters" 68 "nesw-" aK U) (QcRead (am_so x)) 0 0 (fun _ => False) := by
  refine Met.ofW (cc := prog_6_method_13_code) (maxL := 1) (ret := some .int) (by decide) rfl ?_
  intro p e s m args below meth c s₁ BB hml hv
  obtain ⟨rfl, hSS, hRR⟩ := hv
  have hx := BB.exec
  have hb := BB.bytes
  have hr := BB.returns
  have hlk := BB.notSynchronized
  have hts0 := atoms_spec BB.pre
  have hts : ∀ w ∈ sd_tb, w.before _ s = true := fun w hw => hts0 w (List.mem_cons_of_mem _ hw)
  have hown : s.vm.findClass "SeenADayLate$Letters" = some m.cls := findClass_of_methodNamed BB.named
  have hS : va_S A s.heap s.heap [] := va_S.rf
  have hl := lv_entry ([.int x]) (n := 1) (Nat.le_of_ble_eq_true rfl)
  rw [lg_entry_eq]
  generalize (lg_sl ([.int x]) ++ List.replicate (1 - (lg_sl ([.int x])).length) Slot.unset).toArray = ls at hl ⊢
  have hl : lv_has ls 1 [(0, .int x)] := hl
  refine va_ldcS hx hb hown hRR (by decide +kernel : decode prog_6_method_13_code 0 = .ok (.ldc 68, 2)) ?_
  refine lv_iload_n hx hb (by decide +kernel : decode prog_6_method_13_code 2 = .ok (.iload_n 0, 1)) rfl (lv_at hl 0 rfl) ?_
  refine lv_i2c hx hb (by decide +kernel : decode prog_6_method_13_code 3 = .ok (.i2c, 1)) rfl ?_
  refine W.callR (W.runV (nL := 1) (b := aK) (C := "java/lang/String") (As := [.int (x.toUInt32 % 65536).toInt32]) (rest := []) ⟨hx, hb, hml, hown, hts⟩ (sj_indexOf1 l A aK aV ((x.toUInt32 % 65536).toInt32)) (cwV (ws' := sd_tb) 1 hts (sd_good (sj_wv 359 360 361 73 362 (by decide +kernel) (by decide +kernel) (by decide +kernel) (by decide +kernel) (by decide +kernel) rfl rfl rfl rfl rfl)) rfl rfl rfl ⟨rfl, by decide, by decide, by decide +kernel⟩ (sj_room (by decide) (by decide) (by decide))) ⟨sj_blind, vk_recv hSS.1 (Nat.zero_lt_one) hS, (sj_pre (as := .ref aK :: [.int (x.toUInt32 % 65536).toInt32]) hSS).2⟩ rfl rfl hl.1 rfl (lv_room (Nat.le_of_ble_eq_true rfl)) (by decide +kernel : decode prog_6_method_13_code 4 = .ok (.invokevirtual 70, 3)) ⟨Nat.le_of_ble_eq_true rfl, Nat.le_of_ble_eq_true rfl⟩) ?_
  rw [sj_so]
  exact W.iret hx hb hr (fun t ht hW => ⟨rfl, ht⟩) (fun q h => absurd h List.not_mem_nil) (by decide +kernel : decode prog_6_method_13_code 7 = .ok (.ireturn, 1)) hlk
