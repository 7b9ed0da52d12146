theorem sd_cnt {pc : Nat} {i : Instr} {len a b c : Nat} {ls : Lc} {st : List AV} {h : Hp} {pc2 : Nat} {ls2 : Lc} {st2 : List AV} {h2 : Hp} (hs : am_stp pc i len a b c ls st h = some (.inl (pc2, ls2, st2, h2))) : h.1.1 ≤ h2.1.1 ∧ h.1.2 ≤ h2.1.2 := by
  cases i <;> simp only [am_stp] at hs <;> (first | (cases hs; done) | (repeat' split at hs) <;> (first | (cases hs; done) | (simp only [am_nx, Option.some.injEq, Sum.inl.injEq, Prod.mk.injEq] at hs; obtain ⟨-, -, -, rfl⟩ := hs; (try simp only [hsI, hsR, hmk, hcp, hmm]); constructor <;> omega)))
theorem ev_cnt : ∀ (n d m pc : Nat) (ls : Lc) (st : List AV) (h : Hp) (v : Option AV) (h2 : Hp), ev n d m pc ls st h = some (v, h2) → h.1.1 ≤ h2.1.1 ∧ h.1.2 ≤ h2.1.2 := by
  intro n
  induction n with
  | zero => intro d m pc ls st h v h2 hr; simp [ev] at hr
  | succ n ih =>
    intro d m pc ls st h v h2 hr
    cases hc : am_cd m pc with
    | none => rw [ev, hc] at hr; simp at hr
    | some x =>
      obtain ⟨i, len, a, b, c, q⟩ := x
      rw [ev_succ hc] at hr
      cases hs : am_stp pc i len a b c ls st h with
      | none => rw [hs] at hr; simp at hr
      | some o =>
        rw [hs] at hr
        rcases o with ⟨pc2, ls2, st2, h3⟩ | w | ⟨m2, as, rs⟩
        · have h1 := sd_cnt hs
          have h4 := ih _ _ _ _ _ _ _ _ hr
          omega
        · simp only [Option.some.injEq, Prod.mk.injEq] at hr
          obtain ⟨-, rfl⟩ := hr
          exact ⟨Nat.le_refl _, Nat.le_refl _⟩
        · dsimp only at hr
          by_cases hd : am_rk m2 as < d ∧ (am_al as).length ≤ am_mx m2
          · rw [if_pos hd] at hr
            cases h1 : ev n (am_rk m2 as) m2 0 (am_en m2 as) [] h with
            | none => rw [h1] at hr; simp at hr
            | some w =>
              obtain ⟨w, h3⟩ := w
              rw [h1] at hr
              have g1 := ih _ _ _ _ _ _ _ _ h1
              have g2 := ih _ _ _ _ _ _ _ _ hr
              omega
          · rw [if_neg hd] at hr; cases hr
def sd_wd (j : Nat) : List Cond := .code (sd_y j) (sd_b j) (am_mx j) (sd_rt j) :: sd_tb
def sd_rm (d mc ms : Nat) : Room := { frames := d + 10, cells := mc, slots := ms, locals := 128 * (d + 10) }
def sd_Pc (D : va_G) (A : Nat → Prop) (γ : Nat → Nat) (κ : Nat → ClassId) (sh : Nat → Nat × Nat) (h : Hp) (as : List AV) : Array Value → State → Prop := fun v U =>
  v = (as.map (sd_cv γ)).toArray ∧ sd_KB D A U ∧ (∀ q, U.heap.size ≤ q → A q) ∧ sd_Rel D A γ κ sh h U U.heap ∧ (∀ v ∈ as, sd_OK sh h.1.1 v)
def sd_Qc (D : va_G) (A : Nat → Prop) (γ0 : Nat → Nat) (κ0 : Nat → ClassId) (sh0 : Nat → Nat × Nat) (n0 : Nat) (v : Option AV) (h2 : Hp) : Array Value → State → Outcome → State → Prop := fun _ st oc t =>
  (∃ (γ : Nat → Nat) (κ : Nat → ClassId) (sh : Nat → Nat × Nat), (∀ i, i < n0 → γ i = γ0 i ∧ κ i = κ0 i ∧ sh i = sh0 i) ∧ oc = .returned (v.map (sd_cv γ)) ∧ (∀ x, v = some x → sd_OK sh h2.1.1 x) ∧ sd_Rel D A γ κ sh h2 t t.heap) ∧ va_F A st t
theorem sd_G_moved {γ : Nat → Nat} {κ : Nat → ClassId} {sh : Nat → Nat × Nat} {h : Hp} {u U : State} (hvm : u.vm.Alike U.vm) (hG : sd_G γ κ sh h u) : sd_G γ κ sh h U := ⟨hG.1, fun i hi hk => ⟨arrOfT_moved hvm (hG.2.1 i hi hk).1, (hG.2.1 i hi hk).2.moved hvm⟩, hG.2.2⟩
theorem sd_KB_moved {D : va_G} {A : Nat → Prop} {u U : State} (hW : u.WarmedH U.vm) (hh : ∀ x : Nat, x < u.heap.size → ¬ A x → U.heap[x]? = u.heap[x]?) (h : sd_KB D A u) : sd_KB D A U :=
  ⟨fun c q hq => u_Kn_moved hW.alike (h.1 c q hq), va_AO.moved hW.alike h.2.1, sd_AOA_moved hW.alike h.2.2.1, sd_KS_moved hW hh h.2.2.2.1, fun k hk => va_Nw.warmC hW (h.2.2.2.2 k hk)⟩
theorem sd_KB_same {D : va_G} {A : Nat → Prop} {u U : State} (hv : u.vm = U.vm) (hh : u.heap = U.heap) (h : sd_KB D A u) : sd_KB D A U :=
  ⟨fun c q hq => u_Kn_moved (by rw [hv]; exact Vm.Alike.refl _) (h.1 c q hq), va_AO.moved (by rw [hv]; exact Vm.Alike.refl _) h.2.1, sd_AOA_moved (by rw [hv]; exact Vm.Alike.refl _) h.2.2.1, sd_KS_same hv hh h.2.2.2.1, fun k hk => va_Nw.same rfl hv (h.2.2.2.2 k hk)⟩
theorem sd_blind {D : va_G} {A : Nat → Prop} {γ : Nat → Nat} {κ : Nat → ClassId} {sh : Nat → Nat × Nat} {h : Hp} {as : List AV} : FrameBlind (sd_Pc D A γ κ sh h as) := by
  intro a U g mk hq
  obtain ⟨h1, h2, h3, h4, h5⟩ := hq
  exact ⟨h1, sd_KB_same rfl rfl h2, h3, ⟨h4.1, h4.2.1, sd_G_moved (Vm.Alike.refl U.vm) h4.2.2⟩, h5⟩
theorem sd_alA {γ : Nat → Nat} : ∀ (as : List AV) (k i : Nat) (v : AV), am_ld (am_al as) i = some v → (k + i, sd_cv γ v) ∈ lv_args k (as.map (sd_cv γ)) ∧ v ∈ as := by
  intro as
  induction as with
  | nil => intro k i v h; simp [am_al, am_ld] at h
  | cons w as ih =>
    intro k i v h
    rcases w with x | x | x
    · cases i with
      | zero =>
        have : v = .inl x := by simp [am_al, am_ld] at h; exact h.symm
        subst this
        exact ⟨by simp [lv_args], List.mem_cons_self⟩
      | succ i =>
        have h1 : am_ld (am_al as) i = some v := by simpa [am_al, am_ld] using h
        obtain ⟨h2, h3⟩ := ih (k + 1) i v h1
        refine ⟨?_, List.mem_cons_of_mem _ h3⟩
        simp only [List.map_cons, lv_args]
        refine List.mem_cons_of_mem _ ?_
        have hc : ¬ (sd_cv γ (.inl x)).category = 2 := by simp [sd_cv, Value.category]
        rw [if_neg hc, show k + (i + 1) = k + 1 + i by omega]
        exact h2
    · cases i with
      | zero =>
        have : v = .inr (.inl x) := by simp [am_al, am_ld] at h; exact h.symm
        subst this
        exact ⟨by simp [lv_args], List.mem_cons_self⟩
      | succ i =>
        cases i with
        | zero => simp [am_al, am_ld] at h
        | succ i =>
          have h1 : am_ld (am_al as) i = some v := by simpa [am_al, am_ld] using h
          obtain ⟨h2, h3⟩ := ih (k + 2) i v h1
          refine ⟨?_, List.mem_cons_of_mem _ h3⟩
          simp only [List.map_cons, lv_args]
          refine List.mem_cons_of_mem _ ?_
          have hc : (sd_cv γ (.inr (.inl x))).category = 2 := by simp [sd_cv, Value.category]
          rw [if_pos hc, show k + (i + 1 + 1) = k + 2 + i by omega]
          exact h2
    · cases i with
      | zero =>
        have : v = .inr (.inr x) := by simp [am_al, am_ld] at h; exact h.symm
        subst this
        exact ⟨by simp [lv_args], List.mem_cons_self⟩
      | succ i =>
        have h1 : am_ld (am_al as) i = some v := by simpa [am_al, am_ld] using h
        obtain ⟨h2, h3⟩ := ih (k + 1) i v h1
        refine ⟨?_, List.mem_cons_of_mem _ h3⟩
        simp only [List.map_cons, lv_args]
        refine List.mem_cons_of_mem _ ?_
        have hc : ¬ (sd_cv γ (.inr (.inr x))).category = 2 := by cases x <;> simp [sd_cv, va_rf, Value.category]
        rw [if_neg hc, show k + (i + 1) = k + 1 + i by omega]
        exact h2
theorem sd_alL {γ : Nat → Nat} : ∀ (as : List AV), (lg_sl (as.map (sd_cv γ))).length = (am_al as).length := by
  intro as
  induction as with
  | nil => rfl
  | cons w as ih =>
    have e : ∀ (v : Value) (r : List Value), lg_sl (v :: r) = (if v.category = 2 then [.val v, .second] else [.val v]) ++ lg_sl r := fun v r => by simp [lg_sl]
    rw [List.map_cons, e, List.length_append, ih]
    rcases w with x | x | x
    · simp [sd_cv, Value.category, am_al]; omega
    · simp [sd_cv, Value.category, am_al]; omega
    · cases x <;> simp [sd_cv, va_rf, Value.category, am_al] <;> omega
theorem sd_enA {γ : Nat → Nat} {j : Nat} {as : List AV} {i : Nat} {v : AV} (h : am_ld (am_en j as) i = some v) : (i, sd_cv γ v) ∈ lv_args 0 (as.map (sd_cv γ)) ∧ v ∈ as := by
  have h1 : am_ld (am_al as) i = some v := by
    unfold am_en at h
    unfold am_ld at h ⊢
    by_cases hl : i < (am_al as).length
    · rw [List.getElem?_append_left hl] at h; exact h
    · rw [List.getElem?_append_right (by omega)] at h
      rw [List.getElem?_replicate] at h
      split at h
      · rename_i z hz
        split at hz <;> cases hz
      · cases h
  have := sd_alA (γ := γ) as 0 i v h1
  rw [Nat.zero_add] at this
  exact this
theorem sd_enL {j : Nat} {as : List AV} (h : (am_al as).length ≤ am_mx j) : (am_en j as).length = am_mx j := by
  unfold am_en
  rw [List.length_append, List.length_replicate]
  omega
/-- what the induction on the fuel carries -/
def sd_P (n : Nat) : Prop := ∀ (d j pc : Nat) (ls : Lc) (st : List AV) (h : Hp) (v : Option AV) (h2 : Hp), ev n d j pc ls st h = some (v, h2) → j ∈ sd_ids →
  ∀ (p : Program) (l : Launch) (e : Env) (R : Room) (s : State) (m : MethodId) (args : Array Value) (below : List Frame) (meth : Method) (c : Code) (D : va_G) (A : Nat → Prop) (n0 : Nat) (γ0 : Nat → Nat) (κ0 : Nat → ClassId) (sh0 : Nat → Nat × Nat) (cells slots mc ms : Nat),
    sd_Cx p s m args meth c j D A → d + 10 ≤ R.frames → 128 * (d + 10) ≤ R.locals → cells + (h2.1.1 - h.1.1) = mc → slots + (h2.1.2 - h.1.2) = ms → mc ≤ R.cells → ms ≤ R.slots →
    sd_W p l e R s m args below meth c D A n0 γ0 κ0 sh0 (MQ below (sd_Qc D A γ0 κ0 sh0 n0 v h2) args s mc ms A) j cells slots pc ls st h
theorem sd_met {n d j : Nat} {as : List AV} {h : Hp} {v : Option AV} {h2 : Hp} (hP : sd_P n) (hev : ev n d j 0 (am_en j as) [] h = some (v, h2)) (hj : j ∈ sd_ids) (hl : (am_al as).length ≤ am_mx j) (l : Launch) (D : va_G) (A : Nat → Prop) (γ : Nat → Nat) (κ : Nat → ClassId) (sh : Nat → Nat × Nat) :
    Met l (sd_y j) (sd_wd j) (sd_rm d (h2.1.1 - h.1.1) (h2.1.2 - h.1.2)) (sd_Pc D A γ κ sh h as) (sd_Qc D A γ κ sh h.1.1 v h2) (h2.1.1 - h.1.1) (h2.1.2 - h.1.2) A := by
  have hmb := (sd_mall j hj).1
  simp only [sd_mb, Bool.and_eq_true] at hmb
  refine Met.ofW (cc := sd_b j) (maxL := am_mx j) (ret := sd_rt j) hmb.1.1.2 rfl ?_
  intro p e s m args below meth c s₁ B hml hv
  obtain ⟨rfl, hKB, hA, hRl, hO⟩ := hv
  have hts := atoms_spec (ws := sd_wd j) B.pre
  have hen := lv_entry (as.map (sd_cv γ)) (n := am_mx j) (by rw [sd_alL]; exact hl)
  rw [lg_entry_eq]
  generalize (lg_sl (as.map (sd_cv γ)) ++ List.replicate (am_mx j - (lg_sl (as.map (sd_cv γ))).length) Slot.unset).toArray = lsC at hen ⊢
  have C : sd_Cx p s m (as.map (sd_cv γ)).toArray meth c j D A := ⟨B.exec, B.bytes, hml, B.returns, B.notSynchronized, findClass_of_methodNamed B.named, fun w hw => hts w (List.mem_cons_of_mem _ hw), (name_of_methodNamed B.named B.method).1, hKB, hA⟩
  refine hP d j 0 (am_en j as) [] h v h2 hev hj p l e _ s m _ below meth c D A h.1.1 γ κ sh 0 0 _ _ C (Nat.le_refl _) (Nat.le_refl _) (Nat.zero_add _) (Nat.zero_add _) (Nat.le_refl _) (Nat.le_refl _) γ κ sh s.heap [] lsC (Nat.le_refl _) (fun _ _ => ⟨rfl, rfl, rfl⟩) hRl va_S.rf ?_ (fun v hv => absurd hv List.not_mem_nil)
  refine ⟨sd_enL hl, hen.1, hen.2.1, fun i w hw => ?_⟩
  obtain ⟨g1, g2⟩ := sd_enA (γ := γ) hw
  exact ⟨hO w g2, hen.2.2 _ g1⟩
section SIM2
variable {p : Program} {l : Launch} {e : Env} {R : Room} {s : State} {m : MethodId} {args : Array Value} {below : List Frame} {meth : Method} {c : Code} {Q : State → Prop} {A : Nat → Prop} {H : Heap} {locs : List Loc} {cells slots mc ms pc : Nat} {lsC : Array Slot} {st0 rest : List Value}
/-- going on behind a call -/
theorem sd_callK {Qa : State → Outcome → State → Prop} (hr : va_Run p l e R s m args below meth c H locs cells slots mc ms (F0 m pc lsC st0) rest Qa A) (hQ : ∀ st₀ oc t, Qa st₀ oc t → va_F A st₀ t) (hS : va_S A s.heap H locs)
    (kk : ∀ (v : Option Value) (st₀ t : State) (locs1 : List Loc), s.vm.Alike t.vm → Qa st₀ (.returned v) t → va_S A s.heap t.heap locs1 → W p l e R s m args below meth c t.heap locs1 (cells + mc) (slots + ms) Q (F0 m (pc + 3) lsC (v.toList ++ rest))) : W p l e R s m args below meth c H locs cells slots Q (F0 m pc lsC st0) := by
  intro T hT X
  obtain ⟨v, st₀, t, T', L, h0, X', hL, e1, e2, hq, st⟩ := hr T hT X
  obtain ⟨hz, hk⟩ := hQ _ _ _ hq
  rw [h0] at hz hk
  obtain ⟨t2, a1, b1⟩ := kk v st₀ t (locs ++ L) (by rw [← e2]; exact X'.warmed.alike) hq
    ⟨Nat.le_trans hS.1 hz, fun q h1 h2 => by rw [hk q (Nat.lt_of_lt_of_le h1 hS.1) h2]; exact hS.2.1 q h1 h2, fun q hq => by
      rcases List.mem_append.mp hq with h | h
      · exact hS.2.2 q h
      · exact hL q h⟩ T' e1 X'
  exact ⟨t2, st t2 a1, b1⟩
end SIM2
