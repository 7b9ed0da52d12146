/-! new int[n][k]: an own walk of the model's 'make' -/
theorem sd_AOA_moved {u U : State} (hvm : u.vm.Alike U.vm) (h : (Cond.arrayOver (.array .int)).before #[] u = true) : (Cond.arrayOver (.array .int)).before #[] U = true := by
  obtain ⟨comp, c, k, h1, h2, h3, h4, h5⟩ := arrayOverA_spec h
  obtain ⟨k', hk', he⟩ := hvm.2.2 _ _ h3
  have hi : (U.vm.classes.findIdx? fun (x : Class) => match x.kind with | .array component _ => component == comp | _ => false) = some c := by
    have e1 := va_idx_bare U.vm comp
    have e2 := va_idx_bare u.vm comp
    have hb : U.vm.bare = u.vm.bare := by first | exact hvm.bare_eq | exact hvm.bare_eq.symm
    rw [hb] at e1
    exact e1.symm.trans (e2.trans h2)
  have hkind : k'.kind = .array comp (.array .int) := by rw [he]; exact h4
  have f1 : U.vm.findClass (FieldType.array .int).toString = some comp := by rw [hvm.findClass]; exact h1
  have f2 : U.vm.findClass ("[" ++ (FieldType.array .int).toString) = some c := by rw [hvm.findClass]; exact h5
  unfold Cond.before Cond.holds
  simp only [Cond.value]
  rw [f1, Option.bind_some]
  refine (congrArg (fun o : Option Nat => (o.bind (fun c => (U.vm.classes[c]?).map fun (k : Class) => match k.kind with | .array _ ty => decide (ty = FieldType.array .int) && decide (U.vm.findClass ("[" ++ (FieldType.array .int).toString) = some c) | _ => false) == some true)) hi).trans ?_
  simp [hk', hkind, f2]
/-- the outer row when i inner ones are made, the state then -/
def mm_f (h0 i : Nat) : Nat → Value := fun j => if j < i then .ref (h0 + 1 + j) else .null
def mm_S (T : State) (cA cC : ClassId) (N M : Nat) : Nat → State
  | 0 => T.pushCell (arrV cA N (mm_f T.heap.size 0))
  | i + 1 => ((mm_S T cA cC N M i).pushCell (arrV cC M (fun _ => .int 0))).setCell T.heap.size (arrV cA N (mm_f T.heap.size (i + 1)))
theorem mm_put (cA : ClassId) (N h0 i : Nat) : (arrV cA N (mm_f h0 i)).setSlot i (.ref (h0 + 1 + i)) = arrV cA N (mm_f h0 (i + 1)) := by
  rw [arrV_store]
  congr 1
  funext j
  simp only [updV, mm_f]
  by_cases h : j = i
  · subst h; simp
  · rw [if_neg h]
    by_cases h2 : j < i
    · rw [if_pos h2, if_pos (by omega)]
    · rw [if_neg h2, if_neg (by omega)]
theorem mm_facts (T : State) (cA cC : ClassId) (N M : Nat) : ∀ i, (mm_S T cA cC N M i).heap.size = T.heap.size + 1 + i ∧ (mm_S T cA cC N M i).heap[T.heap.size]? = some (arrV cA N (mm_f T.heap.size i)) ∧ (mm_S T cA cC N M i).vm = T.vm ∧ (mm_S T cA cC N M i).slotsUsed = T.slotsUsed + N + i * M ∧
    (∀ x, x < T.heap.size → (mm_S T cA cC N M i).heap[x]? = T.heap[x]?) ∧ (∀ j, j < i → (mm_S T cA cC N M i).heap[T.heap.size + 1 + j]? = some (arrV cC M (fun _ => .int 0))) := by
  intro i
  induction i with
  | zero =>
    refine ⟨by simp [mm_S], State.heap_pushCell_size _ _, rfl, by simp [mm_S, arrV_size], fun x hx => State.heap_pushCell_of_lt _ _ hx, fun j hj => absurd hj (Nat.not_lt_zero _)⟩
  | succ i ih =>
    obtain ⟨h1, h2, h3, h4, h5, h6⟩ := ih
    have hlt : T.heap.size < (mm_S T cA cC N M i).heap.size := by omega
    have hp : ((mm_S T cA cC N M i).pushCell (arrV cC M (fun _ => .int 0))).heap[T.heap.size]? = some (arrV cA N (mm_f T.heap.size i)) := by rw [State.heap_pushCell_of_lt (h := hlt)]; exact h2
    refine ⟨?_, State.heap_setCell_self hp, h3, ?_, fun x hx => ?_, fun j hj => ?_⟩
    · simp [mm_S, State.setCell, h1]; omega
    · simp [mm_S, h4, arrV_size, Nat.succ_mul]; omega
    · show (State.setCell _ _ _).heap[x]? = _
      have hx2 : x < (mm_S T cA cC N M i).heap.size := by omega
      rw [State.heap_setCell_other (Nat.ne_of_gt hx), State.heap_pushCell_of_lt (h := hx2)]
      exact h5 x hx
    · show (State.setCell _ _ _).heap[_]? = _
      have hx3 : T.heap.size ≠ T.heap.size + 1 + j := by omega
      rw [State.heap_setCell_other hx3]
      by_cases hji : j < i
      · have hx4 : T.heap.size + 1 + j < (mm_S T cA cC N M i).heap.size := by omega
        rw [State.heap_pushCell_of_lt (h := hx4)]
        exact h6 j hji
      · have e : T.heap.size + 1 + j = (mm_S T cA cC N M i).heap.size := by omega
        rw [e]
        exact State.heap_pushCell_size _ _
theorem mm_top (T : State) (f : JFrame) (cA cC : ClassId) (N M : Nat) : ∀ i, mm_S (T.setTop f) cA cC N M i = (mm_S T cA cC N M i).setTop f := by
  intro i
  induction i with
  | zero => rfl
  | succ i ih => simp only [mm_S, ih, State.heap_setTop, State.pushCell_setTop, State.setCell_setTop]
section MMS
variable {p : Program} {l : Launch} {e : Env} {R : Room} {s : State} {m : MethodId} {args : Array Value} {below : List Frame} {meth : Method} {c : Code} {T : State} {locs : List Loc} {cells slots : Nat}
theorem mm_stand (X : Stand p l e R s m args below meth c T locs cells slots) (cA cC : ClassId) (N M : Nat) : ∀ i, Stand p l e R s m args below meth c (mm_S T cA cC N M i) (locs ++ (List.range i).map fun j => ⟨T.heap.size, j⟩) (cells + 1 + i) (slots + N + i * M) := by
  intro i
  induction i with
  | zero =>
    have h := X.pushed (arrV cA N (mm_f T.heap.size 0))
    rw [arrV_size] at h
    simpa [mm_S] using h
  | succ i ih =>
    obtain ⟨h1, h2, -, -, -, -⟩ := mm_facts T cA cC N M i
    have hlt : T.heap.size < (mm_S T cA cC N M i).heap.size := by omega
    have hp : ((mm_S T cA cC N M i).pushCell (arrV cC M (fun _ => .int 0))).heap[T.heap.size]? = some (arrV cA N (mm_f T.heap.size i)) := by rw [State.heap_pushCell_of_lt (h := hlt)]; exact h2
    have h := (ih.pushed (arrV cC M (fun _ => .int 0))).stored hp i (.ref (T.heap.size + 1 + i))
    rw [arrV_size, mm_put] at h
    have e2 : (locs ++ (List.range (i + 1)).map fun j => (⟨T.heap.size, j⟩ : Loc)) = (locs ++ (List.range i).map fun j => (⟨T.heap.size, j⟩ : Loc)) ++ [⟨T.heap.size, i⟩] := by simp [List.range_succ, List.append_assoc]
    have e3 : slots + N + (i + 1) * M = slots + N + i * M + M := by rw [Nat.succ_mul]; omega
    rw [e2, e3]
    exact h
end MMS
section MMW
variable {E : CtlPost} {e : Env} {d : Bool} {acts : List Action} {s : State}
/-- one inner row -/
theorem mm_one {cC cc : ClassId} {kC : Class} {k : Int32} (hkC : s.vm.classes[cC]? = some kC) (hkind : kC.kind = .array cc .int) (hk : ¬ k < 0) (hl : ¬ k.toNatClampNeg > e.platform.arrayLengthLimit) (hh : ¬ k.toNatClampNeg * componentBytes .int > e.platform.maxHeapBytes)
    (h1 : s.heap.size < e.platform.maxCells) (h2 : s.slotsUsed + k.toNatClampNeg ≤ e.platform.maxSlots) {Q : Addr → Pre} (hq : ∀ acts', Q s.heap.size d acts' (s.pushCell (arrV cC k.toNatClampNeg (fun _ => .int 0)))) : wp (multianewarray.make cC [k]) Q E e d acts s := by
  rw [multianewarray.make]
  simp only [wp_bind', W.ite, hk, if_false, wp_pure', W.theClass, hkC, hkind, Option.some.injEq, exists_eq_left']
  refine W.newArray_of hkC hkind hl hh h1 h2 rfl (fun acts' => ?_)
  have := hq acts'
  rw [← arrV_new] at this
  exact this
/-- both dimensions -/
theorem mm_two {cA cC cc : ClassId} {kA kC : Class} {n k : Int32} (hkA : s.vm.classes[cA]? = some kA) (hkindA : kA.kind = .array cC (.array .int)) (hkC : s.vm.classes[cC]? = some kC) (hkindC : kC.kind = .array cc .int) (hn : ¬ n < 0) (hk : ¬ k < 0)
    (hl1 : ¬ n.toNatClampNeg > e.platform.arrayLengthLimit) (hh1 : ¬ n.toNatClampNeg * componentBytes (.array .int) > e.platform.maxHeapBytes) (hl2 : ¬ k.toNatClampNeg > e.platform.arrayLengthLimit) (hh2 : ¬ k.toNatClampNeg * componentBytes .int > e.platform.maxHeapBytes)
    (hc : s.heap.size + (1 + n.toNatClampNeg) ≤ e.platform.maxCells) (hs : s.slotsUsed + (n.toNatClampNeg + n.toNatClampNeg * k.toNatClampNeg) ≤ e.platform.maxSlots)
    {Q : Addr → Pre} (hq : ∀ d' acts', Q s.heap.size d' acts' (mm_S s cA cC n.toNatClampNeg k.toNatClampNeg n.toNatClampNeg)) : wp (multianewarray.make cA [n, k]) Q E e d acts s := by
  have hfind : ([k].find? (· < 0)) = none := by simp [hk]
  rw [multianewarray.make]
  simp only [wp_bind', W.ite, hn, if_false, wp_pure', W.theClass, hkA, hkindA, Option.some.injEq, exists_eq_left']
  refine W.newArray_of hkA hkindA hl1 hh1 (by omega) (by have := Nat.zero_le (n.toNatClampNeg * k.toNatClampNeg); omega) rfl (fun acts' => ?_)
  have e0 : s.pushCell { cls := cA, slots := Array.replicate n.toNatClampNeg .null } = mm_S s cA cC n.toNatClampNeg k.toNatClampNeg 0 := by
    show s.pushCell { cls := cA, slots := Array.replicate n.toNatClampNeg .null, vm := .none } = _
    rw [arrV_new]
    have : (fun _ => Value.null : Nat → Value) = mm_f s.heap.size 0 := by funext j; simp [mm_f]
    rw [this]
    rfl
  rw [e0]
  simp only [hfind]
  rw [ite_self, wp_bind', Std.Legacy.Range.forIn_eq_forIn_range']
  have hsz : ([:n.toNatClampNeg] : Std.Legacy.Range).size = n.toNatClampNeg := by simp [Std.Legacy.Range.size]
  rw [hsz]
  show wp (forIn (List.range' 0 n.toNatClampNeg 1) PUnit.unit _) _ E e d acts' _
  refine wp_forIn_inv (fun rest s' => ∃ i, i ≤ n.toNatClampNeg ∧ rest = List.range' i (n.toNatClampNeg - i) ∧ s' = mm_S s cA cC n.toNatClampNeg k.toNatClampNeg i) _ _ ⟨0, Nat.zero_le _, rfl, rfl⟩ ?_ ?_
  · rintro x rest s' d' acts1 Q' ⟨i, hi, hl, rfl⟩ hnext
    have hlt : i < n.toNatClampNeg := by
      refine Nat.not_le.mp fun h => ?_
      rw [show n.toNatClampNeg - i = 0 by omega] at hl
      simp at hl
    obtain ⟨rfl, hrest⟩ : x = i ∧ rest = List.range' (i + 1) (n.toNatClampNeg - (i + 1)) := by
      rw [show n.toNatClampNeg - i = (n.toNatClampNeg - (i + 1)) + 1 by omega, List.range'_succ] at hl
      exact ⟨(List.cons.inj hl).1, (List.cons.inj hl).2⟩
    obtain ⟨f1, f2, f3, f4, -, -⟩ := mm_facts s cA cC n.toNatClampNeg k.toNatClampNeg x
    have hmul : x * k.toNatClampNeg + k.toNatClampNeg ≤ n.toNatClampNeg * k.toNatClampNeg := by
      have := Nat.mul_le_mul_right k.toNatClampNeg (show x + 1 ≤ n.toNatClampNeg from hlt)
      rw [Nat.succ_mul] at this
      exact this
    simp only [wp_bind']
    refine mm_one (by rw [f3]; exact hkC) hkindC hk hl2 hh2 (by rw [f1]; omega) (by rw [f4]; omega) (fun acts2 => ?_)
    have hlt0 : s.heap.size < (mm_S s cA cC n.toNatClampNeg k.toNatClampNeg x).heap.size := by rw [f1]; omega
    simp only [wp_bind', W.writeLoc, wp_pure']
    refine ⟨_, by rw [State.heap_pushCell_of_lt (h := hlt0)]; exact f2, by simp [arrV], by rw [arrV_size]; exact hlt, ?_, hnext _ _ _ ⟨x + 1, hlt, hrest, ?_⟩⟩
    · simp [arrV, State.fitsSlot, State.slotType?, f3, hkA, hkindA, fits]
    · rw [f1, mm_put]
      rfl
  · rintro s' d' acts1 ⟨i, hi, hl, rfl⟩
    have hiN : i = n.toNatClampNeg := by
      refine Nat.le_antisymm hi (Nat.not_lt.mp fun h => ?_)
      rw [show n.toNatClampNeg - i = (n.toNatClampNeg - (i + 1)) + 1 by omega, List.range'_succ] at hl
      cases hl
    subst hiN
    simp only [wp_pure']
    exact hq _ _
end MMW
