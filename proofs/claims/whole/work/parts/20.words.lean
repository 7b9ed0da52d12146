/-! words for the one-instruction equations -/
noncomputable def call (m : Nat) (as : List AV) (h : Hp) : Option (Option AV × Hp) := run (am_rk m as) m 0 (am_en m as) [] h
section RUN2
variable {d m pc : Nat} {ls : Lc} {st : List AV} {h : Hp} {i : Instr} {len a b c q : Nat}
theorem run_ifc {p p2 : Prop} [Decidable p] [Decidable p2] {x y : Option am_Out} (hc : am_cd m pc = some (i, len, a, b, c, q)) (hs : am_stp pc i len a b c ls st h = if p then x else y) (hp : p ↔ p2) {u v : Option (Option AV × Hp)}
    (hx : am_stp pc i len a b c ls st h = x → run d m pc ls st h = u) (hy : am_stp pc i len a b c ls st h = y → run d m pc ls st h = v) : run d m pc ls st h = if p2 then u else v := by
  by_cases h2 : p2
  · rw [if_pos h2]; rw [if_pos (hp.mpr h2)] at hs; exact hx hs
  · rw [if_neg h2]; rw [if_neg (fun z => h2 (hp.mp z))] at hs; exact hy hs
theorem run_ifz {p : Prop} [Decidable p] {z : Int32} {x y : Option am_Out} (hc : am_cd m pc = some (i, len, a, b, c, q)) (hs : am_stp pc i len a b c ls st h = if p then x else y) (hp : p ↔ am_isd z = true) {u v : Option (Option AV × Hp)}
    (hx : am_stp pc i len a b c ls st h = x → run d m pc ls st h = u) (hy : am_stp pc i len a b c ls st h = y → run d m pc ls st h = v) : run d m pc ls st h = if am_isd z = true then u else v := run_ifc hc hs hp hx hy
theorem run_calx {m2 pc2 : Nat} {as r : List AV} (hc : am_cd m pc = some (i, len, a, b, c, q)) (hs : am_stp pc i len a b c ls st h = some (.inr (.inr (m2, as, r)))) (hd : am_rk m2 as < d) (hl : (am_al as).length ≤ am_mx m2) (hp : pc + len = pc2) :
    run d m pc ls st h = (call m2 as h).bind (fun z => run d m pc2 ls (z.1.toList ++ r) z.2) := by
  subst hp
  exact run_call hc hs hd hl
theorem run_sw {x k : Int32} {r u v : Option (Option AV × Hp)} (h1 : x = k → r = u) (h2 : ¬ x = k → r = v) : r = if x = k then u else v := by
  by_cases e : x = k
  · rw [if_pos e]; exact h1 e
  · rw [if_neg e]; exact h2 e
theorem run_swd {r : List AV} (n : Nat) {dd : Int} {offs : Array Int} {x : Int32} {t : Nat} (hc : am_cd m pc = some (.tableswitch dd 0 ((n : Int) - 1) offs, len, a, b, c, q)) (ht : ((pc : Int) + dd).toNat = t) (hx : x.toInt < 0 ∨ (n : Int) - 1 < x.toInt) : run d m pc ls (vi x :: r) h = run d m t ls r h := by
  refine run_next hc ?_
  simp only [am_stp, am_swT]
  rw [if_pos hx, ht]
  rfl
theorem run_lk {r : List AV} {dd off : Int} {ps : Array (Int × Int)} {x : Int32} {t : Nat} (hc : am_cd m pc = some (.lookupswitch dd ps, len, a, b, c, q)) (ht : ((pc : Int) + off).toNat = t) (hx : Op.lookupswitch.offset ps.toList dd x.toInt = off) : run d m pc ls (vi x :: r) h = run d m t ls r h := by
  refine run_next hc ?_
  simp only [am_stp]
  rw [hx, ht]
  rfl
end RUN2
theorem xs : (∀ (a : Option AV × Hp) (f : Option AV × Hp → Option (Option AV × Hp)), (some a).bind f = f a) ∧ (∀ (a : AV), (some a).toList = [a]) ∧ ((none : Option AV).toList = []) ∧ (∀ (l : List AV), [] ++ l = l) ∧ (∀ (a : AV) (l k : List AV), (a :: l) ++ k = a :: (l ++ k)) ∧ am_isd 0 = true ∧ am_isd 1 = true ∧ (∀ (α : Type) (a b : α), (if True then a else b) = a) ∧ (∀ (α : Type) (a b : α), (if False then a else b) = b) :=
  ⟨fun _ _ => rfl, fun _ => rfl, rfl, fun _ => rfl, fun _ _ _ => rfl, rfl, rfl, fun _ _ _ => rfl, fun _ _ _ => rfl⟩
theorem am_isd0 : am_isd 0 = true := rfl
theorem am_isd1 : am_isd 1 = true := rfl
theorem sw_out4 {x : Int32} (n0 : ¬ x = 0) (n1 : ¬ x = 1) (n2 : ¬ x = 2) (n3 : ¬ x = 3) : x.toInt < 0 ∨ ((4 : Nat) : Int) - 1 < x.toInt := by
  by_cases z : x.toInt < 0
  · exact Or.inl z
  · right
    refine Int.not_le.mp fun z2 => ?_
    have hx : x = Int32.ofInt x.toInt := by simp
    rcases (show x.toInt = 0 ∨ x.toInt = 1 ∨ x.toInt = 2 ∨ x.toInt = 3 by omega) with e | e | e | e
    · rw [e] at hx; exact n0 hx
    · rw [e] at hx; exact n1 hx
    · rw [e] at hx; exact n2 hx
    · rw [e] at hx; exact n3 hx
theorem sw_out6 {x : Int32} (n0 : ¬ x = 0) (n1 : ¬ x = 1) (n2 : ¬ x = 2) (n3 : ¬ x = 3) (n4 : ¬ x = 4) (n5 : ¬ x = 5) : x.toInt < 0 ∨ ((6 : Nat) : Int) - 1 < x.toInt := by
  by_cases z : x.toInt < 0
  · exact Or.inl z
  · right
    refine Int.not_le.mp fun z2 => ?_
    have hx : x = Int32.ofInt x.toInt := by simp
    rcases (show x.toInt = 0 ∨ x.toInt = 1 ∨ x.toInt = 2 ∨ x.toInt = 3 ∨ x.toInt = 4 ∨ x.toInt = 5 by omega) with e | e | e | e | e | e
    · rw [e] at hx; exact n0 hx
    · rw [e] at hx; exact n1 hx
    · rw [e] at hx; exact n2 hx
    · rw [e] at hx; exact n3 hx
    · rw [e] at hx; exact n4 hx
    · rw [e] at hx; exact n5 hx
theorem sw_out8 {x : Int32} (n0 : ¬ x = 0) (n1 : ¬ x = 1) (n2 : ¬ x = 2) (n3 : ¬ x = 3) (n4 : ¬ x = 4) (n5 : ¬ x = 5) (n6 : ¬ x = 6) (n7 : ¬ x = 7) : x.toInt < 0 ∨ ((8 : Nat) : Int) - 1 < x.toInt := by
  by_cases z : x.toInt < 0
  · exact Or.inl z
  · right
    refine Int.not_le.mp fun z2 => ?_
    have hx : x = Int32.ofInt x.toInt := by simp
    rcases (show x.toInt = 0 ∨ x.toInt = 1 ∨ x.toInt = 2 ∨ x.toInt = 3 ∨ x.toInt = 4 ∨ x.toInt = 5 ∨ x.toInt = 6 ∨ x.toInt = 7 by omega) with e | e | e | e | e | e | e | e
    · rw [e] at hx; exact n0 hx
    · rw [e] at hx; exact n1 hx
    · rw [e] at hx; exact n2 hx
    · rw [e] at hx; exact n3 hx
    · rw [e] at hx; exact n4 hx
    · rw [e] at hx; exact n5 hx
    · rw [e] at hx; exact n6 hx
    · rw [e] at hx; exact n7 hx
theorem sw_out9 {x : Int32} (n0 : ¬ x = 0) (n1 : ¬ x = 1) (n2 : ¬ x = 2) (n3 : ¬ x = 3) (n4 : ¬ x = 4) (n5 : ¬ x = 5) (n6 : ¬ x = 6) (n7 : ¬ x = 7) (n8 : ¬ x = 8) : x.toInt < 0 ∨ ((9 : Nat) : Int) - 1 < x.toInt := by
  by_cases z : x.toInt < 0
  · exact Or.inl z
  · right
    refine Int.not_le.mp fun z2 => ?_
    have hx : x = Int32.ofInt x.toInt := by simp
    rcases (show x.toInt = 0 ∨ x.toInt = 1 ∨ x.toInt = 2 ∨ x.toInt = 3 ∨ x.toInt = 4 ∨ x.toInt = 5 ∨ x.toInt = 6 ∨ x.toInt = 7 ∨ x.toInt = 8 by omega) with e | e | e | e | e | e | e | e | e
    · rw [e] at hx; exact n0 hx
    · rw [e] at hx; exact n1 hx
    · rw [e] at hx; exact n2 hx
    · rw [e] at hx; exact n3 hx
    · rw [e] at hx; exact n4 hx
    · rw [e] at hx; exact n5 hx
    · rw [e] at hx; exact n6 hx
    · rw [e] at hx; exact n7 hx
    · rw [e] at hx; exact n8 hx
