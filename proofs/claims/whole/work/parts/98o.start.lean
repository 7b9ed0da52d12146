/-! THE START -/
def aA (H : Hp) (o s n : Nat) : Hp := hsR (hmk H n) o s (some (H.1.1, 13, n))
def aL (o : Nat) : List (Nat × Nat) → Hp → Hp
  | [], H => H
  | x :: r, H => aL o r (aA H o x.1 x.2)
def slR : List (Nat × Nat) → Nat → Nat → Option Rf
  | [], _, _ => none
  | x :: r, b, s => match slR r (b + 1) s with
    | some y => some y
    | none => if s = x.1 then some (b, 13, x.2) else none
theorem aA_I (H : Hp) (o s n i j : Nat) : hI (aA H o s n) i j = if i = H.1.1 then 0 else hI H i j := rfl
theorem aA_R (H : Hp) (o s n i j : Nat) : hR (aA H o s n) i j = if i = o ∧ j = s then some (H.1.1, 13, n) else if i = H.1.1 then none else hR H i j := rfl
theorem aL_1 (o : Nat) : ∀ xs H, (aL o xs H).1 = (H.1.1 + xs.length, H.1.2 + (xs.map (fun x => x.2)).sum) := by
  intro xs
  induction xs with
  | nil => intro H; rfl
  | cons x r ih =>
    intro H
    rw [aL, ih]
    show (H.1.1 + 1 + r.length, H.1.2 + x.2 + (r.map (fun x => x.2)).sum) = (H.1.1 + (r.length + 1), H.1.2 + (x.2 + (r.map (fun x => x.2)).sum))
    rw [Nat.add_assoc, Nat.add_assoc, Nat.add_comm 1]
theorem aL_I (o : Nat) : ∀ xs H i j, i < H.1.1 → hI (aL o xs H) i j = hI H i j := by
  intro xs
  induction xs with
  | nil => intro H i j _; rfl
  | cons x r ih =>
    intro H i j hi
    rw [aL, ih _ i j (show i < H.1.1 + 1 by omega), aA_I, if_neg (by omega)]
theorem aL_Z (o : Nat) : ∀ xs H i j, H.1.1 ≤ i → i < H.1.1 + xs.length → hI (aL o xs H) i j = 0 := by
  intro xs
  induction xs with
  | nil => intro H i j h1 h2; have h2 : i < H.1.1 + 0 := h2; omega
  | cons x r ih =>
    intro H i j h1 h2
    have h2 : i < H.1.1 + (r.length + 1) := h2
    rw [aL]
    by_cases e : i = H.1.1
    · rw [aL_I _ _ _ _ _ (show i < H.1.1 + 1 by omega), aA_I, if_pos e]
    · exact ih _ i j (show H.1.1 + 1 ≤ i by omega) (show i < H.1.1 + 1 + r.length by omega)
theorem aL_R (o : Nat) : ∀ xs H i j, i < H.1.1 → i ≠ o → hR (aL o xs H) i j = hR H i j := by
  intro xs
  induction xs with
  | nil => intro H i j _ _; rfl
  | cons x r ih =>
    intro H i j hi ho
    rw [aL, ih _ i j (show i < H.1.1 + 1 by omega) ho, aA_R, if_neg (fun z => ho z.1), if_neg (by omega)]
theorem aL_S (o : Nat) : ∀ xs H s, o < H.1.1 → hR (aL o xs H) o s = (match slR xs H.1.1 s with | some y => some y | none => hR H o s) := by
  intro xs
  induction xs with
  | nil => intro H s _; rfl
  | cons x r ih =>
    intro H s ho
    rw [aL, ih _ s (show o < H.1.1 + 1 by omega), slR]
    show (match slR r (H.1.1 + 1) s with | some y => some y | none => hR (aA H o x.1 x.2) o s) = _
    cases slR r (H.1.1 + 1) s with
    | some y => rfl
    | none =>
      simp only
      rw [aA_R]
      by_cases e : s = x.1
      · rw [if_pos ⟨rfl, e⟩, if_pos e]
      · rw [if_neg (fun z => e z.2), if_neg (by omega), if_neg e]
theorem r12_0 (H : Hp) : run 0 1200 19 [some (vo (some (44, 12, 0)))] [] H = run 0 1200 26 [some (vo (some (44, 12, 0)))] [] (aA H 44 6 5) := by
  have cnd : ((5 : Int32) < 0 ∨ 100000 ≤ (5 : Int32).toNatClampNeg) = False := by simp only [eq_iff_iff, iff_false]; decide
  have cl : (5 : Int32).toNatClampNeg = 5 := rfl
  show _ = run 0 1200 26 [some (vo (some (44, 12, 0)))] [] (hsR (hmk H 5) 44 6 (some (H.1.1, 13, 5)))
  generalize hX : run 0 1200 26 _ _ _ = X
  simp (disch := omega) only [x_1200, xs, ↓reduceIte, ↓cnd, cl, ↓hX]
theorem r12_1 (H : Hp) : run 0 1200 26 [some (vo (some (44, 12, 0)))] [] H = run 0 1200 33 [some (vo (some (44, 12, 0)))] [] (aA H 44 7 5) := by
  have cnd : ((5 : Int32) < 0 ∨ 100000 ≤ (5 : Int32).toNatClampNeg) = False := by simp only [eq_iff_iff, iff_false]; decide
  have cl : (5 : Int32).toNatClampNeg = 5 := rfl
  show _ = run 0 1200 33 [some (vo (some (44, 12, 0)))] [] (hsR (hmk H 5) 44 7 (some (H.1.1, 13, 5)))
  generalize hX : run 0 1200 33 _ _ _ = X
  simp (disch := omega) only [x_1200, xs, ↓reduceIte, ↓cnd, cl, ↓hX]
theorem r12_2 (H : Hp) : run 0 1200 33 [some (vo (some (44, 12, 0)))] [] H = run 0 1200 40 [some (vo (some (44, 12, 0)))] [] (aA H 44 8 5) := by
  have cnd : ((5 : Int32) < 0 ∨ 100000 ≤ (5 : Int32).toNatClampNeg) = False := by simp only [eq_iff_iff, iff_false]; decide
  have cl : (5 : Int32).toNatClampNeg = 5 := rfl
  show _ = run 0 1200 40 [some (vo (some (44, 12, 0)))] [] (hsR (hmk H 5) 44 8 (some (H.1.1, 13, 5)))
  generalize hX : run 0 1200 40 _ _ _ = X
  simp (disch := omega) only [x_1200, xs, ↓reduceIte, ↓cnd, cl, ↓hX]
theorem r12_3 (H : Hp) : run 0 1200 40 [some (vo (some (44, 12, 0)))] [] H = run 0 1200 48 [some (vo (some (44, 12, 0)))] [] (aA H 44 9 30) := by
  have cnd : ((30 : Int32) < 0 ∨ 100000 ≤ (30 : Int32).toNatClampNeg) = False := by simp only [eq_iff_iff, iff_false]; decide
  have cl : (30 : Int32).toNatClampNeg = 30 := rfl
  show _ = run 0 1200 48 [some (vo (some (44, 12, 0)))] [] (hsR (hmk H 30) 44 9 (some (H.1.1, 13, 30)))
  generalize hX : run 0 1200 48 _ _ _ = X
  simp (disch := omega) only [x_1200, xs, ↓reduceIte, ↓cnd, cl, ↓hX]
theorem r12_4 (H : Hp) : run 0 1200 48 [some (vo (some (44, 12, 0)))] [] H = run 0 1200 55 [some (vo (some (44, 12, 0)))] [] (aA H 44 10 5) := by
  have cnd : ((5 : Int32) < 0 ∨ 100000 ≤ (5 : Int32).toNatClampNeg) = False := by simp only [eq_iff_iff, iff_false]; decide
  have cl : (5 : Int32).toNatClampNeg = 5 := rfl
  show _ = run 0 1200 55 [some (vo (some (44, 12, 0)))] [] (hsR (hmk H 5) 44 10 (some (H.1.1, 13, 5)))
  generalize hX : run 0 1200 55 _ _ _ = X
  simp (disch := omega) only [x_1200, xs, ↓reduceIte, ↓cnd, cl, ↓hX]
theorem r12_5 (H : Hp) : run 0 1200 55 [some (vo (some (44, 12, 0)))] [] H = run 0 1200 64 [some (vo (some (44, 12, 0)))] [] (aA H 44 11 650) := by
  have cnd : ((650 : Int32) < 0 ∨ 100000 ≤ (650 : Int32).toNatClampNeg) = False := by simp only [eq_iff_iff, iff_false]; decide
  have cl : (650 : Int32).toNatClampNeg = 650 := rfl
  show _ = run 0 1200 64 [some (vo (some (44, 12, 0)))] [] (hsR (hmk H 650) 44 11 (some (H.1.1, 13, 650)))
  generalize hX : run 0 1200 64 _ _ _ = X
  simp (disch := omega) only [x_1200, xs, ↓reduceIte, ↓cnd, cl, ↓hX]
theorem r12_6 (H : Hp) : run 0 1200 64 [some (vo (some (44, 12, 0)))] [] H = run 0 1200 72 [some (vo (some (44, 12, 0)))] [] (aA H 44 13 7) := by
  have cnd : ((7 : Int32) < 0 ∨ 100000 ≤ (7 : Int32).toNatClampNeg) = False := by simp only [eq_iff_iff, iff_false]; decide
  have cl : (7 : Int32).toNatClampNeg = 7 := rfl
  show _ = run 0 1200 72 [some (vo (some (44, 12, 0)))] [] (hsR (hmk H 7) 44 13 (some (H.1.1, 13, 7)))
  generalize hX : run 0 1200 72 _ _ _ = X
  simp (disch := omega) only [x_1200, xs, ↓reduceIte, ↓cnd, cl, ↓hX]
theorem r12_7 (H : Hp) : run 0 1200 72 [some (vo (some (44, 12, 0)))] [] H = run 0 1200 81 [some (vo (some (44, 12, 0)))] [] (aA H 44 14 706) := by
  have cnd : ((706 : Int32) < 0 ∨ 100000 ≤ (706 : Int32).toNatClampNeg) = False := by simp only [eq_iff_iff, iff_false]; decide
  have cl : (706 : Int32).toNatClampNeg = 706 := rfl
  show _ = run 0 1200 81 [some (vo (some (44, 12, 0)))] [] (hsR (hmk H 706) 44 14 (some (H.1.1, 13, 706)))
  generalize hX : run 0 1200 81 _ _ _ = X
  simp (disch := omega) only [x_1200, xs, ↓reduceIte, ↓cnd, cl, ↓hX]
theorem r12_8 (H : Hp) : run 0 1200 81 [some (vo (some (44, 12, 0)))] [] H = run 0 1200 90 [some (vo (some (44, 12, 0)))] [] (aA H 44 15 706) := by
  have cnd : ((706 : Int32) < 0 ∨ 100000 ≤ (706 : Int32).toNatClampNeg) = False := by simp only [eq_iff_iff, iff_false]; decide
  have cl : (706 : Int32).toNatClampNeg = 706 := rfl
  show _ = run 0 1200 90 [some (vo (some (44, 12, 0)))] [] (hsR (hmk H 706) 44 15 (some (H.1.1, 13, 706)))
  generalize hX : run 0 1200 90 _ _ _ = X
  simp (disch := omega) only [x_1200, xs, ↓reduceIte, ↓cnd, cl, ↓hX]
theorem r12_9 (H : Hp) : run 0 1200 90 [some (vo (some (44, 12, 0)))] [] H = run 0 1200 98 [some (vo (some (44, 12, 0)))] [] (aA H 44 20 80) := by
  have cnd : ((80 : Int32) < 0 ∨ 100000 ≤ (80 : Int32).toNatClampNeg) = False := by simp only [eq_iff_iff, iff_false]; decide
  have cl : (80 : Int32).toNatClampNeg = 80 := rfl
  show _ = run 0 1200 98 [some (vo (some (44, 12, 0)))] [] (hsR (hmk H 80) 44 20 (some (H.1.1, 13, 80)))
  generalize hX : run 0 1200 98 _ _ _ = X
  simp (disch := omega) only [x_1200, xs, ↓reduceIte, ↓cnd, cl, ↓hX]
theorem r12_10 (H : Hp) : run 0 1200 98 [some (vo (some (44, 12, 0)))] [] H = run 0 1200 106 [some (vo (some (44, 12, 0)))] [] (aA H 44 25 28) := by
  have cnd : ((28 : Int32) < 0 ∨ 100000 ≤ (28 : Int32).toNatClampNeg) = False := by simp only [eq_iff_iff, iff_false]; decide
  have cl : (28 : Int32).toNatClampNeg = 28 := rfl
  show _ = run 0 1200 106 [some (vo (some (44, 12, 0)))] [] (hsR (hmk H 28) 44 25 (some (H.1.1, 13, 28)))
  generalize hX : run 0 1200 106 _ _ _ = X
  simp (disch := omega) only [x_1200, xs, ↓reduceIte, ↓cnd, cl, ↓hX]
theorem r12_11 (H : Hp) : run 0 1200 106 [some (vo (some (44, 12, 0)))] [] H = run 0 1200 114 [some (vo (some (44, 12, 0)))] [] (aA H 44 26 28) := by
  have cnd : ((28 : Int32) < 0 ∨ 100000 ≤ (28 : Int32).toNatClampNeg) = False := by simp only [eq_iff_iff, iff_false]; decide
  have cl : (28 : Int32).toNatClampNeg = 28 := rfl
  show _ = run 0 1200 114 [some (vo (some (44, 12, 0)))] [] (hsR (hmk H 28) 44 26 (some (H.1.1, 13, 28)))
  generalize hX : run 0 1200 114 _ _ _ = X
  simp (disch := omega) only [x_1200, xs, ↓reduceIte, ↓cnd, cl, ↓hX]
theorem r12_12 (H : Hp) : run 0 1200 114 [some (vo (some (44, 12, 0)))] [] H = run 0 1200 122 [some (vo (some (44, 12, 0)))] [] (aA H 44 27 28) := by
  have cnd : ((28 : Int32) < 0 ∨ 100000 ≤ (28 : Int32).toNatClampNeg) = False := by simp only [eq_iff_iff, iff_false]; decide
  have cl : (28 : Int32).toNatClampNeg = 28 := rfl
  show _ = run 0 1200 122 [some (vo (some (44, 12, 0)))] [] (hsR (hmk H 28) 44 27 (some (H.1.1, 13, 28)))
  generalize hX : run 0 1200 122 _ _ _ = X
  simp (disch := omega) only [x_1200, xs, ↓reduceIte, ↓cnd, cl, ↓hX]
theorem r12_13 (H : Hp) : run 0 1200 122 [some (vo (some (44, 12, 0)))] [] H = run 0 1200 130 [some (vo (some (44, 12, 0)))] [] (aA H 44 28 28) := by
  have cnd : ((28 : Int32) < 0 ∨ 100000 ≤ (28 : Int32).toNatClampNeg) = False := by simp only [eq_iff_iff, iff_false]; decide
  have cl : (28 : Int32).toNatClampNeg = 28 := rfl
  show _ = run 0 1200 130 [some (vo (some (44, 12, 0)))] [] (hsR (hmk H 28) 44 28 (some (H.1.1, 13, 28)))
  generalize hX : run 0 1200 130 _ _ _ = X
  simp (disch := omega) only [x_1200, xs, ↓reduceIte, ↓cnd, cl, ↓hX]
theorem r12_14 (H : Hp) : run 0 1200 130 [some (vo (some (44, 12, 0)))] [] H = run 0 1200 138 [some (vo (some (44, 12, 0)))] [] (aA H 44 29 28) := by
  have cnd : ((28 : Int32) < 0 ∨ 100000 ≤ (28 : Int32).toNatClampNeg) = False := by simp only [eq_iff_iff, iff_false]; decide
  have cl : (28 : Int32).toNatClampNeg = 28 := rfl
  show _ = run 0 1200 138 [some (vo (some (44, 12, 0)))] [] (hsR (hmk H 28) 44 29 (some (H.1.1, 13, 28)))
  generalize hX : run 0 1200 138 _ _ _ = X
  simp (disch := omega) only [x_1200, xs, ↓reduceIte, ↓cnd, cl, ↓hX]
theorem r12_15 (H : Hp) : run 0 1200 138 [some (vo (some (44, 12, 0)))] [] H = run 0 1200 146 [some (vo (some (44, 12, 0)))] [] (aA H 44 30 28) := by
  have cnd : ((28 : Int32) < 0 ∨ 100000 ≤ (28 : Int32).toNatClampNeg) = False := by simp only [eq_iff_iff, iff_false]; decide
  have cl : (28 : Int32).toNatClampNeg = 28 := rfl
  show _ = run 0 1200 146 [some (vo (some (44, 12, 0)))] [] (hsR (hmk H 28) 44 30 (some (H.1.1, 13, 28)))
  generalize hX : run 0 1200 146 _ _ _ = X
  simp (disch := omega) only [x_1200, xs, ↓reduceIte, ↓cnd, cl, ↓hX]
theorem r12_16 (H : Hp) : run 0 1200 146 [some (vo (some (44, 12, 0)))] [] H = run 0 1200 155 [some (vo (some (44, 12, 0)))] [] (aA H 44 31 168) := by
  have cnd : ((168 : Int32) < 0 ∨ 100000 ≤ (168 : Int32).toNatClampNeg) = False := by simp only [eq_iff_iff, iff_false]; decide
  have cl : (168 : Int32).toNatClampNeg = 168 := rfl
  show _ = run 0 1200 155 [some (vo (some (44, 12, 0)))] [] (hsR (hmk H 168) 44 31 (some (H.1.1, 13, 168)))
  generalize hX : run 0 1200 155 _ _ _ = X
  simp (disch := omega) only [x_1200, xs, ↓reduceIte, ↓cnd, cl, ↓hX]
theorem r12_17 (H : Hp) : run 0 1200 155 [some (vo (some (44, 12, 0)))] [] H = run 0 1200 164 [some (vo (some (44, 12, 0)))] [] (aA H 44 32 330) := by
  have cnd : ((330 : Int32) < 0 ∨ 100000 ≤ (330 : Int32).toNatClampNeg) = False := by simp only [eq_iff_iff, iff_false]; decide
  have cl : (330 : Int32).toNatClampNeg = 330 := rfl
  show _ = run 0 1200 164 [some (vo (some (44, 12, 0)))] [] (hsR (hmk H 330) 44 32 (some (H.1.1, 13, 330)))
  generalize hX : run 0 1200 164 _ _ _ = X
  simp (disch := omega) only [x_1200, xs, ↓reduceIte, ↓cnd, cl, ↓hX]
theorem r12_18 (H : Hp) : run 0 1200 164 [some (vo (some (44, 12, 0)))] [] H = run 0 1200 173 [some (vo (some (44, 12, 0)))] [] (aA H 44 33 330) := by
  have cnd : ((330 : Int32) < 0 ∨ 100000 ≤ (330 : Int32).toNatClampNeg) = False := by simp only [eq_iff_iff, iff_false]; decide
  have cl : (330 : Int32).toNatClampNeg = 330 := rfl
  show _ = run 0 1200 173 [some (vo (some (44, 12, 0)))] [] (hsR (hmk H 330) 44 33 (some (H.1.1, 13, 330)))
  generalize hX : run 0 1200 173 _ _ _ = X
  simp (disch := omega) only [x_1200, xs, ↓reduceIte, ↓cnd, cl, ↓hX]
theorem r12_19 (H : Hp) : run 0 1200 173 [some (vo (some (44, 12, 0)))] [] H = run 0 1200 181 [some (vo (some (44, 12, 0)))] [] (aA H 44 34 6) := by
  have cnd : ((6 : Int32) < 0 ∨ 100000 ≤ (6 : Int32).toNatClampNeg) = False := by simp only [eq_iff_iff, iff_false]; decide
  have cl : (6 : Int32).toNatClampNeg = 6 := rfl
  show _ = run 0 1200 181 [some (vo (some (44, 12, 0)))] [] (hsR (hmk H 6) 44 34 (some (H.1.1, 13, 6)))
  generalize hX : run 0 1200 181 _ _ _ = X
  simp (disch := omega) only [x_1200, xs, ↓reduceIte, ↓cnd, cl, ↓hX]
theorem r12_20 (H : Hp) : run 0 1200 181 [some (vo (some (44, 12, 0)))] [] H = run 0 1200 189 [some (vo (some (44, 12, 0)))] [] (aA H 44 35 6) := by
  have cnd : ((6 : Int32) < 0 ∨ 100000 ≤ (6 : Int32).toNatClampNeg) = False := by simp only [eq_iff_iff, iff_false]; decide
  have cl : (6 : Int32).toNatClampNeg = 6 := rfl
  show _ = run 0 1200 189 [some (vo (some (44, 12, 0)))] [] (hsR (hmk H 6) 44 35 (some (H.1.1, 13, 6)))
  generalize hX : run 0 1200 189 _ _ _ = X
  simp (disch := omega) only [x_1200, xs, ↓reduceIte, ↓cnd, cl, ↓hX]
theorem r12_21 (H : Hp) : run 0 1200 189 [some (vo (some (44, 12, 0)))] [] H = run 0 1200 198 [some (vo (some (44, 12, 0)))] [] (aA H 44 37 900) := by
  have cnd : ((900 : Int32) < 0 ∨ 100000 ≤ (900 : Int32).toNatClampNeg) = False := by simp only [eq_iff_iff, iff_false]; decide
  have cl : (900 : Int32).toNatClampNeg = 900 := rfl
  show _ = run 0 1200 198 [some (vo (some (44, 12, 0)))] [] (hsR (hmk H 900) 44 37 (some (H.1.1, 13, 900)))
  generalize hX : run 0 1200 198 _ _ _ = X
  simp (disch := omega) only [x_1200, xs, ↓reduceIte, ↓cnd, cl, ↓hX]
theorem r12_22 (H : Hp) : run 0 1200 198 [some (vo (some (44, 12, 0)))] [] H = run 0 1200 206 [some (vo (some (44, 12, 0)))] [] (aA H 44 38 30) := by
  have cnd : ((30 : Int32) < 0 ∨ 100000 ≤ (30 : Int32).toNatClampNeg) = False := by simp only [eq_iff_iff, iff_false]; decide
  have cl : (30 : Int32).toNatClampNeg = 30 := rfl
  show _ = run 0 1200 206 [some (vo (some (44, 12, 0)))] [] (hsR (hmk H 30) 44 38 (some (H.1.1, 13, 30)))
  generalize hX : run 0 1200 206 _ _ _ = X
  simp (disch := omega) only [x_1200, xs, ↓reduceIte, ↓cnd, cl, ↓hX]
theorem r12_23 (H : Hp) : run 0 1200 206 [some (vo (some (44, 12, 0)))] [] H = run 0 1200 213 [some (vo (some (44, 12, 0)))] [] (aA H 44 40 4) := by
  have cnd : ((4 : Int32) < 0 ∨ 100000 ≤ (4 : Int32).toNatClampNeg) = False := by simp only [eq_iff_iff, iff_false]; decide
  have cl : (4 : Int32).toNatClampNeg = 4 := rfl
  show _ = run 0 1200 213 [some (vo (some (44, 12, 0)))] [] (hsR (hmk H 4) 44 40 (some (H.1.1, 13, 4)))
  generalize hX : run 0 1200 213 _ _ _ = X
  simp (disch := omega) only [x_1200, xs, ↓reduceIte, ↓cnd, cl, ↓hX]
theorem r12_24 (H : Hp) : run 0 1200 213 [some (vo (some (44, 12, 0)))] [] H = run 0 1200 221 [some (vo (some (44, 12, 0)))] [] (aA H 44 41 12) := by
  have cnd : ((12 : Int32) < 0 ∨ 100000 ≤ (12 : Int32).toNatClampNeg) = False := by simp only [eq_iff_iff, iff_false]; decide
  have cl : (12 : Int32).toNatClampNeg = 12 := rfl
  show _ = run 0 1200 221 [some (vo (some (44, 12, 0)))] [] (hsR (hmk H 12) 44 41 (some (H.1.1, 13, 12)))
  generalize hX : run 0 1200 221 _ _ _ = X
  simp (disch := omega) only [x_1200, xs, ↓reduceIte, ↓cnd, cl, ↓hX]
theorem r7_0 (H : Hp) : run 0 700 9 [some (vo (some (33, 7, 0)))] [] H = run 0 700 17 [some (vo (some (33, 7, 0)))] [] (aA H 33 1 6) := by
  have cnd : ((6 : Int32) < 0 ∨ 100000 ≤ (6 : Int32).toNatClampNeg) = False := by simp only [eq_iff_iff, iff_false]; decide
  have cl : (6 : Int32).toNatClampNeg = 6 := rfl
  show _ = run 0 700 17 [some (vo (some (33, 7, 0)))] [] (hsR (hmk H 6) 33 1 (some (H.1.1, 13, 6)))
  generalize hX : run 0 700 17 _ _ _ = X
  simp (disch := omega) only [x_700, xs, ↓reduceIte, ↓cnd, cl, ↓hX]
theorem r7_1 (H : Hp) : run 0 700 17 [some (vo (some (33, 7, 0)))] [] H = run 0 700 25 [some (vo (some (33, 7, 0)))] [] (aA H 33 2 6) := by
  have cnd : ((6 : Int32) < 0 ∨ 100000 ≤ (6 : Int32).toNatClampNeg) = False := by simp only [eq_iff_iff, iff_false]; decide
  have cl : (6 : Int32).toNatClampNeg = 6 := rfl
  show _ = run 0 700 25 [some (vo (some (33, 7, 0)))] [] (hsR (hmk H 6) 33 2 (some (H.1.1, 13, 6)))
  generalize hX : run 0 700 25 _ _ _ = X
  simp (disch := omega) only [x_700, xs, ↓reduceIte, ↓cnd, cl, ↓hX]
theorem r7_2 (H : Hp) : run 0 700 25 [some (vo (some (33, 7, 0)))] [] H = run 0 700 33 [some (vo (some (33, 7, 0)))] [] (aA H 33 3 30) := by
  have cnd : ((30 : Int32) < 0 ∨ 100000 ≤ (30 : Int32).toNatClampNeg) = False := by simp only [eq_iff_iff, iff_false]; decide
  have cl : (30 : Int32).toNatClampNeg = 30 := rfl
  show _ = run 0 700 33 [some (vo (some (33, 7, 0)))] [] (hsR (hmk H 30) 33 3 (some (H.1.1, 13, 30)))
  generalize hX : run 0 700 33 _ _ _ = X
  simp (disch := omega) only [x_700, xs, ↓reduceIte, ↓cnd, cl, ↓hX]
theorem r7_3 (H : Hp) : run 0 700 33 [some (vo (some (33, 7, 0)))] [] H = run 0 700 41 [some (vo (some (33, 7, 0)))] [] (aA H 33 4 30) := by
  have cnd : ((30 : Int32) < 0 ∨ 100000 ≤ (30 : Int32).toNatClampNeg) = False := by simp only [eq_iff_iff, iff_false]; decide
  have cl : (30 : Int32).toNatClampNeg = 30 := rfl
  show _ = run 0 700 41 [some (vo (some (33, 7, 0)))] [] (hsR (hmk H 30) 33 4 (some (H.1.1, 13, 30)))
  generalize hX : run 0 700 41 _ _ _ = X
  simp (disch := omega) only [x_700, xs, ↓reduceIte, ↓cnd, cl, ↓hX]
theorem r7_4 (H : Hp) : run 0 700 41 [some (vo (some (33, 7, 0)))] [] H = run 0 700 49 [some (vo (some (33, 7, 0)))] [] (aA H 33 5 30) := by
  have cnd : ((30 : Int32) < 0 ∨ 100000 ≤ (30 : Int32).toNatClampNeg) = False := by simp only [eq_iff_iff, iff_false]; decide
  have cl : (30 : Int32).toNatClampNeg = 30 := rfl
  show _ = run 0 700 49 [some (vo (some (33, 7, 0)))] [] (hsR (hmk H 30) 33 5 (some (H.1.1, 13, 30)))
  generalize hX : run 0 700 49 _ _ _ = X
  simp (disch := omega) only [x_700, xs, ↓reduceIte, ↓cnd, cl, ↓hX]
theorem r0_0 (H : Hp) : run 0 0 4 [some (vo (some (39, 0, 0)))] [] H = run 0 0 12 [some (vo (some (39, 0, 0)))] [] (aA H 39 0 30) := by
  have cnd : ((30 : Int32) < 0 ∨ 100000 ≤ (30 : Int32).toNatClampNeg) = False := by simp only [eq_iff_iff, iff_false]; decide
  have cl : (30 : Int32).toNatClampNeg = 30 := rfl
  show _ = run 0 0 12 [some (vo (some (39, 0, 0)))] [] (hsR (hmk H 30) 39 0 (some (H.1.1, 13, 30)))
  generalize hX : run 0 0 12 _ _ _ = X
  simp (disch := omega) only [x_0, xs, ↓reduceIte, ↓cnd, cl, ↓hX]
theorem r0_1 (H : Hp) : run 0 0 12 [some (vo (some (39, 0, 0)))] [] H = run 0 0 20 [some (vo (some (39, 0, 0)))] [] (aA H 39 1 30) := by
  have cnd : ((30 : Int32) < 0 ∨ 100000 ≤ (30 : Int32).toNatClampNeg) = False := by simp only [eq_iff_iff, iff_false]; decide
  have cl : (30 : Int32).toNatClampNeg = 30 := rfl
  show _ = run 0 0 20 [some (vo (some (39, 0, 0)))] [] (hsR (hmk H 30) 39 1 (some (H.1.1, 13, 30)))
  generalize hX : run 0 0 20 _ _ _ = X
  simp (disch := omega) only [x_0, xs, ↓reduceIte, ↓cnd, cl, ↓hX]
theorem r4_0 (H : Hp) : run 1 400 4 [some (vo (some (31, 4, 0)))] [] H = run 1 400 12 [some (vo (some (31, 4, 0)))] [] (aA H 31 1 80) := by
  have cnd : ((80 : Int32) < 0 ∨ 100000 ≤ (80 : Int32).toNatClampNeg) = False := by simp only [eq_iff_iff, iff_false]; decide
  have cl : (80 : Int32).toNatClampNeg = 80 := rfl
  show _ = run 1 400 12 [some (vo (some (31, 4, 0)))] [] (hsR (hmk H 80) 31 1 (some (H.1.1, 13, 80)))
  generalize hX : run 1 400 12 _ _ _ = X
  simp (disch := omega) only [x_400, xs, ↓reduceIte, ↓cnd, cl, ↓hX]
theorem r11_0 (H : Hp) (l1 : Option AV) : run 3 1100 89 [some (vo (some (0, 11, 0))), l1] [] H = run 3 1100 97 [some (vo (some (0, 11, 0))), l1] [] (aA H 0 7 12) := by
  have cnd : ((12 : Int32) < 0 ∨ 100000 ≤ (12 : Int32).toNatClampNeg) = False := by simp only [eq_iff_iff, iff_false]; decide
  have cl : (12 : Int32).toNatClampNeg = 12 := rfl
  show _ = run 3 1100 97 [some (vo (some (0, 11, 0))), l1] [] (hsR (hmk H 12) 0 7 (some (H.1.1, 13, 12)))
  generalize hX : run 3 1100 97 _ _ _ = X
  simp (disch := omega) only [x_1100, xs, ↓reduceIte, ↓cnd, cl, ↓hX]
theorem r11_1 (H : Hp) (l1 : Option AV) : run 3 1100 102 [some (vo (some (0, 11, 0))), l1] [] H = run 3 1100 110 [some (vo (some (0, 11, 0))), l1] [] (aA H 0 9 7) := by
  have cnd : ((7 : Int32) < 0 ∨ 100000 ≤ (7 : Int32).toNatClampNeg) = False := by simp only [eq_iff_iff, iff_false]; decide
  have cl : (7 : Int32).toNatClampNeg = 7 := rfl
  show _ = run 3 1100 110 [some (vo (some (0, 11, 0))), l1] [] (hsR (hmk H 7) 0 9 (some (H.1.1, 13, 7)))
  generalize hX : run 3 1100 110 _ _ _ = X
  simp (disch := omega) only [x_1100, xs, ↓reduceIte, ↓cnd, cl, ↓hX]
def mL : List (Nat × Nat) := [(6, 5), (7, 5), (8, 5), (9, 30), (10, 5), (11, 650), (13, 7), (14, 706), (15, 706), (20, 80), (25, 28), (26, 28), (27, 28), (28, 28), (29, 28), (30, 28), (31, 168), (32, 330), (33, 330), (34, 6), (35, 6), (37, 900), (38, 30), (40, 4), (41, 12)]
theorem m_init (H : Hp) : call 1200 [vo (some (44, 12, 0))] H = some (none, hsI (aL 44 mL (hsI (hsI (hsI H 44 0 3) 44 1 3) 44 4 1)) 44 12 0) := by
  have s0 : call 1200 [vo (some (44, 12, 0))] H = run 0 1200 19 [some (vo (some (44, 12, 0)))] [] (hsI (hsI (hsI H 44 0 3) 44 1 3) 44 4 1) := by
    generalize hX : run 0 1200 19 _ _ _ = X
    simp only [e_1200, x_1200, xs, ↓hX]
  rw [s0, r12_0, r12_1, r12_2, r12_3, r12_4, r12_5, r12_6, r12_7, r12_8, r12_9, r12_10, r12_11, r12_12, r12_13, r12_14, r12_15, r12_16, r12_17, r12_18, r12_19, r12_20, r12_21, r12_22, r12_23, r12_24]
  simp only [x_1200, xs]
  rfl
def sL : List (Nat × Nat) := [(1, 6), (2, 6), (3, 30), (4, 30), (5, 30)]
theorem s_init (H : Hp) : call 700 [vo (some (33, 7, 0))] H = some (none, aL 33 sL (hsI H 33 0 0)) := by
  have s0 : call 700 [vo (some (33, 7, 0))] H = run 0 700 9 [some (vo (some (33, 7, 0)))] [] (hsI H 33 0 0) := by
    generalize hX : run 0 700 9 _ _ _ = X
    simp only [e_700, x_700, xs, ↓hX]
  rw [s0, r7_0, r7_1, r7_2, r7_3, r7_4]
  simp only [x_700, xs]
  rfl
def cL : List (Nat × Nat) := [(0, 30), (1, 30)]
theorem ch_init (H : Hp) : call 0 [vo (some (39, 0, 0))] H = some (none, aL 39 cL H) := by
  have s0 : call 0 [vo (some (39, 0, 0))] H = run 0 0 4 [some (vo (some (39, 0, 0)))] [] H := by
    generalize hX : run 0 0 4 _ _ _ = X
    simp only [e_0, x_0, xs, ↓hX]
  rw [s0, r0_0, r0_1]
  simp only [x_0, xs]
  rfl
theorem l_init (H : Hp) : call 400 [vo (some (31, 4, 0))] H = some (none, hsI (hsI (aA H 31 1 80) 31 0 0) 31 2 0) := by
  have s0 : call 400 [vo (some (31, 4, 0))] H = run 1 400 4 [some (vo (some (31, 4, 0)))] [] H := by
    generalize hX : run 1 400 4 _ _ _ = X
    simp only [e_400, x_400, xs, ↓hX]
  have c : call 401 [vo (some (31, 4, 0))] (aA H 31 1 80) = some (none, hsI (hsI (aA H 31 1 80) 31 0 0) 31 2 0) := by
    simp only [e_401, x_401, xs]
  rw [s0, r4_0]
  simp only [x_400, xs, c]
theorem w_init {H : Hp} {wid : Nat} {r : Option Rf} (hw : H.1.1 = wid + 1) : ∃ h2, call 1000 [vo (some (wid, 10, 0)), vo r] H = some (none, h2) ∧ h2.1 = (wid + 8, H.1.2 + 615) ∧ CV h2 wid ∧ hR h2 wid 0 = r ∧ (hI h2 wid 1 = 1 ∧ hI h2 wid 2 = 0 ∧ hI h2 wid 3 = 0) ∧ (∀ i, hR h2 (wid + 1) i = none) ∧ ∀ i j, i < wid → hI h2 i j = hI H i j ∧ hR h2 i j = hR H i j := by
  have cnd : ((5 : Int32) < 0 ∨ 100000 ≤ (5 : Int32).toNatClampNeg) = False := by simp only [eq_iff_iff, iff_false]; decide
  have cnd2 : ((121 : Int32) < 0 ∨ 1000 ≤ (121 : Int32).toNatClampNeg ∨ (5 : Int32) < 0 ∨ 1000 ≤ (5 : Int32).toNatClampNeg) = False := by simp only [eq_iff_iff, iff_false]; decide
  have c5 : (5 : Int32).toNatClampNeg = 5 := rfl
  have c121 : (121 : Int32).toNatClampNeg = 121 := rfl
  have q1 : (hsR (hmk (hsI (hsI (hsI (hsR H wid 0 r) wid 1 1) wid 2 0) wid 3 0) 5) wid 4 (some (H.1.1, 14, 5))).1.1 = wid + 2 := by show H.1.1 + 1 = wid + 2; omega
  refine ⟨hsR (hmm (hsR (hmk (hsI (hsI (hsI (hsR H wid 0 r) wid 1 1) wid 2 0) wid 3 0) 5) wid 4 (some (wid + 1, 14, 5))) 5 121) wid 5 (some (wid + 2, 15, 5)), ?_, ?_, ⟨?_, ?_, fun i hi => ?_⟩, ?_, ⟨?_, ?_, ?_⟩, fun i => ?_, fun i j hi => ⟨?_, ?_⟩⟩
  · have e1 : (hsI (hsI (hsI (hsR H wid 0 r) wid 1 1) wid 2 0) wid 3 0).1.1 = wid + 1 := hw
    have e2 : (hsR (hmk (hsI (hsI (hsI (hsR H wid 0 r) wid 1 1) wid 2 0) wid 3 0) 5) wid 4 (some (wid + 1, 14, 5))).1.1 = wid + 2 := by show H.1.1 + 1 = wid + 2; omega
    simp only [e_1000, x_1000, xs, ↓reduceIte, ↓cnd, ↓cnd2, c5, c121, e1, e2]
  · show (H.1.1 + 1 + 1 + 5, H.1.2 + 5 + 5 + 5 * 121) = _
    rw [hw]
  · rw [hR_hsR, if_neg (by omega), hR_hmm, if_neg (by show ¬ H.1.1 + 1 ≤ wid; omega), hR_hsR, if_pos ⟨rfl, rfl⟩]
  · rw [hR_hsR, if_pos ⟨rfl, rfl⟩]
  · rw [hR_hsR, if_neg (by omega), hR_hmm, if_pos (by show H.1.1 + 1 ≤ wid + 2; omega), if_pos ⟨by show wid + 2 = H.1.1 + 1; omega, hi⟩]
    show some (H.1.1 + 1 + 1 + i, 13, 121) = some (wid + 3 + i, 13, 121)
    rw [hw]
  · rw [hR_hsR, if_neg (by omega), hR_hmm, if_neg (by show ¬ H.1.1 + 1 ≤ wid; omega), hR_hsR, if_neg (by omega), hR_hmk, if_neg (by show ¬ wid = H.1.1; omega), hR_s, hR_s, hR_s, hR_hsR, if_pos ⟨rfl, rfl⟩]
  · rw [hI_r, hI_hmm, if_neg (by show ¬ H.1.1 + 1 ≤ wid; omega), hI_r, hI_hmk, if_neg (by show ¬ wid = H.1.1; omega), hI_n (by omega), hI_n (by omega), hI_e]
  · rw [hI_r, hI_hmm, if_neg (by show ¬ H.1.1 + 1 ≤ wid; omega), hI_r, hI_hmk, if_neg (by show ¬ wid = H.1.1; omega), hI_n (by omega), hI_e]
  · rw [hI_r, hI_hmm, if_neg (by show ¬ H.1.1 + 1 ≤ wid; omega), hI_r, hI_hmk, if_neg (by show ¬ wid = H.1.1; omega), hI_e]
  · rw [hR_hsR, if_neg (by omega), hR_hmm, if_neg (by show ¬ H.1.1 + 1 ≤ wid + 1; omega), hR_hsR, if_neg (by omega), hR_hmk, if_pos (by show wid + 1 = H.1.1; omega)]
  · rw [hI_r, hI_hmm, if_neg (by show ¬ H.1.1 + 1 ≤ i; omega), hI_r, hI_hmk, if_neg (by show ¬ i = H.1.1; omega), hI_n (by omega), hI_n (by omega), hI_n (by omega), hI_r]
  · rw [hR_hsR, if_neg (by omega), hR_hmm, if_neg (by show ¬ H.1.1 + 1 ≤ i; omega), hR_hsR, if_neg (by omega), hR_hmk, if_neg (by show ¬ i = H.1.1; omega), hR_s, hR_s, hR_s, hR_hsR, if_neg (by omega)]
