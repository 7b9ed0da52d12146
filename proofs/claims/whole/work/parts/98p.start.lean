/-! THE START: both made -/
def w00 : Wo := fun i j => if i = 0 then (if j = 0 ∨ j = 1 then 3 else if j = 4 then 1 else 0) else 0
def w0z : Wo := fun _ _ => 0
theorem w00_ok : WOK 60 w00 := ⟨by decide, by decide, by decide, by decide, by decide, by decide, fun p hp => absurd hp (by show ¬ p < 0; omega)⟩
/-- the class is made -/
theorem x_init : ∃ h1 : Hp, call 1100 [vo (some (0, 11, 0))] (hmk h00 10) = some (none, h1) ∧ h1.1 = (44, 2428) ∧ CX h1 7 15 ∧ (CV h1 7 ∧ CV h1 15 ∧ CV h1 23 ∧ CU h1) ∧ hR h1 7 0 = some (1, 5, 0) ∧ CM h1 1 w00 ∧ (hI h1 7 1 = 1 ∧ hI h1 7 2 = 0 ∧ hI h1 7 3 = 0) ∧ hI h1 0 3 = 0 ∧ hI h1 31 0 = 0 ∧ hI h1 33 0 = 0 ∧ hI h1 0 8 = 0 ∧ ∀ i, hI h1 43 i = 0 := by
  -- the moor
  obtain ⟨H1, a1, a2, a3, a4⟩ := n_new (h := hmk (hmk h00 10) 9) (mo := 1) (w := w00) rfl w00_ok
  have a1' : call 500 [vo (some (1, 5, 0)), vi 3, vi 3, vi 0] (hmk (hmk h00 10) 9) = some (none, H1) := a1
  have c1 : H1.1 = (7, 289) := a3
  have c1n : H1.1.1 = 7 := by rw [c1]
  -- three worlds
  obtain ⟨H2, b1, b2, b3, b4, b5, b6, b7⟩ := w_init (H := hmk H1 6) (wid := 7) (r := some (1, 5, 0)) (by show H1.1.1 + 1 = 8; omega)
  have c2 : (hsR H2 0 0 (some (7, 10, 0))).1 = (15, 910) := by show H2.1 = _; rw [b2]; show (15, H1.1.2 + 6 + 615) = _; rw [c1]
  have f2I : ∀ i j, i < 7 → hI (hsR H2 0 0 (some (7, 10, 0))) i j = hI H1 i j := fun i j hi => by rw [hI_r, (b7 i j hi).1, hI_hmk, if_neg (by omega)]
  have f2R : ∀ i j, i < 7 → ¬ (i = 0 ∧ j = 0) → hR (hsR H2 0 0 (some (7, 10, 0))) i j = hR H1 i j := fun i j hi nn => by rw [hR_hsR, if_neg nn, (b7 i j hi).2, hR_hmk, if_neg (by omega)]
  have g2R : ∀ i j, 7 ≤ i → hR (hsR H2 0 0 (some (7, 10, 0))) i j = hR H2 i j := fun i j hi => by rw [hR_hsR, if_neg (by omega)]
  have x2 : hR (hsR H2 0 0 (some (7, 10, 0))) 0 0 = some (7, 10, 0) := by rw [hR_hsR, if_pos ⟨rfl, rfl⟩]
  have v2 : CV (hsR H2 0 0 (some (7, 10, 0))) 7 := ⟨(g2R _ _ (by omega)).trans b3.1, (g2R _ _ (by omega)).trans b3.2.1, fun i hi => (g2R _ _ (by omega)).trans (b3.2.2 i hi)⟩
  have i2 : hI (hsR H2 0 0 (some (7, 10, 0))) 7 1 = 1 ∧ hI (hsR H2 0 0 (some (7, 10, 0))) 7 2 = 0 ∧ hI (hsR H2 0 0 (some (7, 10, 0))) 7 3 = 0 := b5
  have m2 : hR (hsR H2 0 0 (some (7, 10, 0))) 7 0 = some (1, 5, 0) := (g2R _ _ (by omega)).trans b4
  have p2 : ∀ i, hR (hsR H2 0 0 (some (7, 10, 0))) 8 i = none := fun i => (g2R _ _ (by omega)).trans (b6 i)
  have k2 : H2.1.1 = 15 := by rw [b2]
  generalize hA2 : hsR H2 0 0 (some (7, 10, 0)) = A2 at *
  have n2 : A2.1.1 = 15 := by rw [c2]
  obtain ⟨H3, d1, d2, d3, d4, d5, d6, d7⟩ := w_init (H := hmk A2 6) (wid := 15) (r := some (1, 5, 0)) (by show A2.1.1 + 1 = 16; omega)
  have c3 : (hsR H3 0 1 (some (15, 10, 0))).1 = (23, 1531) := by show H3.1 = _; rw [d2]; show (23, A2.1.2 + 6 + 615) = _; rw [c2]
  have f3I : ∀ i j, i < 15 → hI (hsR H3 0 1 (some (15, 10, 0))) i j = hI A2 i j := fun i j hi => by rw [hI_r, (d7 i j hi).1, hI_hmk, if_neg (by omega)]
  have f3R : ∀ i j, i < 15 → ¬ (i = 0 ∧ j = 1) → hR (hsR H3 0 1 (some (15, 10, 0))) i j = hR A2 i j := fun i j hi nn => by rw [hR_hsR, if_neg nn, (d7 i j hi).2, hR_hmk, if_neg (by omega)]
  have g3R : ∀ i j, 15 ≤ i → hR (hsR H3 0 1 (some (15, 10, 0))) i j = hR H3 i j := fun i j hi => by rw [hR_hsR, if_neg (by omega)]
  have x3 : hR (hsR H3 0 1 (some (15, 10, 0))) 0 1 = some (15, 10, 0) := by rw [hR_hsR, if_pos ⟨rfl, rfl⟩]
  have v3 : CV (hsR H3 0 1 (some (15, 10, 0))) 15 := ⟨(g3R _ _ (by omega)).trans d3.1, (g3R _ _ (by omega)).trans d3.2.1, fun i hi => (g3R _ _ (by omega)).trans (d3.2.2 i hi)⟩
  have p3 : ∀ i, hR (hsR H3 0 1 (some (15, 10, 0))) 16 i = none := fun i => (g3R _ _ (by omega)).trans (d6 i)
  have k3 : H3.1.1 = 23 := by rw [d2]
  generalize hA3 : hsR H3 0 1 (some (15, 10, 0)) = A3 at *
  have n3 : A3.1.1 = 23 := by rw [c3]
  obtain ⟨H4, e1, e2, e3, e4, e5, e6, e7⟩ := w_init (H := hmk A3 6) (wid := 23) (r := some (1, 5, 0)) (by show A3.1.1 + 1 = 24; omega)
  have c4 : (hsI (hsR H4 0 2 (some (23, 10, 0))) 0 3 0).1 = (31, 2152) := by show H4.1 = _; rw [e2]; show (31, A3.1.2 + 6 + 615) = _; rw [c3]
  have f4I : ∀ i j, i < 23 → ¬ (i = 0 ∧ j = 3) → hI (hsI (hsR H4 0 2 (some (23, 10, 0))) 0 3 0) i j = hI A3 i j := fun i j hi nn => by rw [hI_n nn, hI_r, (e7 i j hi).1, hI_hmk, if_neg (by omega)]
  have f4R : ∀ i j, i < 23 → ¬ (i = 0 ∧ j = 2) → hR (hsI (hsR H4 0 2 (some (23, 10, 0))) 0 3 0) i j = hR A3 i j := fun i j hi nn => by rw [hR_s, hR_hsR, if_neg nn, (e7 i j hi).2, hR_hmk, if_neg (by omega)]
  have g4R : ∀ i j, 23 ≤ i → hR (hsI (hsR H4 0 2 (some (23, 10, 0))) 0 3 0) i j = hR H4 i j := fun i j hi => by rw [hR_s, hR_hsR, if_neg (by omega)]
  have x4 : hR (hsI (hsR H4 0 2 (some (23, 10, 0))) 0 3 0) 0 2 = some (23, 10, 0) := by rw [hR_s, hR_hsR, if_pos ⟨rfl, rfl⟩]
  have v4 : CV (hsI (hsR H4 0 2 (some (23, 10, 0))) 0 3 0) 23 := ⟨(g4R _ _ (by omega)).trans e3.1, (g4R _ _ (by omega)).trans e3.2.1, fun i hi => (g4R _ _ (by omega)).trans (e3.2.2 i hi)⟩
  have p4 : ∀ i, hR (hsI (hsR H4 0 2 (some (23, 10, 0))) 0 3 0) 24 i = none := fun i => (g4R _ _ (by omega)).trans (e6 i)
  have i4 : hI (hsI (hsR H4 0 2 (some (23, 10, 0))) 0 3 0) 0 3 = 0 := hI_e _ _ _ _
  have k4 : H4.1.1 = 31 := by rw [e2]
  generalize hA4 : hsI (hsR H4 0 2 (some (23, 10, 0))) 0 3 0 = A4 at *
  have n4 : A4.1.1 = 31 := by rw [c4]
  -- letters
  have q5 : (hmk A4 7).1.1 = 32 := by show A4.1.1 + 1 = 32; omega
  have c5 : (hsR (hsI (hsI (aA (hmk A4 7) 31 1 80) 31 0 0) 31 2 0) 0 4 (some (31, 4, 0))).1 = (33, 2239) := by show (A4.1.1 + 1 + 1, A4.1.2 + 7 + 80) = _; rw [c4]
  have f5I : ∀ i j, i < 31 → hI (hsR (hsI (hsI (aA (hmk A4 7) 31 1 80) 31 0 0) 31 2 0) 0 4 (some (31, 4, 0))) i j = hI A4 i j := fun i j hi => by rw [hI_r, hI_n (by omega), hI_n (by omega), aA_I, if_neg (by omega), hI_hmk, if_neg (by omega)]
  have f5R : ∀ i j, i < 31 → ¬ (i = 0 ∧ j = 4) → hR (hsR (hsI (hsI (aA (hmk A4 7) 31 1 80) 31 0 0) 31 2 0) 0 4 (some (31, 4, 0))) i j = hR A4 i j := fun i j hi nn => by rw [hR_hsR, if_neg nn, hR_s, hR_s, aA_R, if_neg (by omega), if_neg (by omega), hR_hmk, if_neg (by omega)]
  have x5 : hR (hsR (hsI (hsI (aA (hmk A4 7) 31 1 80) 31 0 0) 31 2 0) 0 4 (some (31, 4, 0))) 0 4 = some (31, 4, 0) := by rw [hR_hsR, if_pos ⟨rfl, rfl⟩]
  have y5 : hR (hsR (hsI (hsI (aA (hmk A4 7) 31 1 80) 31 0 0) 31 2 0) 0 4 (some (31, 4, 0))) 31 1 = some (32, 13, 80) := by rw [hR_hsR, if_neg (by omega), hR_s, hR_s, aA_R, if_pos ⟨rfl, rfl⟩, q5]
  have i5 : hI (hsR (hsI (hsI (aA (hmk A4 7) 31 1 80) 31 0 0) 31 2 0) 0 4 (some (31, 4, 0))) 31 0 = 0 := by rw [hI_r, hI_n (by omega), hI_e]
  generalize hA5 : hsR (hsI (hsI (aA (hmk A4 7) 31 1 80) 31 0 0) 31 2 0) 0 4 (some (31, 4, 0)) = A5 at *
  have n5 : A5.1.1 = 33 := by rw [c5]
  -- sights
  have q6 : (hsI (hmk A5 6) 33 0 0).1.1 = 34 := by show A5.1.1 + 1 = 34; omega
  have c6 : (hsR (aL 33 sL (hsI (hmk A5 6) 33 0 0)) 0 5 (some (33, 7, 0))).1 = (39, 2347) := by show (aL 33 sL (hsI (hmk A5 6) 33 0 0)).1 = _; rw [aL_1]; show (A5.1.1 + 1 + 5, A5.1.2 + 6 + 102) = _; rw [c5]
  have f6I : ∀ i j, i < 33 → hI (hsR (aL 33 sL (hsI (hmk A5 6) 33 0 0)) 0 5 (some (33, 7, 0))) i j = hI A5 i j := fun i j hi => by rw [hI_r, aL_I _ _ _ _ _ (by omega), hI_n (by omega), hI_hmk, if_neg (by omega)]
  have f6R : ∀ i j, i < 33 → ¬ (i = 0 ∧ j = 5) → hR (hsR (aL 33 sL (hsI (hmk A5 6) 33 0 0)) 0 5 (some (33, 7, 0))) i j = hR A5 i j := fun i j hi nn => by rw [hR_hsR, if_neg nn, aL_R _ _ _ _ _ (by omega) (by omega), hR_s, hR_hmk, if_neg (by omega)]
  have x6 : hR (hsR (aL 33 sL (hsI (hmk A5 6) 33 0 0)) 0 5 (some (33, 7, 0))) 0 5 = some (33, 7, 0) := by rw [hR_hsR, if_pos ⟨rfl, rfl⟩]
  have y6 : ∀ s r, slR sL 34 s = some r → hR (hsR (aL 33 sL (hsI (hmk A5 6) 33 0 0)) 0 5 (some (33, 7, 0))) 33 s = some r := fun s r hr => by rw [hR_hsR, if_neg (by omega), aL_S _ _ _ _ (by omega), q6, hr]
  have i6 : hI (hsR (aL 33 sL (hsI (hmk A5 6) 33 0 0)) 0 5 (some (33, 7, 0))) 33 0 = 0 := by rw [hI_r, aL_I _ _ _ _ _ (by omega), hI_e]
  generalize hA6 : hsR (aL 33 sL (hsI (hmk A5 6) 33 0 0)) 0 5 (some (33, 7, 0)) = A6 at *
  have n6 : A6.1.1 = 39 := by rw [c6]
  -- chase
  have q7 : (hmk A6 2).1.1 = 40 := by show A6.1.1 + 1 = 40; omega
  have c7 : (hsR (aL 39 cL (hmk A6 2)) 0 6 (some (39, 0, 0))).1 = (42, 2409) := by show (aL 39 cL (hmk A6 2)).1 = _; rw [aL_1]; show (A6.1.1 + 1 + 2, A6.1.2 + 2 + 60) = _; rw [c6]
  have f7I : ∀ i j, i < 39 → hI (hsR (aL 39 cL (hmk A6 2)) 0 6 (some (39, 0, 0))) i j = hI A6 i j := fun i j hi => by rw [hI_r, aL_I _ _ _ _ _ (by omega), hI_hmk, if_neg (by omega)]
  have f7R : ∀ i j, i < 39 → ¬ (i = 0 ∧ j = 6) → hR (hsR (aL 39 cL (hmk A6 2)) 0 6 (some (39, 0, 0))) i j = hR A6 i j := fun i j hi nn => by rw [hR_hsR, if_neg nn, aL_R _ _ _ _ _ (by omega) (by omega), hR_hmk, if_neg (by omega)]
  have x7 : hR (hsR (aL 39 cL (hmk A6 2)) 0 6 (some (39, 0, 0))) 0 6 = some (39, 0, 0) := by rw [hR_hsR, if_pos ⟨rfl, rfl⟩]
  have y7 : ∀ s r, slR cL 40 s = some r → hR (hsR (aL 39 cL (hmk A6 2)) 0 6 (some (39, 0, 0))) 39 s = some r := fun s r hr => by rw [hR_hsR, if_neg (by omega), aL_S _ _ _ _ (by omega), q7, hr]
  generalize hA7 : hsR (aL 39 cL (hmk A6 2)) 0 6 (some (39, 0, 0)) = A7 at *
  have n7 : A7.1.1 = 42 := by rw [c7]
  -- told and refusals
  have c8 : (hsI (aA A7 0 7 12) 0 8 0).1 = (43, 2421) := by show (A7.1.1 + 1, A7.1.2 + 12) = _; rw [c7]
  have f8I : ∀ i j, i < 42 → ¬ (i = 0 ∧ j = 8) → hI (hsI (aA A7 0 7 12) 0 8 0) i j = hI A7 i j := fun i j hi nn => by rw [hI_n nn, aA_I, if_neg (by omega)]
  have f8R : ∀ i j, i < 42 → ¬ (i = 0 ∧ j = 7) → hR (hsI (aA A7 0 7 12) 0 8 0) i j = hR A7 i j := fun i j hi nn => by rw [hR_s, aA_R, if_neg nn, if_neg (by omega)]
  have x8 : hR (hsI (aA A7 0 7 12) 0 8 0) 0 7 = some (42, 13, 12) := by rw [hR_s, aA_R, if_pos ⟨rfl, rfl⟩, n7]
  have i8 : hI (hsI (aA A7 0 7 12) 0 8 0) 0 8 = 0 := hI_e _ _ _ _
  generalize hA8 : hsI (aA A7 0 7 12) 0 8 0 = A8 at *
  have n8 : A8.1.1 = 43 := by rw [c8]
  have f9I : ∀ i j, i < 43 → hI (aA A8 0 9 7) i j = hI A8 i j := fun i j hi => by rw [aA_I, if_neg (by omega)]
  have f9R : ∀ i j, i < 43 → ¬ (i = 0 ∧ j = 9) → hR (aA A8 0 9 7) i j = hR A8 i j := fun i j hi nn => by rw [aA_R, if_neg nn, if_neg (by omega)]
  have x9 : hR (aA A8 0 9 7) 0 9 = some (43, 13, 7) := by rw [aA_R, if_pos ⟨rfl, rfl⟩, n8]
  have i9 : ∀ i, hI (aA A8 0 9 7) 43 i = 0 := fun i => by rw [aA_I, if_pos n8.symm]
  have c9 : (aA A8 0 9 7).1 = (44, 2428) := by show (A8.1.1 + 1, A8.1.2 + 7) = _; rw [c8]
  -- from the worlds up
  have uI4 : ∀ i j, i < 31 → ¬ (i = 0 ∧ j = 8) → hI (aA A8 0 9 7) i j = hI A4 i j := fun i j hi nn => by rw [f9I _ _ (by omega), f8I _ _ (by omega) nn, f7I _ _ (by omega), f6I _ _ (by omega), f5I _ _ (by omega)]
  have uR4 : ∀ i j, i < 31 → (i ≠ 0 ∨ j < 4) → hR (aA A8 0 9 7) i j = hR A4 i j := fun i j hi nn => by rw [f9R _ _ (by omega) (by omega), f8R _ _ (by omega) (by omega), f7R _ _ (by omega) (by omega), f6R _ _ (by omega) (by omega), f5R _ _ (by omega) (by omega)]
  have uI1 : ∀ i j, 1 ≤ i → i < 7 → hI (aA A8 0 9 7) i j = hI H1 i j := fun i j h0 hi => by rw [uI4 _ _ (by omega) (by omega), f4I _ _ (by omega) (by omega), f3I _ _ (by omega), f2I _ _ (by omega)]
  have uR1 : ∀ i j, 1 ≤ i → i < 7 → hR (aA A8 0 9 7) i j = hR H1 i j := fun i j h0 hi => by rw [uR4 _ _ (by omega) (by omega), f4R _ _ (by omega) (by omega), f3R _ _ (by omega) (by omega), f2R _ _ (by omega) (by omega)]
  have uI2 : ∀ i j, 7 ≤ i → i < 15 → hI (aA A8 0 9 7) i j = hI A2 i j := fun i j h0 hi => by rw [uI4 _ _ (by omega) (by omega), f4I _ _ (by omega) (by omega), f3I _ _ (by omega)]
  have uR2 : ∀ i j, 7 ≤ i → i < 15 → hR (aA A8 0 9 7) i j = hR A2 i j := fun i j h0 hi => by rw [uR4 _ _ (by omega) (by omega), f4R _ _ (by omega) (by omega), f3R _ _ (by omega) (by omega)]
  have uR3 : ∀ i j, 15 ≤ i → i < 23 → hR (aA A8 0 9 7) i j = hR A3 i j := fun i j h0 hi => by rw [uR4 _ _ (by omega) (by omega), f4R _ _ (by omega) (by omega)]
  refine ⟨aA A8 0 9 7, ?_, c9, ⟨⟨?_, ?_, ?_, ?_, ?_, ?_, ?_, x9⟩, ?_, ⟨?_, ?_, ?_, ?_, ?_⟩, ?_, ?_⟩, ⟨⟨?_, ?_, fun i hi => ?_⟩, ⟨?_, ?_, fun i hi => ?_⟩, ⟨?_, ?_, fun i hi => ?_⟩, fun i hi => ⟨?_, ?_, ?_⟩⟩, ?_, ?_, ⟨?_, ?_, ?_⟩, ?_, ?_, ?_, ?_, i9⟩
  · have z5 : call 400 [vo (some (31, 4, 0))] (hmk A4 7) = some (none, hsI (hsI (aA (hmk A4 7) 31 1 80) 31 0 0) 31 2 0) := l_init _
    have z6 : call 700 [vo (some (33, 7, 0))] (hmk A5 6) = some (none, aL 33 sL (hsI (hmk A5 6) 33 0 0)) := s_init _
    have z7 : call 0 [vo (some (39, 0, 0))] (hmk A6 2) = some (none, aL 39 cL (hmk A6 2)) := ch_init _
    have n0 : (hmk h00 10).1.1 = 1 := rfl
    have s1 : call 1100 [vo (some (0, 11, 0))] (hmk h00 10) = run 3 1100 89 [some (vo (some (0, 11, 0))), some (vo (some (1, 5, 0)))] [] A7 := by
      generalize hX : run 3 1100 89 _ _ _ = X
      have hX' : run 3 1100 89 [some (vo (some (0, 11, 0))), some (vo (some (1, 5, 0)))] [] (hsR (aL 39 cL (hmk A6 2)) 0 6 (some (39, 0, 0))) = X := by rw [hA7]; exact hX
      simp only [e_1100, x_1100, xs, ↓reduceIte, n0, a1', c1n, b1, hA2, n2, d1, hA3, n3, e1, hA4, n4, z5, hA5, n5, z6, hA6, n6, z7, ↓hX']
    have s2 : run 3 1100 97 [some (vo (some (0, 11, 0))), some (vo (some (1, 5, 0)))] [] (aA A7 0 7 12) = run 3 1100 102 [some (vo (some (0, 11, 0))), some (vo (some (1, 5, 0)))] [] A8 := by
      generalize hX : run 3 1100 102 _ _ _ = X
      have hX' : run 3 1100 102 [some (vo (some (0, 11, 0))), some (vo (some (1, 5, 0)))] [] (hsI (aA A7 0 7 12) 0 8 0) = X := by rw [hA8]; exact hX
      simp only [x_1100, xs, ↓hX']
    rw [s1, r11_0, s2, r11_1]
    simp only [x_1100, xs]
  · rw [uR4 _ _ (by omega) (by omega), f4R _ _ (by omega) (by omega), f3R _ _ (by omega) (by omega)]; exact x2
  · rw [uR4 _ _ (by omega) (by omega), f4R _ _ (by omega) (by omega)]; exact x3
  · rw [uR4 _ _ (by omega) (by omega)]; exact x4
  · rw [f9R _ _ (by omega) (by omega), f8R _ _ (by omega) (by omega), f7R _ _ (by omega) (by omega), f6R _ _ (by omega) (by omega)]; exact x5
  · rw [f9R _ _ (by omega) (by omega), f8R _ _ (by omega) (by omega), f7R _ _ (by omega) (by omega)]; exact x6
  · rw [f9R _ _ (by omega) (by omega), f8R _ _ (by omega) (by omega)]; exact x7
  · rw [f9R _ _ (by omega) (by omega)]; exact x8
  · rw [f9R _ _ (by omega) (by omega), f8R _ _ (by omega) (by omega), f7R _ _ (by omega) (by omega), f6R _ _ (by omega) (by omega)]; exact y5
  · rw [f9R _ _ (by omega) (by omega), f8R _ _ (by omega) (by omega), f7R _ _ (by omega) (by omega)]; exact y6 1 _ rfl
  · rw [f9R _ _ (by omega) (by omega), f8R _ _ (by omega) (by omega), f7R _ _ (by omega) (by omega)]; exact y6 2 _ rfl
  · rw [f9R _ _ (by omega) (by omega), f8R _ _ (by omega) (by omega), f7R _ _ (by omega) (by omega)]; exact y6 3 _ rfl
  · rw [f9R _ _ (by omega) (by omega), f8R _ _ (by omega) (by omega), f7R _ _ (by omega) (by omega)]; exact y6 4 _ rfl
  · rw [f9R _ _ (by omega) (by omega), f8R _ _ (by omega) (by omega), f7R _ _ (by omega) (by omega)]; exact y6 5 _ rfl
  · rw [f9R _ _ (by omega) (by omega), f8R _ _ (by omega) (by omega)]; exact y7 0 _ rfl
  · rw [f9R _ _ (by omega) (by omega), f8R _ _ (by omega) (by omega)]; exact y7 1 _ rfl
  · rw [uR2 _ _ (by omega) (by omega)]; exact v2.1
  · rw [uR2 _ _ (by omega) (by omega)]; exact v2.2.1
  · rw [uR2 _ _ (by omega) (by omega)]; exact v2.2.2 i hi
  · rw [uR3 _ _ (by omega) (by omega)]; exact v3.1
  · rw [uR3 _ _ (by omega) (by omega)]; exact v3.2.1
  · rw [uR3 _ _ (by omega) (by omega)]; exact v3.2.2 i hi
  · rw [uR4 _ _ (by omega) (by omega)]; exact v4.1
  · rw [uR4 _ _ (by omega) (by omega)]; exact v4.2.1
  · rw [uR4 _ _ (by omega) (by omega)]; exact v4.2.2 i hi
  · rw [uR2 _ _ (by omega) (by omega), p2]; trivial
  · rw [uR3 _ _ (by omega) (by omega), p3]; trivial
  · rw [uR4 _ _ (by omega) (by omega), p4]; trivial
  · rw [uR2 _ _ (by omega) (by omega)]; exact m2
  · obtain ⟨⟨t1, t2, t3, t4, t5⟩, ⟨f0, f1, f2, f3⟩, gg⟩ := a2
    refine ⟨⟨(uR1 _ _ (by omega) (by omega)).trans t1, (uR1 _ _ (by omega) (by omega)).trans t2, (uR1 _ _ (by omega) (by omega)).trans t3, (uR1 _ _ (by omega) (by omega)).trans t4, (uR1 _ _ (by omega) (by omega)).trans t5⟩, ⟨(uI1 _ _ (by omega) (by omega)).trans f0, (uI1 _ _ (by omega) (by omega)).trans f1, (uI1 _ _ (by omega) (by omega)).trans f2, (uI1 _ _ (by omega) (by omega)).trans f3⟩, fun c hc => ?_⟩
    obtain ⟨g1, g2, g3, g4⟩ := gg c hc
    exact ⟨(uI1 _ _ (by omega) (by omega)).trans g1, (uI1 _ _ (by omega) (by omega)).trans g2, (uI1 _ _ (by omega) (by omega)).trans g3, fun s hs => (uI1 _ _ (by omega) (by omega)).trans (g4 s hs)⟩
  · rw [uI2 _ _ (by omega) (by omega)]; exact i2.1
  · rw [uI2 _ _ (by omega) (by omega)]; exact i2.2.1
  · rw [uI2 _ _ (by omega) (by omega)]; exact i2.2.2
  · rw [uI4 _ _ (by omega) (by omega)]; exact i4
  · rw [f9I _ _ (by omega), f8I _ _ (by omega) (by omega), f7I _ _ (by omega), f6I _ _ (by omega)]; exact i5
  · rw [f9I _ _ (by omega), f8I _ _ (by omega) (by omega), f7I _ _ (by omega)]; exact i6
  · rw [f9I _ _ (by omega)]; exact i8
