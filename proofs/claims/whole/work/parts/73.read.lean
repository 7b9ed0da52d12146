/-! THE REFERENCE: a statement told -/
theorem m_cm_m {h : Hp} {k a b c : Nat} {w : Wo} (hW : MW h) (hS : MS h w) (k28 : k < 28) (u1 : hI h 57 k = nI a) (u2 : hI h 58 k = nI b) (u3 : hI h 59 k = nI c) : ∃ h2, call 1231 [vo (some (44, 12, 0)), vi (nI k)] h = some (some (vi 1), h2) ∧ kp cS h h2 ∧ MS h2 (mooW w a b c) := by
  have w27 : hR h 44 27 = some (57, 13, 28) := hW.2.2.2.2.2.2.2.2.2.2.2.2.1
  have w28 : hR h 44 28 = some (58, 13, 28) := hW.2.2.2.2.2.2.2.2.2.2.2.2.2.1
  have w29 : hR h 44 29 = some (59, 13, 28) := hW.2.2.2.2.2.2.2.2.2.2.2.2.2.2.1
  refine ⟨hsI (hsI (hsI (hsI (hsI h 44 0 (nI a)) 44 1 (nI b)) 44 2 (nI c)) 44 3 0) 44 5 0, ?_, kp_t (kp_t (kp_t (kp_t (kp_I ?_) (kp_I ?_)) (kp_I ?_)) (kp_I ?_)) (kp_I ?_), ⟨⟨?_, ?_, ?_, ?_, ?_, ?_⟩, fun p hp => absurd hp (by show ¬ p < 0; omega)⟩⟩
  · have q2 : hI (hsI h 44 0 (nI a)) 58 k = nI b := by rw [hI_n (by omega)]; exact u2
    have q3 : hI (hsI (hsI h 44 0 (nI a)) 44 1 (nI b)) 59 k = nI c := by rw [hI_n (by omega), hI_n (by omega)]; exact u3
    simp (disch := omega) only [e_1231, x_1231, xs, ↓reduceIte, hR_s, w27, w28, w29, ↓ib_n, cl_n, u1, q2, q3]
  all_goals first
    | (unfold cS; omega)
    | (simp only [hI_s]; simp only [Nat.reduceEqDiff, and_false, and_true, if_true, if_false, reduceIte]; first | rfl | exact hS.1.2.2.2.2.1)
theorem m_cm_d {h : Hp} {k v : Nat} {w : Wo} (hW : MW h) (hS : MS h w) (hk : WOK 60 w) (k28 : k < 28) (hv : v ≤ 9) (e1 : hI h 56 k = nI 100) (u1 : hI h 57 k = nI v) : ∃ h2, call 1232 [vo (some (44, 12, 0)), vi (nI k)] h = some (some (vi (bI (decide (v < 4)))), h2) ∧ kp cS h h2 ∧ MS h2 (upw w 0 4 v) := by
  have w26 : hR h 44 26 = some (56, 13, 28) := hW.2.2.2.2.2.2.2.2.2.2.2.1
  have w27 : hR h 44 27 = some (57, 13, 28) := hW.2.2.2.2.2.2.2.2.2.2.2.2.1
  have q2 : hI (hsI h 44 4 (nI v)) 57 k = nI v := by rw [hI_n (by omega)]; exact u1
  have z1 : (nI 100 = (109 : Int32)) = False := eq_false (by decide)
  have z2 : (nI 100 = (100 : Int32)) = True := eq_true rfl
  refine ⟨hsI h 44 4 (nI v), ?_, kp_I (by unfold cS; omega), ?_⟩
  · by_cases e : v < 4
    · have e4 : ¬ 4 ≤ v := by omega
      simp (disch := omega) only [e_1232, x_1232, xs, ↓reduceIte, hR_s, w26, w27, ↓ib_n, cl_n, e1, z1, z2, u1, q2, cz_4, e4, decide_eq_true e]
      rfl
    · have e4 : 4 ≤ v := by omega
      simp (disch := omega) only [e_1232, x_1232, xs, ↓reduceIte, hR_s, w26, w27, ↓ib_n, cl_n, e1, z1, z2, u1, q2, cz_4, eq_true e4, decide_eq_false e]
      rfl
  · obtain ⟨⟨f0, f1, f2, f3, f4, f5⟩, hpp⟩ := hS
    refine ⟨⟨?_, ?_, ?_, ?_, by rw [upw_e, hI_e], ?_⟩, fun p h3 => ?_⟩
    · rw [hI_n (by omega), upw_n (by omega)]; exact f0
    · rw [hI_n (by omega), upw_n (by omega)]; exact f1
    · rw [hI_n (by omega), upw_n (by omega)]; exact f2
    · rw [hI_n (by omega), upw_n (by omega)]; exact f3
    · rw [hI_n (by omega), upw_n (by omega)]; exact f5
    · have hw : ∀ a b, a ≠ 0 ∨ b ≠ 4 → upw w 0 4 v a b = w a b := fun a b z => upw_n (by omega)
      have hn : ∀ a b, a ≠ 44 → hI (hsI h 44 4 (nI v)) a b = hI h a b := fun a b z => hI_n (by omega)
      rw [hw _ _ (by omega)] at h3
      simp (disch := omega) only [hw, hn]
      exact hpp p h3
theorem m_cm_p {h : Hp} {k kd fg m c : Nat} {q : Nat → Nat} {w : Wo} (hW : MW h) (hS : MS h w) (hk : WOK 60 w) (k28 : k < 28) (h1 : kd ≤ 9) (h2 : fg ≤ 9) (h3 : m ≤ 6) (h4 : ∀ i, i < m → q i ≤ 4) (hc : c < 1000) (e1 : hI h 56 k = nI 112) (u1 : hI h 57 k = nI kd) (u2 : hI h 58 k = nI fg) (u3 : hI h 59 k = nI c) (u4 : hI h 60 k = nI m) (u5 : ∀ i, i < m → hI h 61 (6 * k + i) = nI (q i)) : ∃ h2, call 1232 [vo (some (44, 12, 0)), vi (nI k)] h = some (some (vi (bI (!decide (5 < kd ∨ fre w c = false ∨ w 0 3 = 5)))), h2) ∧ kp cS h h2 ∧ (¬ (5 < kd ∨ fre w c = false ∨ w 0 3 = 5) → MS h2 (prsW w kd fg m q c)) := by
  have w26 : hR h 44 26 = some (56, 13, 28) := hW.2.2.2.2.2.2.2.2.2.2.2.1
  have w27 : hR h 44 27 = some (57, 13, 28) := hW.2.2.2.2.2.2.2.2.2.2.2.2.1
  have w28 : hR h 44 28 = some (58, 13, 28) := hW.2.2.2.2.2.2.2.2.2.2.2.2.2.1
  have w29 : hR h 44 29 = some (59, 13, 28) := hW.2.2.2.2.2.2.2.2.2.2.2.2.2.2.1
  have w30 : hR h 44 30 = some (60, 13, 28) := hW.2.2.2.2.2.2.2.2.2.2.2.2.2.2.2.1
  obtain ⟨w6, w7, w8, w9, w10, w11, -⟩ := id hW
  have z1 : (nI 112 = (109 : Int32)) = False := eq_false (by decide)
  have z2 : (nI 112 = (100 : Int32)) = False := eq_false (by decide)
  obtain ⟨⟨f0, f1, f2, f3, f4, f5⟩, hpp⟩ := id hS
  have hfr := m_isFree (nI c) h w 60 hS hk
  rw [freI_n hk (by omega)] at hfr
  have k3 := hk.2.2.2.1
  have k5 := hk.2.2.2.2.2.1
  by_cases e : 5 < kd ∨ fre w c = false ∨ w 0 3 = 5
  · refine ⟨h, ?_, kp_r _ _, fun z => absurd e z⟩
    rw [decide_eq_true e]
    by_cases d1 : 5 < kd
    · simp (disch := omega) only [e_1232, x_1232, xs, ↓reduceIte, hR_s, w26, w27, w28, w29, ↓ib_n, cl_n, e1, z1, z2, u1, cz_5, eq_true d1]
      rfl
    · cases d2 : fre w c with
      | false =>
        rw [d2] at hfr
        simp (disch := omega) only [e_1232, x_1232, xs, ↓reduceIte, hR_s, w26, w27, w28, w29, ↓ib_n, cl_n, e1, z1, z2, u1, u3, cz_5, d1, hfr, bI_f, i00]
        rfl
      | true =>
        rw [d2] at hfr
        have d3 : w 0 3 = 5 := by
          rcases e with z | z | z
          · exact absurd z d1
          · rw [d2] at z; cases z
          · exact z
        simp (disch := omega) only [e_1232, x_1232, xs, ↓reduceIte, hR_s, w26, w27, w28, w29, ↓ib_n, cl_n, e1, z1, z2, u1, u3, cz_5, d1, hfr, bI_t, i10, f3, eq_true d3]
        rfl
  · have d1 : ¬ 5 < kd := fun z => e (Or.inl z)
    have d2 : fre w c = true := by
      cases z : fre w c with
      | true => rfl
      | false => exact absurd (Or.inr (Or.inl z)) e
    have d3 : ¬ w 0 3 = 5 := fun z => e (Or.inr (Or.inr z))
    rw [d2] at hfr
    rw [decide_eq_false e]
    have k35 : w 0 3 < 5 := by omega
    generalize hq0 : w 0 3 = q0 at *
    have n1 : ∀ i j, i ≠ 45 ∧ i ≠ 46 ∧ i ≠ 47 → hI (hsI (hsI (hsI h 45 q0 (nI kd)) 46 q0 (nI fg)) 47 q0 (nI m)) i j = hI h i j := fun i j z => by rw [hI_n (by omega), hI_n (by omega), hI_n (by omega)]
    have W1 : MW (hsI (hsI (hsI h 45 q0 (nI kd)) 46 q0 (nI fg)) 47 q0 (nI m)) := hW
    obtain ⟨hA, r1, r2, r3⟩ := m_cm_l (q := q0) W1 k28 k35 (by rw [n1 _ _ (by omega)]; exact f3) 6 0 _ rfl (kp_r _ _) (fun t ht => absurd ht (by omega))
    have WA := MW_k r2 W1
    obtain ⟨v6, v7, v8, v9, v10, v11, -⟩ := id WA
    have v29 : hR hA 44 29 = some (59, 13, 28) := WA.2.2.2.2.2.2.2.2.2.2.2.2.2.2.1
    have n2 : ∀ i j, i ≠ 48 → hI hA i j = hI (hsI (hsI (hsI h 45 q0 (nI kd)) 46 q0 (nI fg)) 47 q0 (nI m)) i j := fun i j z => r2.2.2 i j (by unfold cS2; omega)
    have n3 : ∀ i j, i ≠ 45 ∧ i ≠ 46 ∧ i ≠ 47 ∧ i ≠ 48 → hI hA i j = hI h i j := fun i j z => (n2 i j z.2.2.2).trans (n1 i j ⟨z.1, z.2.1, z.2.2.1⟩)
    have g3 : hI hA 44 3 = nI q0 := (n3 _ _ (by omega)).trans f3
    have g5 : hI hA 44 5 = nI (w 0 5) := (n3 _ _ (by omega)).trans f5
    have g59 : hI hA 59 k = nI c := (n3 _ _ (by omega)).trans u3
    have hfin : ∀ i j, i ≠ 50 ∧ i ≠ 49 → (i ≠ 44 ∨ j ≠ 3) → hI (hsI (hsI (hsI hA 49 q0 (nI (w 0 5))) 50 (130 * q0 + w 0 5) (nI c)) 44 3 (nI (q0 + 1))) i j = hI hA i j := fun i j z1 z2 => by rw [hI_n (by omega), hI_n (by omega), hI_n (by omega)]
    refine ⟨hsI (hsI (hsI hA 49 q0 (nI (w 0 5))) 50 (130 * q0 + w 0 5) (nI c)) 44 3 (nI (q0 + 1)), ?_, ?_, fun _ => ?_⟩
    · have y3 : hI (hsI h 45 q0 (nI kd)) 44 3 = nI q0 := by rw [hI_n (by omega)]; exact f3
      have y4 : hI (hsI h 45 q0 (nI kd)) 58 k = nI fg := by rw [hI_n (by omega)]; exact u2
      have y5 : hI (hsI (hsI h 45 q0 (nI kd)) 46 q0 (nI fg)) 44 3 = nI q0 := by rw [hI_n (by omega)]; exact y3
      have y6 : hI (hsI (hsI h 45 q0 (nI kd)) 46 q0 (nI fg)) 60 k = nI m := by rw [hI_n (by omega), hI_n (by omega)]; exact u4
      have s0 : call 1232 [vo (some (44, 12, 0)), vi (nI k)] h = run 2 1232 134 [some (vo (some (44, 12, 0))), some (vi (nI k)), some (vi (nI 0))] [] (hsI (hsI (hsI h 45 q0 (nI kd)) 46 q0 (nI fg)) 47 q0 (nI m)) := by
        simp (disch := omega) only [e_1232, x_1232, xs, ↓reduceIte, hR_s, w26, w27, w28, w29, w30, w6, w7, w8, ↓ib_n, cl_n, e1, z1, z2, u1, u2, u3, u4, cz_5, d1, hfr, bI_t, i10, f3, d3, y3, y4, y5, y6]
        rfl
      rw [s0, r1]
      have s130 : (130 : Int32) = nI 130 := rfl
      have y7 : hI (hsI hA 49 q0 (nI (w 0 5))) 44 3 = nI q0 := by rw [hI_n (by omega)]; exact g3
      have y8 : hI (hsI hA 49 q0 (nI (w 0 5))) 44 5 = nI (w 0 5) := by rw [hI_n (by omega)]; exact g5
      have y9 : hI (hsI hA 49 q0 (nI (w 0 5))) 59 k = nI c := by rw [hI_n (by omega)]; exact g59
      have y10 : hI (hsI (hsI hA 49 q0 (nI (w 0 5))) 50 (130 * q0 + w 0 5) (nI c)) 44 3 = nI q0 := by rw [hI_n (by omega)]; exact y7
      simp (disch := omega) only [x_1232, xs, ↓reduceIte, hR_s, v10, v11, v29, g3, g5, ↓ib_n, cl_n, y7, y8, y9, y10, s130, pk_mul, nI_add, nl_inc]
      rfl
    · refine kp_t (kp_t (kp_t (kp_t (kp_t (kp_t (kp_I ?_) (kp_I ?_)) (kp_I ?_)) (kp_m r2 (fun i j z => ?_))) (kp_I ?_)) (kp_I ?_)) (kp_I ?_)
      all_goals first | (unfold cS; omega) | (unfold cS2 at z; unfold cS; omega)
    · obtain ⟨z3, z0, z1, z2, z4, z5, z6, z7, z8⟩ := prs_n (w := w) (kd := kd) (fg := fg) (m := m) (q := q) (c := c) (by omega)
      rw [hq0] at z3 z1 z2 z4 z5 z6 z7 z8
      refine ⟨⟨?_, ?_, ?_, ?_, ?_, ?_⟩, fun p hp => ?_⟩
      · rw [z0 _ (by decide), hfin _ _ (by omega) (by omega), n3 _ _ (by omega)]; exact f0
      · rw [z0 _ (by decide), hfin _ _ (by omega) (by omega), n3 _ _ (by omega)]; exact f1
      · rw [z0 _ (by decide), hfin _ _ (by omega) (by omega), n3 _ _ (by omega)]; exact f2
      · rw [z3, hI_e]
      · rw [z0 _ (by decide), hfin _ _ (by omega) (by omega), n3 _ _ (by omega)]; exact f4
      · rw [z0 _ (by decide), hfin _ _ (by omega) (by omega), n3 _ _ (by omega)]; exact f5
      · rw [z3] at hp
        rw [z0 5 (by decide)]
        by_cases ep : p = q0
        · subst ep
          rw [z1, z2, z4, z5]
          refine ⟨?_, ?_, ?_, ?_, fun i hi => ?_, fun j a b => ?_⟩
          · rw [hfin _ _ (by omega) (by omega), n2 _ _ (by omega), hI_n (by omega), hI_n (by omega), hI_e]
          · rw [hfin _ _ (by omega) (by omega), n2 _ _ (by omega), hI_n (by omega), hI_e]
          · rw [hfin _ _ (by omega) (by omega), n2 _ _ (by omega), hI_e]
          · rw [hI_n (by omega), hI_n (by omega), hI_e]
          · rw [hfin _ _ (by omega) (by omega), r3 i (by omega), n1 _ _ (by omega), z6]; exact u5 i hi
          · rw [show j = w 0 5 by omega, hI_n (by omega), hI_e, z7]
        · obtain ⟨g1, g2, g3, g4, g5, g6⟩ := hpp p (by omega)
          have c3 := (hk.2.2.2.2.2.2 p (by omega)).2.2.1
          simp (disch := omega) only [z8]
          refine ⟨?_, ?_, ?_, ?_, fun i hi => ?_, fun j a b => ?_⟩
          · rw [hfin _ _ (by omega) (by omega), n2 _ _ (by omega), hI_n (by omega), hI_n (by omega), hI_n (by omega)]; exact g1
          · rw [hfin _ _ (by omega) (by omega), n2 _ _ (by omega), hI_n (by omega), hI_n (by omega), hI_n (by omega)]; exact g2
          · rw [hfin _ _ (by omega) (by omega), n2 _ _ (by omega), hI_n (by omega), hI_n (by omega), hI_n (by omega)]; exact g3
          · rw [hI_n (by omega), hI_n (by omega), hI_n (by omega), n3 _ _ (by omega)]; exact g4
          · rw [hfin _ _ (by omega) (by omega), r2.2.2 _ _ (by unfold cS2; omega), n1 _ _ (by omega)]; exact g5 i hi
          · rw [hI_n (by omega), hI_n (by omega), hI_n (by omega), n3 _ _ (by omega)]; exact g6 j a b
