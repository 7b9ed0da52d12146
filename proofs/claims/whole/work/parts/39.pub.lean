/-! THE REFERENCE: what is asked of it; each as the spec has it -/
/-- the answer of a call and the state after it, on the reference's side -/
def Mok (mm : Nat) (as : List Int32) (s : St → Int32 × St) : Prop := ∀ σ h, IM σ h → ∃ h2, call mm (vo (some (44, 12, 0)) :: as.map vi) h = some (some (vi (s σ).1), h2) ∧ IM (s σ).2 h2
def s_was (p x : Int32) (σ : St) : Int32 × St := if isP σ.1 p = true then (if x < 0 then (-4, rz σ 4) else if nI (σ.1 0 5) < x then (-6, rz σ 6) else (nI (σ.1 (20 + p.toNatClampNeg) x.toNatClampNeg), σ)) else (-1, rz σ 1)
theorem ltm : ((0 : Int32) ≤ -1) = False ∧ ((0 : Int32) ≤ -4) = False ∧ ((0 : Int32) ≤ -6) = False ∧ ((0 : Int32) ≤ -2) = False ∧ ((0 : Int32) ≤ -9) = False ∧ ((0 : Int32) ≤ 0) = True ∧ ((-1 : Int32) < 0) = True ∧ ((-4 : Int32) < 0) = True ∧ ((-6 : Int32) < 0) = True ∧ ((-2 : Int32) < 0) = True ∧ ((-9 : Int32) < 0) = True ∧ ((0 : Int32) < 0) = False ∧ ((-1 : Int32) = 0) = False ∧ ((-4 : Int32) = 0) = False ∧ ((-6 : Int32) = 0) = False ∧ ((-2 : Int32) = 0) = False ∧ ((0 : Int32) = 0) = True := by
  simp only [eq_iff_iff, iff_true, iff_false]
  decide
theorem bI_t : bI true = 1 := rfl
theorem bI_f : bI false = 0 := rfl
theorem i01 : ((0 : Int32) = 1) = False := by simp only [eq_iff_iff, iff_false]; decide
theorem i00 : ((0 : Int32) = 0) = True := by simp
theorem bnt {b : Bool} (h : ¬ b = true) : b = false := by cases b <;> simp_all
theorem p_was (p x : Int32) : Mok 1237 [p, x] (s_was p x) := by
  intro σ h I
  have I2 := IM_th I
  obtain ⟨hW, hS, hG, -⟩ := id I2
  have k3 := hG.1.2.2.2.1
  have k5 := hG.1.2.2.2.2.2.1
  have f5 := hS.1.2.2.2.2.2
  have hp := m_isP p _ _ hS
  unfold s_was
  simp only [List.map]
  by_cases h1 : isP σ.1 p = true
  · rw [if_pos h1]
    obtain ⟨k, rfl, hk⟩ := isP_of k3 h1
    by_cases h2 : x < 0
    · refine ⟨rh (hsI h 44 12 0) 4, ?_, by rw [if_pos h2]; exact IM_rz (by decide) I2⟩
      simp only [e_1237, x_1237, xs, hp, h1, bI_t, i10, cn_0 h2, h2, ltm, m_rf4 hW]
    · obtain ⟨j, hj, rfl⟩ := nI_of h2
      rw [if_neg h2]
      by_cases h3 : nI (σ.1 0 5) < nI j
      · have h3' : σ.1 0 5 < j := by rwa [nl_lt (by omega) hj] at h3
        have h4 : ¬ j ≤ σ.1 0 5 := by omega
        refine ⟨rh (hsI h 44 12 0) 6, ?_, by rw [if_pos h3]; exact IM_rz (by decide) I2⟩
        rw [if_pos h3]
        simp (disch := omega) only [e_1237, x_1237, xs, hp, h1, bI_t, i10, nl_g0, f5, nl_le, h4, ltm, m_rf6 hW]
      · have h4 : j ≤ σ.1 0 5 := by rw [nl_lt (by omega) hj] at h3; omega
        refine ⟨hsI h 44 12 0, ?_, by rw [if_neg h3]; exact I2⟩
        have hwo := m_wasOn k (nI j) j _ _ _ hW hS hG.1 (by decide) hk h4 (Or.inl rfl)
        rw [if_neg h3]
        simp (disch := omega) only [e_1237, x_1237, xs, hp, h1, bI_t, i10, nl_g0, f5, nl_le, h4, ltm, hwo, cl_n]
  · have h1 := bnt h1
    refine ⟨rh (hsI h 44 12 0) 1, ?_, by rw [h1]; exact IM_rz (by decide) I2⟩
    simp only [e_1237, x_1237, xs, hp, h1, bI_f, i00, i01, ltm, m_rf1 hW, Bool.false_eq_true, if_false]
def s_sees (a b : Int32) (σ : St) : Int32 × St := if isT σ.1 a b = true then (nI (ago σ.1 b.toNatClampNeg (σ.1 0 4)), σ) else (-1, rz σ 1)
theorem isT_of {w : Wo} {a b : Int32} (hk : w 0 3 ≤ 5) (h : isT w a b = true) : ∃ j k, a = nI j ∧ b = nI k ∧ j < w 0 3 ∧ k < w 0 3 ∧ j ≠ k := by
  unfold isT at h
  simp only [Bool.and_eq_true] at h
  obtain ⟨j, rfl, hj⟩ := isP_of hk h.1.1
  obtain ⟨k, rfl, hkk⟩ := isP_of hk h.1.2
  refine ⟨j, k, rfl, rfl, hj, hkk, fun e => ?_⟩
  subst e
  simp at h
theorem p_sees (a b : Int32) : Mok 1238 [a, b] (s_sees a b) := by
  intro σ h I
  have I2 := IM_th I
  obtain ⟨hW, hS, hG, -⟩ := id I2
  have k3 := hG.1.2.2.2.1
  have k4 := hG.1.2.2.2.2.1
  obtain ⟨-, -, -, -, f4, f5⟩ := hS.1
  have hp := m_areTwo a b _ _ hS
  unfold s_sees
  simp only [List.map]
  by_cases h1 : isT σ.1 a b = true
  · obtain ⟨j, k, rfl, rfl, hj, hk, -⟩ := isT_of k3 h1
    refine ⟨hsI h 44 12 0, ?_, by rw [if_pos h1]; exact I2⟩
    have hwo := m_ago k (σ.1 0 4) _ _ _ hW hS hG.1 (by decide) hk (by omega)
    simp (disch := omega) only [e_1238, x_1238, xs, hp, h1, bI_t, i10, f4, f5, hwo, cl_n, if_true]
  · have h1 := bnt h1
    refine ⟨rh (hsI h 44 12 0) 1, ?_, by rw [h1]; exact IM_rz (by decide) I2⟩
    simp only [e_1238, x_1238, xs, hp, h1, bI_f, i00, m_rf1 hW, Bool.false_eq_true, if_false]
def s_pers (p x : Int32) (σ : St) : Int32 × St := if isP σ.1 p = true then (if x < 0 ∨ 4 < x then (-2, rz σ 2) else (nI (if x = 0 then σ.1 1 p.toNatClampNeg else if x = 1 then σ.1 2 p.toNatClampNeg else if x = 2 then cel σ.1 p.toNatClampNeg else if x = 3 then σ.1 3 p.toNatClampNeg else sOf σ.1 p.toNatClampNeg), σ)) else (-1, rz σ 1)
theorem p_pers (p x : Int32) : Mok 1234 [p, x] (s_pers p x) := by
  intro σ h I
  have I2 := IM_th I
  obtain ⟨hW, hS, hG, -⟩ := id I2
  have k3 := hG.1.2.2.2.1
  have hp := m_isP p _ _ hS
  unfold s_pers
  simp only [List.map]
  by_cases h1 : isP σ.1 p = true
  · rw [if_pos h1]
    obtain ⟨k, rfl, hk⟩ := isP_of k3 h1
    by_cases h2 : x < 0 ∨ 4 < x
    · have h3 : ¬ (0 ≤ x ∧ x ≤ 4) := by
        rintro ⟨a, b⟩
        rcases h2 with h2 | h2
        · exact absurd h2 (Int32.not_lt.mpr a)
        · exact absurd h2 (Int32.not_lt.mpr b)
      refine ⟨rh (hsI h 44 12 0) 2, ?_, by rw [if_pos h2]; exact IM_rz (by decide) I2⟩
      rw [if_pos h2]
      simp only [e_1234, x_1234, xs, hp, h1, bI_t, i10, m_in04, h3, decide_false, bI_f, i00, m_rf2 hW]
    · have h3 : 0 ≤ x ∧ x ≤ 4 := ⟨Int32.not_lt.mp (fun z => h2 (Or.inl z)), Int32.not_lt.mp (fun z => h2 (Or.inr z))⟩
      obtain ⟨j, hj, rfl⟩ := nI_of (x := x) (fun z => h2 (Or.inl z))
      obtain ⟨w6, w7, w8, -⟩ := id hW
      obtain ⟨g1, g2, g3, -⟩ := hS.2 k hk
      have hc := m_cellOf k _ _ _ hW hS hG.1 (by decide) hk
      have hs := m_stepOf k _ _ _ hW hS hG.1 (by decide) hk
      refine ⟨hsI h 44 12 0, ?_, by rw [if_neg h2]; exact I2⟩
      rw [if_neg h2]
      have h4 : j ≤ 4 := by have := h3.2; rwa [(cz_4 hj).2.1] at this
      simp (disch := omega) only [e_1234, x_1234, xs, hp, h1, bI_t, i10, m_in04, h3, and_self, decide_true, w6, w7, w8, ↓ib_n, cl_n, g1, g2, g3, hc, hs, cz_1, cz_2, cz_3, nl_e0]
      rcases (show j = 0 ∨ j = 1 ∨ j = 2 ∨ j = 3 ∨ j = 4 by omega) with rfl | rfl | rfl | rfl | rfl <;> rfl
  · have h1 := bnt h1
    refine ⟨rh (hsI h 44 12 0) 1, ?_, by rw [h1]; exact IM_rz (by decide) I2⟩
    simp only [e_1234, x_1234, xs, hp, h1, bI_f, i00, m_rf1 hW, Bool.false_eq_true, if_false]
