/-! THE REFERENCE: readPerson joined -/
/-- how many steps, the place behind them -/
def dg5 (n : Nat) (l : Nat → Nat) (p : Nat) : Nat × Nat := if (dg4 n l p).2.2 = true then (0, (dg4 n l p).2.1) else spF n l 6 0 (dg4 n l p).2.1
theorem m_readPerson {h : Hp} {n p k : Nat} {l : Nat → Nat} (hW : MW h) (R : RS h n l p false) (hk : k < 28) : ∃ h2, call 1229 [vo (some (44, 12, 0)), vi (nI k)] h = some (none, h2) ∧ RS h2 n l (dg5 n l p).2 (dg4 n l p).2.2 ∧ kp (rS5 k) h h2 ∧ hI h2 57 k = nI (dg1 n l p).1 ∧ hI h2 58 k = nI (dg2 n l p).1 ∧ hI h2 59 k = nI (dg4 n l p).1 ∧ hI h2 60 k = nI (dg5 n l p).1 ∧ ∀ i, i < (dg5 n l p).1 → ∃ s, stO (hr n l ((dg4 n l p).2.1 + i)) = some s ∧ hI h2 61 (6 * k + i) = nI s := by
  obtain ⟨h1, t1, R1, K1, v57, v58, v59⟩ := m_rp_q hW R hk
  have W1 := MW_k K1 hW
  have w30 : hR h1 44 30 = some (60, 13, 28) := W1.2.2.2.2.2.2.2.2.2.2.2.2.2.2.2.1
  have R2 := RS_o R1 60 k 0 (by omega)
  have K2 : kp (rS5 k) h (hsI h1 60 k 0) := kp_t K1 (kp_I (Or.inr (Or.inl ⟨by omega, rfl⟩)))
  have s0 : run 2 1229 74 [some (vo (some (44, 12, 0))), some (vi (nI k))] [] h1 = run 2 1229 81 [some (vo (some (44, 12, 0))), some (vi (nI k))] [] (hsI h1 60 k 0) := by
    simp (disch := omega) only [x_1229, xs, w30, ↓ib_n, cl_n]
  rw [t1, s0]
  unfold dg5
  by_cases e : (dg4 n l p).2.2 = true
  · simp only [if_pos e]
    have r6 : hI (hsI h1 60 k 0) 44 23 = 1 := by have := R2.2.2.2.2.2; rw [e] at this; exact this
    refine ⟨hsI h1 60 k 0, ?_, R2, K2, by rw [hI_n (by omega)]; exact v57, by rw [hI_n (by omega)]; exact v58, by rw [hI_n (by omega)]; exact v59, hI_e _ _ _ _, fun i hi => absurd hi (by omega)⟩
    rw [x_1229_81]
    simp (disch := omega) only [x_1229, xs, r6, i10]
  · simp only [if_neg e]
    have e2 := bnt e
    have R3 : RS (hsI h1 60 k 0) n l (dg4 n l p).2.1 false := by rw [← e2]; exact R2
    obtain ⟨h2, u1, u2, u3, u4, u5⟩ := m_rp_s (hsI h1 60 k 0) W1 hk (dg4 n l p).2.1 6 0 (dg4 n l p).2.1 _ rfl rfl (kp_r _ _) R3 (hI_e _ _ _ _) (fun i hi => absurd hi (by omega))
    have un : ∀ i, 57 ≤ i → i ≤ 59 → hI h2 i k = hI h1 i k := fun i a b => (u2.2.2 i k (by unfold rS4; omega)).trans (hI_n (by omega))
    refine ⟨h2, u1, by rw [e2]; exact u3, kp_t K2 (kp_m u2 (fun i j z => ?_)), by rw [un _ (by omega) (by omega)]; exact v57, by rw [un _ (by omega) (by omega)]; exact v58, by rw [un _ (by omega) (by omega)]; exact v59, u4, u5⟩
    unfold rS4 at z
    unfold rS5 rS2
    omega
