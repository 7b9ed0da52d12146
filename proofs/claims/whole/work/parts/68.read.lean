/-! THE REFERENCE: the figures of a person -/
def dg1 (n : Nat) (l : Nat → Nat) (p : Nat) : Nat × Nat × Bool := rdD n l p false
def dg2 (n : Nat) (l : Nat → Nat) (p : Nat) : Nat × Nat × Bool := rdD n l (dg1 n l p).2.1 (dg1 n l p).2.2
def dg3 (n : Nat) (l : Nat → Nat) (p : Nat) : Nat × Nat × Bool := rdD n l (dg2 n l p).2.1 (dg2 n l p).2.2
/-- the third figure, the place behind the figures, is it bad -/
def dg4 (n : Nat) (l : Nat → Nat) (p : Nat) : Nat × Nat × Bool := if (dg3 n l p).2.2 = false ∧ isD (hr n l (dg3 n l p).2.1) = true then (10 * (dg3 n l p).1 + (rdD n l (dg3 n l p).2.1 false).1, (rdD n l (dg3 n l p).2.1 false).2) else dg3 n l p
theorem m_rp_q {h : Hp} {n p k : Nat} {l : Nat → Nat} (hW : MW h) (R : RS h n l p false) (hk : k < 28) : ∃ h2, call 1229 [vo (some (44, 12, 0)), vi (nI k)] h = run 2 1229 74 [some (vo (some (44, 12, 0))), some (vi (nI k))] [] h2 ∧ RS h2 n l (dg4 n l p).2.1 (dg4 n l p).2.2 ∧ kp (rS5 k) h h2 ∧ hI h2 57 k = nI (dg1 n l p).1 ∧ hI h2 58 k = nI (dg2 n l p).1 ∧ hI h2 59 k = nI (dg4 n l p).1 := by
  have w27 : hR h 44 27 = some (57, 13, 28) := hW.2.2.2.2.2.2.2.2.2.2.2.2.1
  obtain ⟨hX, t1, g1, WX, uX⟩ := dgS (c := 57) (k := k) (by omega) hW R
  obtain ⟨W1, R1, K1, u1⟩ := g1 (nI (dg1 n l p).1)
  have w28 : hR (hsI hX 57 k (nI (dg1 n l p).1)) 44 28 = some (58, 13, 28) := W1.2.2.2.2.2.2.2.2.2.2.2.2.2.1
  obtain ⟨hY, t2, g2, WY, uY⟩ := dgS (c := 58) (k := k) (by omega) W1 R1
  obtain ⟨W2, R2, K2, u2⟩ := g2 (nI (dg2 n l p).1)
  have w29 : hR (hsI hY 58 k (nI (dg2 n l p).1)) 44 29 = some (59, 13, 28) := W2.2.2.2.2.2.2.2.2.2.2.2.2.2.2.1
  obtain ⟨hZ, t3, g3, WZ, uZ⟩ := dgS (c := 59) (k := k) (by omega) W2 R2
  obtain ⟨W3, R3, K3, u3⟩ := g3 (nI (dg3 n l p).1)
  have r6 := R3.2.2.2.2.2
  have hh := m_here W3 R3
  have ho : ∀ c, hr n l (dg3 n l p).2.1 = some c → c ≤ 255 := fun c e => (hr_lt R3 e).1
  have hin := m_in89o (hr n l (dg3 n l p).2.1) (hsI hZ 59 k (nI (dg3 n l p).1)) ho
  have t1' : call 1225 [vo (some (44, 12, 0))] h = some (some (vi (nI (dg1 n l p).1)), hX) := t1
  have t2' : call 1225 [vo (some (44, 12, 0))] (hsI hX 57 k (nI (dg1 n l p).1)) = some (some (vi (nI (dg2 n l p).1)), hY) := t2
  have t3' : call 1225 [vo (some (44, 12, 0))] (hsI hY 58 k (nI (dg2 n l p).1)) = some (some (vi (nI (dg3 n l p).1)), hZ) := t3
  have v57 : hI (hsI hZ 59 k (nI (dg3 n l p).1)) 57 k = nI (dg1 n l p).1 := by rw [u3 _ _ (by omega) (by omega), u2 _ _ (by omega) (by omega), hI_e]
  have v58 : hI (hsI hZ 59 k (nI (dg3 n l p).1)) 58 k = nI (dg2 n l p).1 := by rw [u3 _ _ (by omega) (by omega), hI_e]
  have r6' : hI (hsI hZ 59 k (nI (dg3 n l p).1)) 44 23 = bI (dg3 n l p).2.2 := r6
  have hin' : call 1201 [vl (oI (hr n l (dg3 n l p).2.1)).toInt64, vl 48, vl 57] (hsI hZ 59 k (nI (dg3 n l p).1)) = some (some (vi (bI (isD (hr n l (dg3 n l p).2.1)))), hsI hZ 59 k (nI (dg3 n l p).1)) := hin
  have hh' : call 1224 [vo (some (44, 12, 0))] (hsI hZ 59 k (nI (dg3 n l p).1)) = some (some (vi (oI (hr n l (dg3 n l p).2.1))), hsI hZ 59 k (nI (dg3 n l p).1)) := hh
  by_cases e : (dg3 n l p).2.2 = false ∧ isD (hr n l (dg3 n l p).2.1) = true
  · obtain ⟨e1, e2⟩ := id e
    have R3' : RS (hsI hZ 59 k (nI (dg3 n l p).1)) n l (dg3 n l p).2.1 false := by rw [← e1]; exact R3
    have w29b : hR (hsI hZ 59 k (nI (dg3 n l p).1)) 44 29 = some (59, 13, 28) := W3.2.2.2.2.2.2.2.2.2.2.2.2.2.2.1
    obtain ⟨hV, t4, g4, WV, uV⟩ := dgS (c := 59) (k := k) (by omega) W3 R3'
    obtain ⟨W4, R4, K4, u4⟩ := g4 (nI (dg4 n l p).1)
    have e4 : dg4 n l p = (10 * (dg3 n l p).1 + (rdD n l (dg3 n l p).2.1 false).1, (rdD n l (dg3 n l p).2.1 false).2) := by unfold dg4; rw [if_pos e]
    have hv : (10 : Int32) * nI (dg3 n l p).1 + nI (rdD n l (dg3 n l p).2.1 false).1 = nI (dg4 n l p).1 := by
      rw [e4, show (10 : Int32) = nI 10 from rfl, pk_mul, nI_add]
    refine ⟨hsI hV 59 k (nI (dg4 n l p).1), ?_, by rw [e4] at R4 ⊢; exact R4, kp_t K1 (kp_t K2 (kp_t K3 K4)), by rw [u4 _ _ (by omega) (by omega)]; exact v57, by rw [u4 _ _ (by omega) (by omega)]; exact v58, hI_e _ _ _ _⟩
    simp (disch := omega) only [e_1229, x_1229, xs, w27, w28, w29, w29b, t1', t2', t3', ↓ib_n, cl_n, r6', e1, bI_f, i00, hh', hin', e2, bI_t, i10, hI_e, t4, hv]
  · have e4 : dg4 n l p = dg3 n l p := by unfold dg4; rw [if_neg e]
    rw [e4]
    refine ⟨hsI hZ 59 k (nI (dg3 n l p).1), ?_, R3, kp_t K1 (kp_t K2 K3), v57, v58, hI_e _ _ _ _⟩
    by_cases e1 : (dg3 n l p).2.2 = true
    · simp (disch := omega) only [e_1229, x_1229, xs, w27, w28, w29, t1', t2', t3', ↓ib_n, cl_n, r6', e1, bI_t, i10]
    · have e1 := bnt e1
      have e2 : isD (hr n l (dg3 n l p).2.1) = false := bnt (fun z => e ⟨e1, z⟩)
      simp (disch := omega) only [e_1229, x_1229, xs, w27, w28, w29, t1', t2', t3', ↓ib_n, cl_n, r6', e1, bI_f, i00, hh', hin', e2]
