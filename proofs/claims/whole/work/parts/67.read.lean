/-! THE REFERENCE: a person read -/
def rS5 (k i j : Nat) : Prop := rS2 i j ∨ ((57 ≤ i ∧ i ≤ 60) ∧ j = k) ∨ (i = 61 ∧ 6 * k ≤ j ∧ j < 6 * k + 6)
theorem RS_o {h : Hp} {n p : Nat} {l : Nat → Nat} {b : Bool} (R : RS h n l p b) (a k : Nat) (v : Int32) (ha : a ≠ 44 ∧ a ≠ 54) : RS (hsI h a k v) n l p b := RS_k R (hI_n (by omega)) (fun i => hI_n (by omega)) (by rw [hI_n (by omega)]; exact R.2.2.2.2.1) (by rw [hI_n (by omega)]; exact R.2.2.2.2.2) R.2.1
/-- the three or four figures of a person: first, second, third, the place behind, is it bad -/
def rdQ (n : Nat) (l : Nat → Nat) (p : Nat) : Nat × Nat × Nat × Nat × Bool :=
  let d1 := rdD n l p false
  let d2 := rdD n l d1.2.1 d1.2.2
  let d3 := rdD n l d2.2.1 d2.2.2
  if d3.2.2 = false ∧ isD (hr n l d3.2.1) = true then (d1.1, d2.1, 10 * d3.1 + (l d3.2.1 - 48), d3.2.1 + 1, false) else (d1.1, d2.1, d3.1, d3.2.1, d3.2.2)
theorem m_rp_q {h : Hp} {n p k : Nat} {l : Nat → Nat} (hW : MW h) (R : RS h n l p false) (hk : k < 28) : ∃ h2, call 1229 [vo (some (44, 12, 0)), vi (nI k)] h = run 2 1229 74 [some (vo (some (44, 12, 0))), some (vi (nI k))] [] h2 ∧ RS h2 n l (rdQ n l p).2.2.2.1 (rdQ n l p).2.2.2.2 ∧ kp (rS5 k) h h2 ∧ hI h2 57 k = nI (rdQ n l p).1 ∧ hI h2 58 k = nI (rdQ n l p).2.1 ∧ hI h2 59 k = nI (rdQ n l p).2.2.1 := by
  have w27 : hR h 44 27 = some (57, 13, 28) := hW.2.2.2.2.2.2.2.2.2.2.2.2.1
  obtain ⟨h1, t1, R1, K1⟩ := m_readDigit hW R
  have W1 := MW_k K1 hW
  have R1' := RS_o R1 57 k (nI (rdD n l p false).1) (by omega)
  have W1' : MW (hsI h1 57 k (nI (rdD n l p false).1)) := W1
  have w28 : hR (hsI h1 57 k (nI (rdD n l p false).1)) 44 28 = some (58, 13, 28) := W1.2.2.2.2.2.2.2.2.2.2.2.2.2.1
  obtain ⟨h2, t2, R2, K2⟩ := m_readDigit W1' R1'
  have W2 := MW_k K2 W1'
  have R2' := RS_o R2 58 k (nI (rdD n l (rdD n l p false).2.1 (rdD n l p false).2.2).1) (by omega)
  have W2' : MW (hsI h2 58 k (nI (rdD n l (rdD n l p false).2.1 (rdD n l p false).2.2).1)) := W2
  have w29 : hR (hsI h2 58 k (nI (rdD n l (rdD n l p false).2.1 (rdD n l p false).2.2).1)) 44 29 = some (59, 13, 28) := W2.2.2.2.2.2.2.2.2.2.2.2.2.2.2.1
  obtain ⟨h3, t3, R3, K3⟩ := m_readDigit W2' R2'
  have W3 := MW_k K3 W2'
  have a27 : hR h1 44 27 = some (57, 13, 28) := W1.2.2.2.2.2.2.2.2.2.2.2.2.1
  have n2 : ∀ i j, ¬ rS2 i j → hI h3 i j = hI (hsI h2 58 k (nI (rdD n l (rdD n l p false).2.1 (rdD n l p false).2.2).1)) i j := K3.2.2
  sorry
