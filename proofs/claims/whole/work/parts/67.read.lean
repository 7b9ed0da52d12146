/-! THE REFERENCE: a person read -/
def rS5 (k i j : Nat) : Prop := rS2 i j ∨ ((57 ≤ i ∧ i ≤ 60) ∧ j = k) ∨ (i = 61 ∧ 6 * k ≤ j ∧ j < 6 * k + 6)
theorem RS_o {h : Hp} {n p : Nat} {l : Nat → Nat} {b : Bool} (R : RS h n l p b) (a k : Nat) (v : Int32) (ha : a ≠ 44 ∧ a ≠ 54) : RS (hsI h a k v) n l p b := RS_k R (hI_n (by omega)) (fun i => hI_n (by omega)) (by rw [hI_n (by omega)]; exact R.2.2.2.2.1) (by rw [hI_n (by omega)]; exact R.2.2.2.2.2) R.2.1
/-- a digit read and put away -/
theorem dgS {hh : Hp} {n p c k : Nat} {l : Nat → Nat} {b : Bool} (hc : 57 ≤ c ∧ c ≤ 59) (W : MW hh) (R : RS hh n l p b) : ∃ hX, call 1225 [vo (some (44, 12, 0))] hh = some (some (vi (nI (rdD n l p b).1)), hX) ∧ (∀ v : Int32, MW (hsI hX c k v) ∧ RS (hsI hX c k v) n l (rdD n l p b).2.1 (rdD n l p b).2.2 ∧ kp (rS5 k) hh (hsI hX c k v) ∧ (∀ i j, i ≠ 44 → ¬ (i = c ∧ j = k) → hI (hsI hX c k v) i j = hI hh i j)) ∧ MW hX ∧ (∀ i j, i ≠ 44 → hI hX i j = hI hh i j) := by
  obtain ⟨hX, t, R2, K⟩ := m_readDigit W R
  have WX := MW_k K W
  have un : ∀ i j, i ≠ 44 → hI hX i j = hI hh i j := fun i j n1 => K.2.2 i j (fun z => n1 z.1)
  exact ⟨hX, t, fun v => ⟨WX, RS_o R2 c k v (by omega), kp_t (kp_m K (fun i j z => Or.inl z)) (kp_I (Or.inr (Or.inl ⟨by omega, rfl⟩))), fun i j n1 n2 => (hI_n n2).trans (un i j n1)⟩, WX, un⟩
