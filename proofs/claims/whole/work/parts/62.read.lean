/-! THE REFERENCE: a digit -/
def rS2 (i j : Nat) : Prop := i = 44 ∧ (j = 22 ∨ j = 23)
/-- a digit at p: its value, the place after it, is it bad -/
def rdD (n : Nat) (l : Nat → Nat) (p : Nat) (b : Bool) : Nat × Nat × Bool := if b = true ∨ isD (hr n l p) = false then (0, p, true) else (l p - 48, p + 1, false)
theorem m_readDigit {h : Hp} {n p : Nat} {l : Nat → Nat} {b : Bool} (hW : MW h) (R : RS h n l p b) : ∃ h2, call 1225 [vo (some (44, 12, 0))] h = some (some (vi (nI (rdD n l p b).1)), h2) ∧ RS h2 n l (rdD n l p b).2.1 (rdD n l p b).2.2 ∧ kp rS2 h h2 := by
  have hh := m_here hW R
  have ho : ∀ c, hr n l p = some c → c ≤ 255 := fun c e => (hr_lt R e).1
  have hin := m_in89o (hr n l p) h ho
  obtain ⟨r1, r2, r3, r4, r5, r6⟩ := id R
  unfold rdD
  by_cases hb : b = true ∨ isD (hr n l p) = false
  · rw [if_pos hb]
    refine ⟨hsI h 44 23 1, ?_, RS_k R (hI_n (by decide)) (fun i => hI_n (by omega)) (by rw [hI_n (by decide)]; exact r5) (hI_e _ _ _ _) r2, kp_I ⟨rfl, Or.inr rfl⟩⟩
    cases b with
    | true =>
      simp (disch := omega) only [e_1225, x_1225, xs, r6, bI_t, i10, hI_e]
      rfl
    | false =>
      have hd : isD (hr n l p) = false := hb.resolve_left (by decide)
      simp (disch := omega) only [e_1225, x_1225, xs, r6, bI_f, i00, i10, hh, hin, hd, hI_e]
      rfl
  · rw [if_neg hb]
    have hbf : b = false := bnt (fun z => hb (Or.inl z))
    have hd : isD (hr n l p) = true := by
      cases e : isD (hr n l p) with
      | true => rfl
      | false => exact absurd (Or.inr e) hb
    subst hbf
    have hc : ∃ c, hr n l p = some c ∧ 48 ≤ c ∧ c ≤ 57 := by
      cases e : hr n l p with
      | none => rw [e] at hd; cases hd
      | some c =>
        rw [e] at hd
        unfold isD at hd
        simp only [Bool.and_eq_true, decide_eq_true_eq] at hd
        exact ⟨c, rfl, hd⟩
    obtain ⟨c, ec, c1, c2⟩ := hc
    obtain ⟨-, pn, cl⟩ := hr_lt R ec
    have w20 : hR (hsI (hsI h 44 23 0) 44 22 (nI (p + 1))) 44 20 = some (54, 13, 80) := hW.2.2.2.2.2.2.2.2.2.1
    have q1 : hI (hsI h 44 23 0) 44 22 = nI p := by rw [hI_n (by decide)]; exact r5
    have q2 : nI (p + 1) - 1 = nI p := by rw [show (1 : Int32) = nI 1 from rfl, pk_sub (by omega)]; rfl
    have q3 : hI (hsI (hsI h 44 23 0) 44 22 (nI (p + 1))) 54 p = nI (l p) := by rw [hI_n (by omega), hI_n (by omega)]; exact (r4 p pn).1
    have q4 : nI (l p) - 48 = nI (l p - 48) := by rw [show (48 : Int32) = nI 48 from rfl, pk_sub (by omega)]
    refine ⟨hsI (hsI h 44 23 0) 44 22 (nI (p + 1)), ?_, RS_k R (by rw [hI_n (by decide), hI_n (by decide)]) (fun i => by rw [hI_n (by omega), hI_n (by omega)]) (hI_e _ _ _ _) (by rw [hI_n (by decide), hI_e]; rfl) (show p + 1 ≤ n by omega), kp_t (kp_I ⟨rfl, Or.inr rfl⟩) (kp_I ⟨rfl, Or.inl rfl⟩)⟩
    simp (disch := omega) only [e_1225, x_1225, xs, r6, bI_f, bI_t, i00, i10, hh, hin, hd, hI_e, q1, nl_inc, w20, q2, ↓ib_n, cl_n, q3, q4]
