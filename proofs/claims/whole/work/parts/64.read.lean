/-! THE REFERENCE: the further rows of a moor -/
def gr3 (n : Nat) (l : Nat → Nat) (wd : Nat) : Nat → Nat → Nat → Nat → Nat → Nat × Nat × Nat × Bool
  | 0, _, p, b, hg => (hg, b, p, false)
  | f + 1, c, p, b, hg => if hr n l p = some 47 then (if (gr2 n l wd c (p + 1) b).2.2.2 = true then (hg + 1, (gr2 n l wd c (p + 1) b).2.1, (gr2 n l wd c (p + 1) b).2.2.1, true) else gr3 n l wd f (gr2 n l wd c (p + 1) b).1 (gr2 n l wd c (p + 1) b).2.2.1 (gr2 n l wd c (p + 1) b).2.1 (hg + 1)) else (hg, b, p, false)
theorem gr2_c (n : Nat) (l : Nat → Nat) : ∀ f c p b, (gr2 n l f c p b).1 ≤ c + f := by
  intro f
  induction f with
  | zero => intro c p b; exact Nat.le_refl _
  | succ f ih =>
    intro c p b
    unfold gr2
    split
    · have := ih (c + 1) (p + 1) (if hr n l p = some 35 then b ||| 2 ^ c else b); omega
    · simp only; omega
theorem gr2_b (n : Nat) (l : Nat → Nat) : ∀ f c p b, c + f ≤ 30 → b < 2 ^ 30 → (gr2 n l f c p b).2.1 < 2 ^ 30 := by
  intro f
  induction f with
  | zero => intro c p b _ hb; exact hb
  | succ f ih =>
    intro c p b hc hb
    unfold gr2
    split
    · refine ih _ _ _ (by omega) ?_
      split
      · exact or_lt hb (by omega)
      · exact hb
    · exact hb
theorem m_rm_3 {n : Nat} {l : Nat → Nat} (h : Hp) (hW : MW h) (kk : Int32) (wd : Nat) (hwd : wd ≤ 6) : ∀ (f c p b hg : Nat) (hh : Hp) (l6 : Option AV), hg + f = 5 → c + wd * f ≤ 30 → b < 2 ^ 30 → kp rS2 h hh → RS hh n l p false → ∃ (h2 : Hp) (l4 l7 : Option AV), run 2 1228 85 [some (vo (some (44, 12, 0))), some (vi kk), some (vi (nI wd)), some (vi (nI b)), some (vi (nI c)), some (vi (nI hg)), l6] [] hh = run 2 1228 205 [some (vo (some (44, 12, 0))), some (vi kk), some (vi (nI wd)), some (vi (nI (gr3 n l wd f c p b hg).2.1)), l4, some (vi (nI (gr3 n l wd f c p b hg).1)), l7] [] h2 ∧ kp rS2 h h2 ∧ RS h2 n l (gr3 n l wd f c p b hg).2.2.1 (gr3 n l wd f c p b hg).2.2.2 := by
  intro f
  induction f with
  | zero =>
    intro c p b hg hh l6 hf hc hb K R
    have hW1 := MW_k K hW
    have hh1 := m_here hW1 R
    have : hg = 5 := by omega
    subst this
    have r6 : hI hh 44 23 = 0 := R.2.2.2.2.2
    refine ⟨hh, some (vi (nI c)), l6, ?_, K, R⟩
    rw [x_1228_85]
    unfold gr3
    simp (disch := omega) only [x_1228, xs, r6, i00, hh1, cz_5, Nat.le_refl]
    split <;> rfl
  | succ f ih =>
    intro c p b hg hh l6 hf hc hb K R
    have hmul : wd * (f + 1) = wd * f + wd := Nat.mul_succ wd f
    have hW1 := MW_k K hW
    have hh1 := m_here hW1 R
    have ho : ∀ c, hr n l p = some c → c ≤ 255 := fun c e => (hr_lt R e).1
    have e1 : (oI (hr n l p) = 47) = (hr n l p = some 47) := oI_e ho (by decide)
    have r5 := R.2.2.2.2.1
    have r6 : hI hh 44 23 = 0 := R.2.2.2.2.2
    have h5 : ¬ 5 ≤ hg := by omega
    unfold gr3
    by_cases z : hr n l p = some 47
    · simp only [if_pos z]
      have pn := (hr_lt R z).2.1
      have K2 : kp rS2 h (hsI hh 44 22 (nI (p + 1))) := kp_t K (kp_I ⟨rfl, Or.inl rfl⟩)
      have R2 : RS (hsI hh 44 22 (nI (p + 1))) n l (p + 1) false := RS_k R (hI_n (by decide)) (fun i => hI_n (by omega)) (hI_e _ _ _ _) (by rw [hI_n (by decide)]; exact R.2.2.2.2.2) (by omega)
      obtain ⟨h2, x6, t1, t2, t3⟩ := m_rm_2 h hW kk (nI (hg + 1)) wd hwd wd 0 c (p + 1) b _ (by omega) (by omega) hb K2 R2
      have e0 : (some (vi (0 : Int32)) : Option AV) = some (vi (nI 0)) := rfl
      have s0 : run 2 1228 85 [some (vo (some (44, 12, 0))), some (vi kk), some (vi (nI wd)), some (vi (nI b)), some (vi (nI c)), some (vi (nI hg)), l6] [] hh = run 2 1228 123 [some (vo (some (44, 12, 0))), some (vi kk), some (vi (nI wd)), some (vi (nI b)), some (vi (nI c)), some (vi (nI (hg + 1))), some (vi (nI 0))] [] (hsI hh 44 22 (nI (p + 1))) := by
        rw [x_1228_85, ← e0]
        simp (disch := omega) only [x_1228, xs, r6, i00, hh1, e1, eq_true z, cz_5, h5, r5, nl_inc]
      rw [s0, t1]
      by_cases bd : (gr2 n l wd c (p + 1) b).2.2.2 = true
      · simp only [if_pos bd]
        rw [bd] at t3
        have q6 : hI h2 44 23 = 1 := t3.2.2.2.2.2
        refine ⟨h2, some (vi (nI (gr2 n l wd c (p + 1) b).1)), some (vi x6), ?_, t2, t3⟩
        rw [x_1228_85]
        simp (disch := omega) only [x_1228, xs, q6, i10]
      · simp only [if_neg bd]
        rw [bnt bd] at t3
        exact ih _ _ _ _ h2 (some (vi x6)) (by omega) (by have := gr2_c n l wd c (p + 1) b; omega) (gr2_b n l wd c (p + 1) b (by omega) hb) t2 t3
    · simp only [if_neg z]
      refine ⟨hh, some (vi (nI c)), l6, ?_, K, R⟩
      rw [x_1228_85]
      simp (disch := omega) only [x_1228, xs, r6, i00, hh1, e1, z]
