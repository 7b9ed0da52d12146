/-! THE REFERENCE: a moor read -/
theorem gr1_c (n : Nat) (l : Nat → Nat) : ∀ f c p b, (gr1 n l f c p b).1 ≤ c + f := by
  intro f
  induction f with
  | zero => intro c p b; exact Nat.le_refl _
  | succ f ih =>
    intro c p b
    unfold gr1
    split
    · have := ih (c + 1) (p + 1) (if hr n l p = some 35 then b ||| 2 ^ c else b); omega
    · simp only; omega
theorem gr1_b (n : Nat) (l : Nat → Nat) : ∀ f c p b, c + f ≤ 30 → b < 2 ^ 30 → (gr1 n l f c p b).2.1 < 2 ^ 30 := by
  intro f
  induction f with
  | zero => intro c p b _ hb; exact hb
  | succ f ih =>
    intro c p b hc hb
    unfold gr1
    split
    · refine ih _ _ _ (by omega) ?_
      split
      · exact or_lt hb (by omega)
      · exact hb
    · exact hb
/-- a moor from p on: rows, columns, hills, the place behind it, is it bad -/
def rdM (n : Nat) (l : Nat → Nat) (p : Nat) : Nat × Nat × Nat × Nat × Bool :=
  if (gr1 n l 6 0 p 0).1 < 2 ∨ hr n l (gr1 n l 6 0 p 0).2.2 ≠ some 47 then (1, (gr1 n l 6 0 p 0).1, (gr1 n l 6 0 p 0).2.1, (gr1 n l 6 0 p 0).2.2, true)
  else ((gr3 n l (gr1 n l 6 0 p 0).1 4 (gr1 n l 6 0 p 0).1 (gr1 n l 6 0 p 0).2.2 (gr1 n l 6 0 p 0).2.1 1).1, (gr1 n l 6 0 p 0).1, (gr3 n l (gr1 n l 6 0 p 0).1 4 (gr1 n l 6 0 p 0).1 (gr1 n l 6 0 p 0).2.2 (gr1 n l 6 0 p 0).2.1 1).2)
def rS3 (k i j : Nat) : Prop := rS2 i j ∨ ((57 ≤ i ∧ i ≤ 59) ∧ j = k)
theorem m_readMoor {h : Hp} {n p k : Nat} {l : Nat → Nat} (hW : MW h) (R : RS h n l p false) (hk : k < 28) : ∃ h2, call 1228 [vo (some (44, 12, 0)), vi (nI k)] h = some (none, h2) ∧ RS h2 n l (rdM n l p).2.2.2.1 (rdM n l p).2.2.2.2 ∧ kp (rS3 k) h h2 ∧ hI h2 57 k = nI (rdM n l p).1 ∧ hI h2 58 k = nI (rdM n l p).2.1 ∧ hI h2 59 k = nI (rdM n l p).2.2.1 := by
  obtain ⟨h1, t1, K1, R1⟩ := m_rm_1 h hW (nI k) false 6 0 p 0 h rfl (by decide) (kp_r _ _) R
  have hw6 := gr1_c n l 6 0 p 0
  have hb30 := gr1_b n l 6 0 p 0 (by decide) (by decide)
  have hW1 := MW_k K1 hW
  have hh1 := m_here hW1 R1
  have ho : ∀ c, hr n l (gr1 n l 6 0 p 0).2.2 = some c → c ≤ 255 := fun c e => (hr_lt R1 e).1
  have e1 : (oI (hr n l (gr1 n l 6 0 p 0).2.2) = 47) = (hr n l (gr1 n l 6 0 p 0).2.2 = some 47) := oI_e ho (by decide)
  have s0 : call 1228 [vo (some (44, 12, 0)), vi (nI k)] h = run 2 1228 7 [some (vo (some (44, 12, 0))), some (vi (nI k)), some (vi (nI 0)), some (vi (nI 0)), some (vi (nI 0)), none, none] [] h := by
    simp only [e_1228, x_1228, xs]
    rfl
  have fin : ∀ (wd hg b q : Nat) (bd : Bool) (hh : Hp) (l4 l6 : Option AV), kp rS2 h hh → RS hh n l q bd → ∃ h2, run 2 1228 205 [some (vo (some (44, 12, 0))), some (vi (nI k)), some (vi (nI wd)), some (vi (nI b)), l4, some (vi (nI hg)), l6] [] hh = some (none, h2) ∧ RS h2 n l q bd ∧ kp (rS3 k) h h2 ∧ hI h2 57 k = nI hg ∧ hI h2 58 k = nI wd ∧ hI h2 59 k = nI b := by
    intro wd hg b q bd hh l4 l6 K R2
    have hW2 := MW_k K hW
    have w27 : hR hh 44 27 = some (57, 13, 28) := hW2.2.2.2.2.2.2.2.2.2.2.2.2.1
    have w28 : hR (hsI hh 57 k (nI hg)) 44 28 = some (58, 13, 28) := hW2.2.2.2.2.2.2.2.2.2.2.2.2.2.1
    have w29 : hR (hsI (hsI hh 57 k (nI hg)) 58 k (nI wd)) 44 29 = some (59, 13, 28) := hW2.2.2.2.2.2.2.2.2.2.2.2.2.2.2.1
    refine ⟨hsI (hsI (hsI hh 57 k (nI hg)) 58 k (nI wd)) 59 k (nI b), ?_, RS_k R2 ?_ (fun i => ?_) ?_ ?_ R2.2.1, kp_t (kp_m K (fun i j z => Or.inl z)) (kp_t (kp_I (Or.inr ⟨by omega, rfl⟩)) (kp_t (kp_I (Or.inr ⟨by omega, rfl⟩)) (kp_I (Or.inr ⟨by omega, rfl⟩)))), ?_, ?_, hI_e _ _ _ _⟩
    · simp (disch := omega) only [x_1228, xs, w27, w28, w29, ↓ib_n, cl_n]
    · rw [hI_n (by omega), hI_n (by omega), hI_n (by omega)]
    · rw [hI_n (by omega), hI_n (by omega), hI_n (by omega)]
    · rw [hI_n (by omega), hI_n (by omega), hI_n (by omega)]; exact R2.2.2.2.2.1
    · rw [hI_n (by omega), hI_n (by omega), hI_n (by omega)]; exact R2.2.2.2.2.2
    · rw [hI_n (by omega), hI_n (by omega), hI_e]
    · rw [hI_n (by omega), hI_e]
  have r5 := R1.2.2.2.2.1
  have e11 : (some (vi (1 : Int32)) : Option AV) = some (vi (nI 1)) := rfl
  unfold rdM
  rw [s0, t1]
  by_cases bd : (gr1 n l 6 0 p 0).1 < 2 ∨ hr n l (gr1 n l 6 0 p 0).2.2 ≠ some 47
  · simp only [if_pos bd]
    have K2 : kp rS2 h (hsI h1 44 23 1) := kp_t K1 (kp_I ⟨rfl, Or.inr rfl⟩)
    have R2 : RS (hsI h1 44 23 1) n l (gr1 n l 6 0 p 0).2.2 true := RS_k R1 (hI_n (by decide)) (fun i => hI_n (by omega)) (by rw [hI_n (by decide)]; exact r5) (hI_e _ _ _ _) R1.2.1
    obtain ⟨h2, u1, u2⟩ := fin (gr1 n l 6 0 p 0).1 1 (gr1 n l 6 0 p 0).2.1 (gr1 n l 6 0 p 0).2.2 true _ (some (vi (nI (gr1 n l 6 0 p 0).1))) none K2 R2
    refine ⟨h2, ?_, u2⟩
    rw [← u1, ← e11]
    have s1 : run 2 1228 59 [some (vo (some (44, 12, 0))), some (vi (nI k)), some (vi (nI (gr1 n l 6 0 p 0).1)), some (vi (nI (gr1 n l 6 0 p 0).2.1)), some (vi (nI (gr1 n l 6 0 p 0).1)), none, none] [] h1 = run 2 1228 85 [some (vo (some (44, 12, 0))), some (vi (nI k)), some (vi (nI (gr1 n l 6 0 p 0).1)), some (vi (nI (gr1 n l 6 0 p 0).2.1)), some (vi (nI (gr1 n l 6 0 p 0).1)), some (vi 1), none] [] (hsI h1 44 23 1) := by
      by_cases z : (gr1 n l 6 0 p 0).1 < 2
      · simp (disch := omega) only [x_1228, xs, cz_2, eq_true z]
      · have z2 : ¬ hr n l (gr1 n l 6 0 p 0).2.2 = some 47 := bd.resolve_left z
        simp (disch := omega) only [x_1228, xs, cz_2, z, hh1, e1, z2]
    rw [s1, x_1228_85]
    simp (disch := omega) only [x_1228, xs, hI_e, i10]
  · simp only [if_neg bd]
    have z : ¬ (gr1 n l 6 0 p 0).1 < 2 := fun z => bd (Or.inl z)
    have z2 : hr n l (gr1 n l 6 0 p 0).2.2 = some 47 := by
      by_cases y : hr n l (gr1 n l 6 0 p 0).2.2 = some 47
      · exact y
      · exact absurd (Or.inr y) bd
    have K2 : kp rS2 h (hsI h1 44 23 0) := kp_t K1 (kp_I ⟨rfl, Or.inr rfl⟩)
    have R2 : RS (hsI h1 44 23 0) n l (gr1 n l 6 0 p 0).2.2 false := RS_k R1 (hI_n (by decide)) (fun i => hI_n (by omega)) (by rw [hI_n (by decide)]; exact r5) (hI_e _ _ _ _) R1.2.1
    obtain ⟨h2, l4, l7, u1, u2, u3⟩ := m_rm_3 h hW (nI k) (gr1 n l 6 0 p 0).1 (by omega) 4 (gr1 n l 6 0 p 0).1 (gr1 n l 6 0 p 0).2.2 (gr1 n l 6 0 p 0).2.1 1 _ none rfl (by omega) hb30 K2 R2
    obtain ⟨h3, v1, v2⟩ := fin (gr1 n l 6 0 p 0).1 _ _ _ _ h2 l4 l7 u2 u3
    refine ⟨h3, ?_, v2⟩
    rw [← v1, ← u1, ← e11]
    simp (disch := omega) only [x_1228, xs, cz_2, z, hh1, e1, eq_true z2]
