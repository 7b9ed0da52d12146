/-! THE REFERENCE: the first row of a moor -/
/-- ground from p on: how wide, its hills, the place behind it; from cell c on -/
def gr1 (n : Nat) (l : Nat → Nat) : Nat → Nat → Nat → Nat → Nat × Nat × Nat
  | 0, c, p, b => (c, b, p)
  | f + 1, c, p, b => if isG (hr n l p) = true then gr1 n l f (c + 1) (p + 1) (if hr n l p = some 35 then b ||| 2 ^ c else b) else (c, b, p)
theorem m_rm_1 {n : Nat} {l : Nat → Nat} (h : Hp) (hW : MW h) (l1 : Option AV) (b0 : Bool) : ∀ (f c p b : Nat) (hh : Hp), c + f = 6 → b < 2 ^ 30 → kp rS2 h hh → RS hh n l p b0 → ∃ h2 : Hp, run 2 1228 7 [some (vo (some (44, 12, 0))), some (vi (nI 0)), some (vi (nI c)), some (vi (nI b)), some (vi (nI c)), none, none] [] hh = run 2 1228 59 [some (vo (some (44, 12, 0))), some (vi (nI 0)), some (vi (nI (gr1 n l f c p b).1)), some (vi (nI (gr1 n l f c p b).2.1)), some (vi (nI (gr1 n l f c p b).1)), none, none] [] h2 ∧ kp rS2 h h2 ∧ RS h2 n l (gr1 n l f c p b).2.2 b0 := by
  intro f
  induction f with
  | zero =>
    intro c p b hh hc hb K R
    have hW1 := MW_k K hW
    have hg := m_isGround hW1 R
    have : c = 6 := by omega
    subst this
    refine ⟨hh, ?_, K, R⟩
    unfold gr1
    rw [x_1228_7]
    simp (disch := omega) only [x_1228, xs, hg, cz_6, Nat.le_refl]
    split <;> rfl
  | succ f ih =>
    intro c p b hh hc hb K R
    have hW1 := MW_k K hW
    have hg := m_isGround hW1 R
    have hh1 := m_here hW1 R
    have ho : ∀ c, hr n l p = some c → c ≤ 255 := fun c e => (hr_lt R e).1
    have e1 : (oI (hr n l p) = 35) = (hr n l p = some 35) := oI_e ho (by decide)
    have h6 : ¬ 6 ≤ c := by omega
    have r5 := R.2.2.2.2.1
    unfold gr1
    rw [x_1228_7]
    by_cases g : isG (hr n l p) = true
    · rw [if_pos g]
      have pn : p < n := by
        cases e : hr n l p with
        | none => rw [e] at g; cases g
        | some c => exact (hr_lt R e).2.1
      have K2 : kp rS2 h (hsI hh 44 22 (nI (p + 1))) := kp_t K (kp_I ⟨rfl, Or.inl rfl⟩)
      have R2 : RS (hsI hh 44 22 (nI (p + 1))) n l (p + 1) b0 := RS_k R (hI_n (by decide)) (fun i => hI_n (by omega)) (hI_e _ _ _ _) (by rw [hI_n (by decide)]; exact R.2.2.2.2.2) (by omega)
      have hp2 := p2_lt (show c < 30 by omega)
      by_cases z : hr n l p = some 35
      · rw [if_pos z]
        obtain ⟨h2, t1, t2⟩ := ih (c + 1) (p + 1) (b ||| 2 ^ c) _ (by omega) (or_lt hb (by omega)) K2 R2
        refine ⟨h2, Eq.trans ?_ t1, t2⟩
        simp (disch := omega) only [x_1228, xs, hg, g, bI_t, i10, cz_6, h6, hh1, e1, eq_true z, nl_s1, nl_or, r5, nl_inc]
      · rw [if_neg z]
        obtain ⟨h2, t1, t2⟩ := ih (c + 1) (p + 1) b _ (by omega) hb K2 R2
        refine ⟨h2, Eq.trans ?_ t1, t2⟩
        simp (disch := omega) only [x_1228, xs, hg, g, bI_t, i10, cz_6, h6, hh1, e1, z, nl_or0, r5, nl_inc]
    · rw [if_neg g]
      have g := bnt g
      refine ⟨hh, ?_, K, R⟩
      simp (disch := omega) only [x_1228, xs, hg, g, bI_f, i00]
