/-! THE REFERENCE: the first row of a moor -/
/-- ground from p on: how wide, its hills, the place behind it; from cell c on -/
def gr1 (n : Nat) (l : Nat → Nat) : Nat → Nat → Nat → Nat → Nat × Nat × Nat
  | 0, c, p, b => (c, b, p)
  | f + 1, c, p, b => if isG (hr n l p) = true then gr1 n l f (c + 1) (p + 1) (if hr n l p = some 35 then b ||| 2 ^ c else b) else (c, b, p)
theorem m_rm_1 {n : Nat} {l : Nat → Nat} (h : Hp) (hW : MW h) (kk : Int32) (b0 : Bool) : ∀ (f c p b : Nat) (hh : Hp), c + f = 6 → b < 2 ^ 30 → kp rS2 h hh → RS hh n l p b0 → ∃ h2 : Hp, run 2 1228 7 [some (vo (some (44, 12, 0))), some (vi kk), some (vi (nI c)), some (vi (nI b)), some (vi (nI c)), none, none] [] hh = run 2 1228 59 [some (vo (some (44, 12, 0))), some (vi kk), some (vi (nI (gr1 n l f c p b).1)), some (vi (nI (gr1 n l f c p b).2.1)), some (vi (nI (gr1 n l f c p b).1)), none, none] [] h2 ∧ kp rS2 h h2 ∧ RS h2 n l (gr1 n l f c p b).2.2 b0 := by
  intro f
  induction f with
  | zero =>
    intro c p b hh hc hb K R
    have hW1 := MW_k K hW
    have hg := m_isGround hW1 R
    have : c = 6 := by omega
    subst this
    refine ⟨hh, ?_, K, R⟩
    unfold gr1
    rw [x_1228_7]
    simp (disch := omega) only [x_1228, xs, hg, cz_6, Nat.le_refl]
    split <;> rfl
  | succ f ih =>
    intro c p b hh hc hb K R
    have hW1 := MW_k K hW
    have hg := m_isGround hW1 R
    have hh1 := m_here hW1 R
    have ho : ∀ c, hr n l p = some c → c ≤ 255 := fun c e => (hr_lt R e).1
    have e1 : (oI (hr n l p) = 35) = (hr n l p = some 35) := oI_e ho (by decide)
    have h6 : ¬ 6 ≤ c := by omega
    have r5 := R.2.2.2.2.1
    unfold gr1
    rw [x_1228_7]
    by_cases g : isG (hr n l p) = true
    · rw [if_pos g]
      have pn : p < n := by
        cases e : hr n l p with
        | none => rw [e] at g; cases g
        | some c => exact (hr_lt R e).2.1
      have K2 : kp rS2 h (hsI hh 44 22 (nI (p + 1))) := kp_t K (kp_I ⟨rfl, Or.inl rfl⟩)
      have R2 : RS (hsI hh 44 22 (nI (p + 1))) n l (p + 1) b0 := RS_k R (hI_n (by decide)) (fun i => hI_n (by omega)) (hI_e _ _ _ _) (by rw [hI_n (by decide)]; exact R.2.2.2.2.2) (by omega)
      have hp2 := p2_lt (show c < 30 by omega)
      by_cases z : hr n l p = some 35
      · rw [if_pos z]
        obtain ⟨h2, t1, t2⟩ := ih (c + 1) (p + 1) (b ||| 2 ^ c) _ (by omega) (or_lt hb (by omega)) K2 R2
        refine ⟨h2, Eq.trans ?_ t1, t2⟩
        simp (disch := omega) only [x_1228, xs, hg, g, bI_t, i10, cz_6, h6, hh1, e1, eq_true z, nl_s1, nl_or, r5, nl_inc]
      · rw [if_neg z]
        obtain ⟨h2, t1, t2⟩ := ih (c + 1) (p + 1) b _ (by omega) hb K2 R2
        refine ⟨h2, Eq.trans ?_ t1, t2⟩
        simp (disch := omega) only [x_1228, xs, hg, g, bI_t, i10, cz_6, h6, hh1, e1, z, nl_or0, r5, nl_inc]
    · rw [if_neg g]
      have g := bnt g
      refine ⟨hh, ?_, K, R⟩
      simp (disch := omega) only [x_1228, xs, hg, g, bI_f, i00]
/-- a further row: wd cells, one after another; from cell c on; is it bad -/
def gr2 (n : Nat) (l : Nat → Nat) : Nat → Nat → Nat → Nat → Nat × Nat × Nat × Bool
  | 0, c, p, b => (c, b, p, false)
  | f + 1, c, p, b => if isG (hr n l p) = true then gr2 n l f (c + 1) (p + 1) (if hr n l p = some 35 then b ||| 2 ^ c else b) else (c + 1, b, p, true)
theorem m_rm_2 {n : Nat} {l : Nat → Nat} (h : Hp) (hW : MW h) (kk x5 : Int32) (wd : Nat) (hwd : wd ≤ 6) : ∀ (f k c p b : Nat) (hh : Hp), k + f = wd → c + f ≤ 30 → b < 2 ^ 30 → kp rS2 h hh → RS hh n l p false → ∃ (h2 : Hp) (x6 : Int32), run 2 1228 123 [some (vo (some (44, 12, 0))), some (vi kk), some (vi (nI wd)), some (vi (nI b)), some (vi (nI c)), some (vi x5), some (vi (nI k))] [] hh = run 2 1228 85 [some (vo (some (44, 12, 0))), some (vi kk), some (vi (nI wd)), some (vi (nI (gr2 n l f c p b).2.1)), some (vi (nI (gr2 n l f c p b).1)), some (vi x5), some (vi x6)] [] h2 ∧ kp rS2 h h2 ∧ RS h2 n l (gr2 n l f c p b).2.2.1 (gr2 n l f c p b).2.2.2 := by
  intro f
  induction f with
  | zero =>
    intro k c p b hh hk hc hb K R
    have : k = wd := by omega
    subst this
    refine ⟨hh, nI k, ?_, K, R⟩
    rw [x_1228_123]
    unfold gr2
    simp (disch := omega) only [x_1228, xs, nl_le, Nat.le_refl]
  | succ f ih =>
    intro k c p b hh hk hc hb K R
    have hW1 := MW_k K hW
    have hk2 : ¬ wd ≤ k := by omega
    have hg := m_isGround hW1 R
    have ho : ∀ c, hr n l p = some c → c ≤ 255 := fun c e => (hr_lt R e).1
    have e1 : (oI (hr n l p) = 35) = (hr n l p = some 35) := oI_e ho (by decide)
    have r5 := R.2.2.2.2.1
    have r6 : hI hh 44 23 = 0 := R.2.2.2.2.2
    unfold gr2
    rw [x_1228_123]
    by_cases g : isG (hr n l p) = true
    · rw [if_pos g]
      have pn : p < n := by
        cases e : hr n l p with
        | none => rw [e] at g; cases g
        | some c => exact (hr_lt R e).2.1
      have R1 : RS (hsI hh 44 23 0) n l p false := RS_k R (hI_n (by decide)) (fun i => hI_n (by omega)) (by rw [hI_n (by decide)]; exact r5) (hI_e _ _ _ _) R.2.1
      have hh1 := m_here (MW_s (a := 44) (k := 23) (v := 0) hW1) R1
      have q5 : hI (hsI hh 44 23 0) 44 22 = nI p := by rw [hI_n (by decide)]; exact r5
      have q6 : hI (hsI hh 44 23 0) 44 23 = 0 := hI_e _ _ _ _
      have K2 : kp rS2 h (hsI (hsI hh 44 23 0) 44 22 (nI (p + 1))) := kp_t K (kp_t (kp_I ⟨rfl, Or.inr rfl⟩) (kp_I ⟨rfl, Or.inl rfl⟩))
      have R2 : RS (hsI (hsI hh 44 23 0) 44 22 (nI (p + 1))) n l (p + 1) false := RS_k R1 (hI_n (by decide)) (fun i => hI_n (by omega)) (hI_e _ _ _ _) (by rw [hI_n (by decide)]; exact q6) (by omega)
      have hp2 := p2_lt (show c < 30 by omega)
      by_cases z : hr n l p = some 35
      · rw [if_pos z]
        obtain ⟨h2, x6, t1, t2⟩ := ih (k + 1) (c + 1) (p + 1) (b ||| 2 ^ c) _ (by omega) (by omega) (or_lt hb (by omega)) K2 R2
        refine ⟨h2, x6, Eq.trans ?_ t1, t2⟩
        simp (disch := omega) only [x_1228, xs, nl_le, hk2, r6, i00, hg, g, bI_t, i10, hh1, e1, eq_true z, nl_s1, nl_or, q5, q6, nl_inc]
      · rw [if_neg z]
        obtain ⟨h2, x6, t1, t2⟩ := ih (k + 1) (c + 1) (p + 1) b _ (by omega) (by omega) hb K2 R2
        refine ⟨h2, x6, Eq.trans ?_ t1, t2⟩
        simp (disch := omega) only [x_1228, xs, nl_le, hk2, r6, i00, hg, g, bI_t, i10, hh1, e1, z, nl_or0, q5, q6, nl_inc]
    · rw [if_neg g]
      have g := bnt g
      have z : ¬ hr n l p = some 35 := fun z => by rw [z] at g; exact absurd g (by decide)
      have R1 : RS (hsI hh 44 23 1) n l p true := RS_k R (hI_n (by decide)) (fun i => hI_n (by omega)) (by rw [hI_n (by decide)]; exact r5) (hI_e _ _ _ _) R.2.1
      have hh1 := m_here (MW_s (a := 44) (k := 23) (v := 1) hW1) R1
      have q5 : hI (hsI hh 44 23 1) 44 22 = nI p := by rw [hI_n (by decide)]; exact r5
      have q6 : hI (hsI hh 44 23 1) 44 23 = 1 := hI_e _ _ _ _
      have q7 : nI p + 0 = nI p := nI_add p 0
      have q8 : hI (hsI (hsI hh 44 23 1) 44 22 (nI p)) 44 23 = 1 := by rw [hI_n (by decide)]; exact q6
      refine ⟨hsI (hsI hh 44 23 1) 44 22 (nI p), nI (k + 1), ?_, kp_t K (kp_t (kp_I ⟨rfl, Or.inr rfl⟩) (kp_I ⟨rfl, Or.inl rfl⟩)), RS_k R1 (hI_n (by decide)) (fun i => hI_n (by omega)) (hI_e _ _ _ _) (by rw [hI_n (by decide)]; exact q6) R.2.1⟩
      simp (disch := omega) only [x_1228, xs, nl_le, hk2, r6, i00, hg, g, bI_f, i10, hh1, e1, z, nl_or0, q5, q6, q7, nl_inc]
      rw [x_1228_123]
      simp (disch := omega) only [x_1228, xs, q8, i10]
      split <;> rfl
