/-! THE REFERENCE: the steps of a person -/
/-- the steps from p on: how many (from j on), the place behind them -/
def spF (n : Nat) (l : Nat → Nat) : Nat → Nat → Nat → Nat × Nat
  | 0, j, p => (j, p)
  | f + 1, j, p => match stO (hr n l p) with
    | none => (j, p)
    | some _ => spF n l f (j + 1) (p + 1)
def rS4 (k i j : Nat) : Prop := (i = 44 ∧ j = 22) ∨ (i = 60 ∧ j = k) ∨ (i = 61 ∧ 6 * k ≤ j ∧ j < 6 * k + 6)
theorem stO_lt {o : Option Nat} {s : Nat} (h : stO o = some s) : s ≤ 4 := by
  cases o with
  | none => cases h
  | some c =>
    unfold stO stL at h
    simp only at h
    repeat' split at h
    all_goals first
      | (cases h; omega)
      | cases h
theorem m_rp_s {n k : Nat} {l : Nat → Nat} (h : Hp) (hW : MW h) (hk : k < 28) (p0 : Nat) : ∀ (f j p : Nat) (hh : Hp), j + f = 6 → p = p0 + j → kp (rS4 k) h hh → RS hh n l p false → hI hh 60 k = nI j → (∀ i, i < j → ∃ s, stO (hr n l (p0 + i)) = some s ∧ hI hh 61 (6 * k + i) = nI s) → ∃ h2 : Hp, run 2 1229 81 [some (vo (some (44, 12, 0))), some (vi (nI k))] [] hh = some (none, h2) ∧ kp (rS4 k) h h2 ∧ RS h2 n l (spF n l f j p).2 false ∧ hI h2 60 k = nI (spF n l f j p).1 ∧ ∀ i, i < (spF n l f j p).1 → ∃ s, stO (hr n l (p0 + i)) = some s ∧ hI h2 61 (6 * k + i) = nI s := by
  intro f
  induction f with
  | zero =>
    intro j p hh hj hp K R H0 H
    have hW1 := MW_k K hW
    have : j = 6 := by omega
    subst this
    have r6 : hI hh 44 23 = 0 := R.2.2.2.2.2
    have w30 : hR hh 44 30 = some (60, 13, 28) := hW1.2.2.2.2.2.2.2.2.2.2.2.2.2.2.2.1
    refine ⟨hh, ?_, K, R, H0, H⟩
    rw [x_1229_81]
    simp (disch := omega) only [x_1229, xs, r6, i00, w30, ↓ib_n, cl_n, H0, cz_6, Nat.le_refl]
  | succ f ih =>
    intro j p hh hj hp K R H0 H
    have hW1 := MW_k K hW
    have h6 : ¬ 6 ≤ j := by omega
    have r5 := R.2.2.2.2.1
    have r6 : hI hh 44 23 = 0 := R.2.2.2.2.2
    have hh1 := m_here hW1 R
    have ho : ∀ c, hr n l p = some c → c ≤ 255 := fun c e => (hr_lt R e).1
    have hso := m_stepOfLetter (hr n l p) hh ho
    have w30 : hR hh 44 30 = some (60, 13, 28) := hW1.2.2.2.2.2.2.2.2.2.2.2.2.2.2.2.1
    have w31 : hR hh 44 31 = some (61, 13, 168) := hW1.2.2.2.2.2.2.2.2.2.2.2.2.2.2.2.2.1
    unfold spF
    rw [x_1229_81]
    cases hq : stO (hr n l p) with
    | none =>
      refine ⟨hh, ?_, K, R, H0, H⟩
      simp (disch := omega) only [x_1229, xs, r6, i00, w30, ↓ib_n, cl_n, H0, cz_6, h6, hh1, hso, hq, oI_n, m10]
    | some s =>
      have hs := stO_lt hq
      have pn : p < n := by
        cases e : hr n l p with
        | none => rw [e] at hq; cases hq
        | some c => exact (hr_lt R e).2.1
      have e6 : (6 : Int32) * nI k = nI (6 * k) := by rw [show (6 : Int32) = nI 6 from rfl, pk_mul]
      have w30b : hR (hsI hh 61 (6 * k + j) (nI s)) 44 30 = some (60, 13, 28) := w30
      have q1 : hI (hsI hh 61 (6 * k + j) (nI s)) 60 k = nI j := by rw [hI_n (by omega)]; exact H0
      have q2 : hI (hsI (hsI hh 61 (6 * k + j) (nI s)) 60 k (nI (j + 1))) 44 22 = nI p := by rw [hI_n (by omega), hI_n (by omega)]; exact r5
      have K2 : kp (rS4 k) h (hsI (hsI (hsI hh 61 (6 * k + j) (nI s)) 60 k (nI (j + 1))) 44 22 (nI (p + 1))) := kp_t K (kp_t (kp_I (Or.inr (Or.inr ⟨rfl, by omega, by omega⟩))) (kp_t (kp_I (Or.inr (Or.inl ⟨rfl, rfl⟩))) (kp_I (Or.inl ⟨rfl, rfl⟩))))
      have R2 : RS (hsI (hsI (hsI hh 61 (6 * k + j) (nI s)) 60 k (nI (j + 1))) 44 22 (nI (p + 1))) n l (p + 1) false := RS_k R (by rw [hI_n (by omega), hI_n (by omega), hI_n (by omega)]) (fun i => by rw [hI_n (by omega), hI_n (by omega), hI_n (by omega)]) (hI_e _ _ _ _) (by rw [hI_n (by omega), hI_n (by omega), hI_n (by omega)]; exact R.2.2.2.2.2) (by omega)
      obtain ⟨h2, t1, t2⟩ := ih (j + 1) (p + 1) _ (by omega) (by omega) K2 R2 (by rw [hI_n (by omega), hI_e]) (fun i hi => by
        by_cases e : i = j
        · subst e
          refine ⟨s, by rw [← hp]; exact hq, ?_⟩
          rw [hI_n (by omega), hI_n (by omega), hI_e]
        · obtain ⟨s2, a, b⟩ := H i (by omega)
          refine ⟨s2, a, ?_⟩
          rw [hI_n (by omega), hI_n (by omega), hI_n (by omega)]
          exact b)
      refine ⟨h2, Eq.trans ?_ t1, t2⟩
      simp (disch := omega) only [x_1229, xs, r6, i00, w30, w31, w30b, ↓ib_n, cl_n, H0, cz_6, h6, hh1, hso, hq, oI_s, nl_l0, e6, nI_add, q1, q2, nl_inc]
