/-! THE REFERENCE: all turns; game -/
def cuF (P : Nat → Bool) : Nat → Nat
  | 0 => 0
  | n + 1 => (if P n = true then 1 else 0) + cuF P n
theorem cu_le {P Q : Nat → Bool} : ∀ n, (∀ i, i < n → Q i = true → P i = true) → cuF Q n ≤ cuF P n := by
  intro n
  induction n with
  | zero => intro _; exact Nat.le_refl _
  | succ n ih =>
    intro h
    have := ih (fun i hi => h i (by omega))
    have h2 := h n (by omega)
    unfold cuF
    by_cases e : Q n = true
    · rw [if_pos e, if_pos (h2 e)]; omega
    · rw [if_neg e]; split <;> omega
theorem cu_lt {P Q : Nat → Bool} : ∀ n, (∀ i, i < n → Q i = true → P i = true) → (∃ i, i < n ∧ P i = true ∧ Q i = false) → cuF Q n < cuF P n := by
  intro n
  induction n with
  | zero => rintro _ ⟨i, hi, -⟩; omega
  | succ n ih =>
    rintro h ⟨i, hi, a, b⟩
    have h2 := h n (by omega)
    have h3 := cu_le n (fun i hi => h i (by omega))
    unfold cuF
    by_cases e : i = n
    · subst e
      rw [a, b]
      simp
      omega
    · have := ih (fun i hi => h i (by omega)) ⟨i, by omega, a, b⟩
      by_cases e2 : Q n = true
      · rw [if_pos e2, if_pos (h2 e2)]; omega
      · rw [if_neg e2]; split <;> omega
theorem cu_b (P : Nat → Bool) : ∀ n, cuF P n ≤ n := by
  intro n
  induction n with
  | zero => exact Nat.le_refl _
  | succ n ih => unfold cuF; split <;> omega
/-- the pairs that are not won in T turns -/
def cU (w : Wo) (T : Nat) : Nat := cuF (fun j => !wn w T (j / (w 0 0 * w 0 1)) (j % (w 0 0 * w 0 1))) (w 0 0 * w 0 1 * (w 0 0 * w 0 1))
theorem cU_lt {w : Wo} {T : Nat} (h : Mq w T (w 0 0 * w 0 1 * (w 0 0 * w 0 1)) true) : cU w (T + 1) < cU w T := by
  obtain ⟨j, hj, a, b⟩ := h.mp rfl
  refine cu_lt _ (fun i _ hq => ?_) ⟨j, hj, by simp [b], by simp [a]⟩
  simp only [Bool.not_eq_true'] at hq ⊢
  cases e : wn w T (i / (w 0 0 * w 0 1)) (i % (w 0 0 * w 0 1)) with
  | false => rfl
  | true => rw [wn_m (show T ≤ T + 1 by omega) e] at hq; exact hq
theorem Mq_st {w : Wo} {T : Nat} (h : Mq w T (w 0 0 * w 0 1 * (w 0 0 * w 0 1)) false) (hA : 0 < w 0 0 * w 0 1) : stab w T := by
  intro a r ha hr hw
  cases e : wn w T a r with
  | true => rfl
  | false =>
    have hd : (a * (w 0 0 * w 0 1) + r) / (w 0 0 * w 0 1) = a := by rw [Nat.mul_comm, Nat.mul_add_div hA, Nat.div_eq_of_lt hr]; rfl
    have hm : (a * (w 0 0 * w 0 1) + r) % (w 0 0 * w 0 1) = r := by rw [Nat.mul_comm, Nat.mul_add_mod]; exact Nat.mod_eq_of_lt hr
    have := h.mpr ⟨a * (w 0 0 * w 0 1) + r, pr_lt ha hr, by rw [hd, hm]; exact hw, by rw [hd, hm]; exact e⟩
    cases this
theorem st_S {w : Wo} {T : Nat} (h : stab w T) : stab w (T + 1) := fun a r ha hr hw => wn_m (by omega) (wn_st h 2 a r ha hr hw)
theorem PI_e {w : Wo} {T : Nat} {h hh : Hp} (I : PI w h T (w 0 0 * w 0 1 * (w 0 0 * w 0 1)) hh) : PI w h (T + 1) 0 hh := by
  refine ⟨I.1, fun a r ha hr => ?_⟩
  rw [I.2 a r ha hr, if_pos (pr_lt ha hr), if_neg (by omega)]
theorem Mq_0 {w : Wo} {T : Nat} : Mq w T 0 false := ⟨fun z => absurd z (by decide), fun ⟨_, hj, _⟩ => absurd hj (Nat.not_lt_zero _)⟩
theorem m_so_t (d : Nat) (w : Wo) (h : Hp) (hO : WOK d w) (hdd : d ≤ 129) (hW : MW h) (hS : MS h w) : ∀ (m T : Nat) (hh : Hp) (l4 l5 l6 l7 l8 l9 l10 : Option AV), cU w T ≤ m → T + cU w T ≤ 900 → PI w h T 0 hh → ∃ (T2 : Nat) (h2 : Hp), T2 ≤ 901 ∧ run 4 1258 51 [some (vo (some (44, 12, 0))), some (vi (nI (w 0 0 * w 0 1))), some (vi 1), some (vi (nI (T + 1))), l4, l5, l6, l7, l8, l9, l10] [] hh = some (none, h2) ∧ PI w h T2 0 h2 ∧ stab w T2 := by
  have hcc := cells_le hO
  intro m
  induction m with
  | zero =>
    intro T hh l4 l5 l6 l7 l8 l9 l10 hm hT I
    obtain ⟨h2, b2, l11, l12, l13, l14, l15, l16, r, J, M⟩ := m_so_p d T w h hO hdd hW hS (by omega) _ 0 hh false l5 l6 l7 l8 l9 l10 (Nat.zero_add _) I Mq_0
    cases b2 with
    | true => have := cU_lt M; omega
    | false =>
      refine ⟨T + 1, h2, by omega, ?_, PI_e J, st_S (Mq_st M (by omega))⟩
      rw [x_1258_51]
      have e0 : (some (vi (0 : Int32)) : Option AV) = some (vi (nI 0)) := rfl
      have e1 : (some (vi (0 : Int32)) : Option AV) = some (vi (bI false)) := rfl
      have r' : run 4 1258 60 [some (vo (some (44, 12, 0))), some (vi (nI (w 0 0 * w 0 1))), some (vi 0), some (vi (nI (T + 1))), some (vi 0), l5, l6, l7, l8, l9, l10] [] hh = _ := r
      simp (disch := omega) only [x_1258, xs, i10]
      rw [r']
      simp (disch := omega) only [x_1258, xs, bI_f]
      rw [x_1258_51]
      simp (disch := omega) only [x_1258, xs, i00]
  | succ m ih =>
    intro T hh l4 l5 l6 l7 l8 l9 l10 hm hT I
    obtain ⟨h2, b2, l11, l12, l13, l14, l15, l16, r, J, M⟩ := m_so_p d T w h hO hdd hW hS (by omega) _ 0 hh false l5 l6 l7 l8 l9 l10 (Nat.zero_add _) I Mq_0
    have r' : run 4 1258 60 [some (vo (some (44, 12, 0))), some (vi (nI (w 0 0 * w 0 1))), some (vi 0), some (vi (nI (T + 1))), some (vi 0), l5, l6, l7, l8, l9, l10] [] hh = _ := r
    cases b2 with
    | true =>
      have hlt := cU_lt M
      obtain ⟨T2, h3, t1, t2, t3⟩ := ih (T + 1) h2 (some (vi (nI (w 0 0 * w 0 1 * (w 0 0 * w 0 1))))) l11 l12 l13 l14 l15 l16 (by omega) (by omega) (PI_e J)
      refine ⟨T2, h3, t1, ?_, t3⟩
      rw [x_1258_51, ← t2]
      simp (disch := omega) only [x_1258, xs, i10]
      rw [r']
      simp (disch := omega) only [x_1258, xs, bI_t, nl_inc]
    | false =>
      refine ⟨T + 1, h2, by omega, ?_, PI_e J, st_S (Mq_st M (by omega))⟩
      rw [x_1258_51]
      simp (disch := omega) only [x_1258, xs, i10]
      rw [r']
      simp (disch := omega) only [x_1258, xs, bI_f]
      rw [x_1258_51]
      simp (disch := omega) only [x_1258, xs, i00]
theorem m_so_0 (h : Hp) (hW : MW h) (l1 : Int32) : ∀ (n k : Nat) (hh : Hp), k + n = 900 → kp (fun i _ => i = 66) h hh → (∀ j, j < k → hI hh 66 j = if j / 30 = j % 30 then 0 else -1) → ∃ h2 : Hp, run 4 1258 12 [some (vo (some (44, 12, 0))), some (vi l1), some (vi (nI k)), none, none, none, none, none, none, none, none] [] hh = run 4 1258 47 [some (vo (some (44, 12, 0))), some (vi l1), some (vi (nI 900)), none, none, none, none, none, none, none, none] [] h2 ∧ kp (fun i _ => i = 66) h h2 ∧ ∀ j, j < 900 → hI h2 66 j = if j / 30 = j % 30 then 0 else -1 := by
  intro n
  induction n with
  | zero =>
    intro k hh hk K H
    have : k = 900 := by omega
    subst this
    refine ⟨hh, ?_, K, H⟩
    rw [x_1258_12]
    simp (disch := omega) only [x_1258, xs, cz_900, Nat.le_refl]
  | succ n ih =>
    intro k hh hk K H
    have hk2 : ¬ 900 ≤ k := by omega
    have w37 : hR hh 44 37 = some (66, 13, 900) := (MW_k K hW).2.2.2.2.2.2.2.2.2.2.2.2.2.2.2.2.2.2.2.2.2.1
    have hdv : nI k / 30 = nI (k / 30) := pk_div (d := 30) (by omega) (by omega) (by omega)
    have hrm : nI k - nI (k / 30) * 30 = nI (k % 30) := nl_rem (d := 30) (by omega) (by omega) (by omega)
    have z30 : ((30 : Int32) = 0) = False := by simp only [eq_iff_iff, iff_false]; decide
    have key : ∀ x : Int32, (x = if k / 30 = k % 30 then 0 else -1) → ∃ h2 : Hp, run 4 1258 12 [some (vo (some (44, 12, 0))), some (vi l1), some (vi (nI (k + 1))), none, none, none, none, none, none, none, none] [] (hsI hh 66 k x) = run 4 1258 47 [some (vo (some (44, 12, 0))), some (vi l1), some (vi (nI 900)), none, none, none, none, none, none, none, none] [] h2 ∧ kp (fun i _ => i = 66) h h2 ∧ ∀ j, j < 900 → hI h2 66 j = if j / 30 = j % 30 then 0 else -1 := by
      intro x hx
      refine ih (k + 1) _ (by omega) (kp_t K (kp_I rfl)) (fun j hj => ?_)
      rw [hI_s]
      by_cases e : j = k
      · subst e; rw [if_pos ⟨rfl, rfl⟩]; exact hx
      · rw [if_neg (by omega)]; exact H j (by omega)
    by_cases e : k / 30 = k % 30
    · obtain ⟨h2, r, r2⟩ := key 0 (by rw [if_pos e])
      refine ⟨h2, Eq.trans ?_ r, r2⟩
      rw [x_1258_12]
      simp (disch := omega) only [x_1258, xs, cz_900, hk2, w37, z30, hdv, hrm, nl_eq, eq_true e, ↓ib_n, cl_n, nl_inc]
    · obtain ⟨h2, r, r2⟩ := key (-1) (by rw [if_neg e])
      refine ⟨h2, Eq.trans ?_ r, r2⟩
      rw [x_1258_12]
      simp (disch := omega) only [x_1258, xs, cz_900, hk2, w37, z30, hdv, hrm, nl_eq, e, ↓ib_n, cl_n, nl_inc]
theorem m_solve (d : Nat) (w : Wo) (h : Hp) (hO : WOK d w) (hdd : d ≤ 129) (hW : MW h) (hS : MS h w) : ∃ (T : Nat) (h2 : Hp), T ≤ 901 ∧ call 1258 [vo (some (44, 12, 0))] h = some (none, h2) ∧ PI w h T 0 h2 ∧ stab w T := by
  have hcc := cells_le hO
  obtain ⟨f0, f1, -⟩ := hS.1
  obtain ⟨h1, r1, K, H⟩ := m_so_0 h hW (nI (w 0 0 * w 0 1)) 900 0 h (by omega) (kp_r _ _) (fun j hj => absurd hj (by omega))
  have I0 : PI w h 0 0 h1 := by
    refine ⟨K, fun a r ha hr => ?_⟩
    rw [if_neg (Nat.not_lt_zero _), H _ (by omega)]
    have e1 : (30 * a + r) / 30 = a := by omega
    have e2 : (30 * a + r) % 30 = r := by omega
    rw [e1, e2]
    unfold lw fN
    show (if a = r then (0 : Int32) else -1) = oI (if decide (a = r) = true then some 0 else _)
    by_cases e : a = r
    · rw [if_pos e, if_pos (decide_eq_true e)]; rfl
    · rw [if_neg e, if_neg (by simp [e])]; rfl
  have hAA : w 0 0 * w 0 1 * (w 0 0 * w 0 1) ≤ 900 := Nat.mul_le_mul hcc.2 hcc.2
  have hc0 := cu_b (fun j => !wn w 0 (j / (w 0 0 * w 0 1)) (j % (w 0 0 * w 0 1))) (w 0 0 * w 0 1 * (w 0 0 * w 0 1))
  obtain ⟨T, h2, t1, t2, t3⟩ := m_so_t d w h hO hdd hW hS _ 0 h1 none none none none none none none (Nat.le_refl _) (by unfold cU; omega) I0
  refine ⟨T, h2, t1, ?_, t3⟩
  have r1' : run 4 1258 12 [some (vo (some (44, 12, 0))), some (vi (nI (w 0 0 * w 0 1))), some (vi 0), none, none, none, none, none, none, none, none] [] h = _ := r1
  simp (disch := omega) only [e_1258, x_1258, xs, f0, f1, pk_mul]
  rw [r1']
  simp (disch := omega) only [x_1258, xs]
  exact t2
