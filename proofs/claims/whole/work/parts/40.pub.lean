/-! THE REFERENCE: days to come -/
def wS (i j : Nat) : Prop := (i = 44 ∧ j ≠ 16 ∧ j ≠ 21 ∧ j ≠ 36 ∧ j ≠ 42) ∨ (45 ≤ i ∧ i ≤ 50) ∨ i = 52 ∨ (55 ≤ i ∧ i ≤ 63) ∨ (66 ≤ i ∧ i ≤ 68)
theorem wS_n {i j : Nat} (h : (i ≠ 44 ∨ j = 16 ∨ j = 21 ∨ j = 36 ∨ j = 42) ∧ (i < 45 ∨ 50 < i) ∧ i ≠ 52 ∧ (i < 55 ∨ 63 < i) ∧ (i < 66 ∨ 68 < i)) : ¬ wS i j := by unfold wS; omega
theorem dS_w {t : Nat} : ∀ i j, dS t i j → wS i j := fun i j h => by unfold dS at h; unfold wS; omega
theorem IM_w {σ : St} {h h2 : Hp} {w : Wo} (a : kp wS h h2) (I : IM σ h) (hS : MS h2 w) (hk : WOK 60 w) : IM (w, σ.2) h2 := by
  obtain ⟨hW, -, ⟨-, hG⟩, hi, g1, ⟨g2, g3⟩, ⟨g4, g5⟩, ⟨g6, g7⟩, g8⟩ := I
  refine ⟨MW_k a hW, hS, ⟨hk, hG⟩, fun h1 => ?_, ?_⟩
  · have := (hG.2.1 h1).2.2.2.2.2.1
    exact MSg_c (hi h1) (show σ.2.1 0 5 ≤ 129 by omega) (fun j hj => a.2.2 _ _ (wS_n (by omega))) (fun p _ => ⟨a.2.2 _ _ (wS_n (by omega)), a.2.2 _ _ (wS_n (by omega)), a.2.2 _ _ (wS_n (by omega)), a.2.2 _ _ (wS_n (by omega))⟩) (fun i => a.2.2 _ _ (wS_n (by omega))) (fun p j hj => a.2.2 _ _ (wS_n (by omega)))
  · exact ⟨(a.2.2 _ _ (wS_n (by omega))).trans g1, ⟨(a.2.2 _ _ (wS_n (by omega))).trans g2, fun i hi => (a.2.2 _ _ (wS_n (by omega))).trans (g3 i hi)⟩, ⟨(a.2.2 _ _ (wS_n (by omega))).trans g4, fun i hi => ⟨(a.2.2 _ _ (wS_n (by omega))).trans (g5 i hi).1, (a.2.2 _ _ (wS_n (by omega))).trans (g5 i hi).2⟩⟩, ⟨(a.2.2 _ _ (wS_n (by omega))).trans g6, fun i hi => (a.2.2 _ _ (wS_n (by omega))).trans (g7 i hi)⟩, fun i hi => (a.2.2 _ _ (wS_n (by omega))).trans (g8 i hi)⟩
theorem WOK_d {w : Wo} {d e : Nat} (h : WOK d w) (he : w 0 5 ≤ e) : WOK e w := ⟨h.1, h.2.1, h.2.2.1, h.2.2.2.1, h.2.2.2.2.1, he, h.2.2.2.2.2.2⟩
/-- a world with another delay -/
theorem WOK_lag {w : Wo} {d v : Nat} (h : WOK d w) (hv : v ≤ 3) : WOK d (upw w 0 4 v) := by
  obtain ⟨k0, k1, k2, k3, k4, k5, kp⟩ := h
  refine ⟨k0, k1, k2, k3, by rw [upw_e]; exact hv, k5, fun p hp => ?_⟩
  obtain ⟨g1, g2, g3, g4, g5, g6, g7⟩ := kp p hp
  have e : ∀ i j, i ≠ 0 → upw w 0 4 v i j = w i j := fun i j n => upw_n (fun z => n z.1)
  have e5 : upw w 0 4 v 0 5 = w 0 5 := rfl
  have ef : ∀ c, fre (upw w 0 4 v) c = fre w c := fun c => rfl
  simp (disch := omega) only [e, e5, ef]
  exact ⟨g1, g2, g3, g4, g5, g6, g7⟩
def s_delay (v : Int32) (σ : St) : Int32 × St := if v < 0 then (-4, rz σ 4) else if 3 < v then (-6, rz σ 6) else (nI (σ.1 0 4), (upw σ.1 0 4 v.toNatClampNeg, σ.2))
theorem p_delay (v : Int32) : Mok 1235 [v] (s_delay v) := by
  intro σ h I
  have I2 := IM_th I
  obtain ⟨hW, hS, hG, -⟩ := id I2
  obtain ⟨f0, f1, f2, f3, f4, f5⟩ := hS.1
  unfold s_delay
  simp only [List.map]
  by_cases h2 : v < 0
  · rw [if_pos h2]
    refine ⟨rh (hsI h 44 12 0) 4, ?_, IM_rz (by decide) I2⟩
    simp only [e_1235, x_1235, xs, cn_0 h2, h2, m_rf4 hW]
  · rw [if_neg h2]
    obtain ⟨j, hj, rfl⟩ := nI_of h2
    by_cases h3 : 3 < nI j
    · rw [if_pos h3]
      have h4 : ¬ j ≤ 3 := by rw [(cz_3 hj).2.2.1] at h3; omega
      refine ⟨rh (hsI h 44 12 0) 6, ?_, IM_rz (by decide) I2⟩
      simp (disch := omega) only [e_1235, x_1235, xs, nl_l0, nl_g0, cz_3, h4, m_rf6 hW]
    · rw [if_neg h3]
      have h4 : j ≤ 3 := by rw [(cz_3 hj).2.2.1] at h3; omega
      refine ⟨hsI (hsI h 44 12 0) 44 4 (nI j), ?_, ?_⟩
      · simp (disch := omega) only [e_1235, x_1235, xs, nl_l0, nl_g0, cz_3, h4, f4]
      · have k5 := hG.1.2.2.2.2.2.1
        simp only [cl_n hj]
        refine IM_w (kp_I (Or.inl ⟨rfl, by omega⟩)) I2 ?_ (WOK_lag hG.1 h4)
        have ne : ∀ i k, i ≠ 44 ∨ k ≠ 4 → hI (hsI (hsI h 44 12 0) 44 4 (nI j)) i k = hI (hsI h 44 12 0) i k := fun i k n => hI_n (by omega)
        have e : ∀ i k, i ≠ 0 → upw σ.1 0 4 j i k = σ.1 i k := fun i k n => upw_n (fun z => n z.1)
        refine ⟨⟨by rw [ne _ _ (by omega)]; exact f0, by rw [ne _ _ (by omega)]; exact f1, by rw [ne _ _ (by omega)]; exact f2, by rw [ne _ _ (by omega)]; exact f3, hI_e _ _ _ _, by rw [ne _ _ (by omega)]; exact f5⟩, fun p hp => ?_⟩
        simp (disch := omega) only [ne, e, show upw σ.1 0 4 j 0 5 = σ.1 0 5 from rfl]
        exact hS.2 p hp
def s_day (σ : St) : Int32 × St := if σ.1 0 5 = 60 then (-6, rz σ 6) else (nI (chN σ.1 (σ.1 0 3) 0 0), (dayW σ.1, σ.2))
theorem p_day : Mok 1236 [] s_day := by
  intro σ h I
  have I2 := IM_th I
  obtain ⟨hW, hS, hG, -⟩ := id I2
  have f5 := hS.1.2.2.2.2.2
  have k5 := hG.1.2.2.2.2.2.1
  unfold s_day
  simp only [List.map]
  by_cases h1 : σ.1 0 5 = 60
  · rw [if_pos h1]
    refine ⟨rh (hsI h 44 12 0) 6, ?_, IM_rz (by decide) I2⟩
    simp (disch := omega) only [e_1236, x_1236, xs, f5, cz_60, h1, m_rf6 hW]
  · rw [if_neg h1]
    obtain ⟨h2, c1, c2, c3⟩ := m_dayOn _ σ.1 60 hW hS hG.1 (by decide)
    refine ⟨h2, ?_, IM_w (kp_m c2 dS_w) I2 c3 (WOK_d (dayW_ok hG.1) (by rw [dayW_5]; omega))⟩
    simp (disch := omega) only [e_1236, x_1236, xs, f5, cz_60, h1, c1]
theorem dys_s (w : Wo) (n : Nat) : dys (dayW w) n = dys w (n + 1) := by
  induction n with
  | zero => rfl
  | succ n ih => show dayW (dys (dayW w) n) = _; rw [ih]; rfl
theorem m_daysOn_l (N : Nat) (hN : N < 2 ^ 31) : ∀ (n k d : Nat) (w : Wo) (h : Hp), k + n = N → MW h → MS h w → WOK d w → d + n ≤ 129 → ∃ h2, run 6 1218 2 [some (vo (some (44, 12, 0))), some (vi (nI N)), some (vi (nI k))] [] h = some (none, h2) ∧ kp (dS (w 0 5)) h h2 ∧ MS h2 (dys w n) := by
  intro n
  induction n with
  | zero =>
    intro k d w h hk hW hS hO hd
    have : k = N := by omega
    subst this
    refine ⟨h, ?_, kp_r _ _, hS⟩
    rw [x_1218_2]
    simp (disch := omega) only [x_1218, xs, nl_le, Nat.le_refl]
  | succ n ih =>
    intro k d w h hk hW hS hO hd
    obtain ⟨h1, c1, c2, c3⟩ := m_dayOn h w d hW hS hO (by omega)
    obtain ⟨h2, r1, r2, r3⟩ := ih (k + 1) (d + 1) (dayW w) h1 (by omega) (MW_k c2 hW) c3 (dayW_ok hO) (by omega)
    refine ⟨h2, ?_, kp_t c2 (kp_m r2 (dS_m (by rw [dayW_5]; omega))), by rw [← dys_s]; exact r3⟩
    have hk2 : ¬ N ≤ k := by omega
    rw [x_1218_2, ← r1]
    simp (disch := omega) only [x_1218, xs, nl_le, hk2, c1, nl_inc]
theorem m_daysOn (n : Nat) (h : Hp) (w : Wo) (d : Nat) (hW : MW h) (hS : MS h w) (hO : WOK d w) (hd : d + n ≤ 129) : ∃ h2, call 1218 [vo (some (44, 12, 0)), vi (nI n)] h = some (none, h2) ∧ kp (dS (w 0 5)) h h2 ∧ MS h2 (dys w n) := by
  obtain ⟨h2, r1, r2⟩ := m_daysOn_l n (by omega) n 0 d w h (by omega) hW hS hO hd
  refine ⟨h2, ?_, r2⟩
  simp only [e_1218, x_1218]
  exact r1
/-- back to today -/
theorem kp_back {t : Nat} {h h2 : Hp} {x : Int32} (a : kp (dS t) h h2) (hx : hI h 44 5 = x) : kp (sc t) h (hsI h2 44 5 x) := by
  refine ⟨a.1, a.2.1, fun i j n => ?_⟩
  rw [hI_s]
  split
  · rename_i e
    rw [e.1, e.2, hx]
  · rename_i e
    refine a.2.2 i j (fun z => ?_)
    unfold dS at z
    unfold sc at n
    omega
def wdI (n lo hi : Int32) : Int32 := if lo ≤ n then (if n ≤ hi then 0 else -6) else -4
theorem m_wd (n lo hi : Int32) (h : Hp) : call 1239 [vi n, vi lo, vi hi] h = some (some (vi (wdI n lo hi)), h) := by
  unfold wdI
  simp only [e_1239, x_1239]
  split
  · split <;> rfl
  · rfl
/-- within some days -/
theorem wd_3 (n : Int32) (lo hi : Nat) (hl : lo < 2 ^ 31) (hh : hi < 2 ^ 31) : (n < nI lo ∧ wdI n (nI lo) (nI hi) = -4) ∨ (¬ n < nI lo ∧ nI hi < n ∧ wdI n (nI lo) (nI hi) = -6) ∨ (¬ n < nI lo ∧ ¬ nI hi < n ∧ wdI n (nI lo) (nI hi) = 0 ∧ ∃ k, n = nI k ∧ lo ≤ k ∧ k ≤ hi) := by
  unfold wdI
  by_cases h1 : n < nI lo
  · exact Or.inl ⟨h1, if_neg (Int32.not_le.mpr h1)⟩
  · have h1' := Int32.not_lt.mp h1
    by_cases h2 : nI hi < n
    · exact Or.inr (Or.inl ⟨h1, h2, by rw [if_pos h1', if_neg (Int32.not_le.mpr h2)]⟩)
    · have h2' := Int32.not_lt.mp h2
      refine Or.inr (Or.inr ⟨h1, h2, by rw [if_pos h1', if_pos h2'], ?_⟩)
      obtain ⟨k, hk, rfl⟩ := nI_of (x := n) (fun z => by rw [(cn z hl).1] at h1'; exact h1')
      rw [nl_le hl hk] at h1'
      rw [nl_le hk hh] at h2'
      exact ⟨k, rfl, h1', h2'⟩
def s_behind (p n : Int32) (σ : St) : Int32 × St := if isP σ.1 p = true then (if n < nI 0 then (-4, rz σ 4) else if nI 60 < n then (-6, rz σ 6) else (nI (cel (dys σ.1 n.toNatClampNeg) p.toNatClampNeg), σ)) else (-1, rz σ 1)
theorem p_behind (p n : Int32) : Mok 1240 [p, n] (s_behind p n) := by
  intro σ h I
  have I2 := IM_th I
  obtain ⟨hW, hS, hG, -⟩ := id I2
  have k3 := hG.1.2.2.2.1
  have f5 := hS.1.2.2.2.2.2
  have hp := m_isP p _ _ hS
  unfold s_behind
  simp only [List.map]
  by_cases h1 : isP σ.1 p = true
  · rw [if_pos h1]
    obtain ⟨k, rfl, hk⟩ := isP_of k3 h1
    have hwd : call 1239 [vi n, vi 0, vi 60] (hsI h 44 12 0) = some (some (vi (wdI n (nI 0) (nI 60))), hsI h 44 12 0) := m_wd n 0 60 _
    rcases wd_3 n 0 60 (by decide) (by decide) with ⟨a, b⟩ | ⟨a, b, c⟩ | ⟨a, b, c, j, rfl, -, hj⟩
    · rw [if_pos a]
      refine ⟨rh (hsI h 44 12 0) 4, ?_, IM_rz (by decide) I2⟩
      simp only [e_1240, x_1240, xs, hp, h1, bI_t, i10, hwd, b, ltm, m_rf4 hW]
    · rw [if_neg a, if_pos b]
      refine ⟨rh (hsI h 44 12 0) 6, ?_, IM_rz (by decide) I2⟩
      simp only [e_1240, x_1240, xs, hp, h1, bI_t, i10, hwd, c, ltm, m_rf6 hW]
    · rw [if_neg a, if_neg b]
      obtain ⟨h2, r1, r2, r3⟩ := m_daysOn j _ σ.1 60 hW hS hG.1 (by omega)
      have hc := m_cellOf k h2 _ _ (MW_k r2 hW) r3 (dys_ok hG.1 j) (by omega) (by rw [dys_0 _ _ _ (by decide)]; exact hk)
      refine ⟨hsI h2 44 5 (nI (σ.1 0 5)), ?_, IM_k (kp_back r2 f5) I2⟩
      simp (disch := omega) only [e_1240, x_1240, xs, hp, h1, bI_t, i10, hwd, c, ltm, f5, r1, hc, cl_n]
  · have h1 := bnt h1
    refine ⟨rh (hsI h 44 12 0) 1, ?_, by rw [h1]; exact IM_rz (by decide) I2⟩
    simp only [e_1240, x_1240, xs, hp, h1, bI_f, i00, ltm, m_rf1 hW, Bool.false_eq_true, if_false]
