/-! THE REFERENCE: meetings, places never seen, crowds, rows -/
def fN (P : Nat → Bool) : Nat → Nat → Option Nat
  | 0, _ => none
  | n + 1, i => if P i = true then some i else fN P n (i + 1)
def mP (w : Wo) (a b e i : Nat) : Bool := if e = 0 then decide (cel (dys w i) a = cel (dys w i) b) else decide (cel (dys w (i - 1)) a ≠ cel (dys w (i - 1)) b ∧ cel (dys w i) a = cel (dys w (i - 1)) b ∧ cel (dys w i) b = cel (dys w (i - 1)) a)
theorem oN_s (k : Nat) : oN (some k) = nI k := rfl
theorem oN_n : oN none = -9 := rfl
theorem cel_lt {w : Wo} {d p : Nat} (hk : WOK d w) (hp : p < w 0 3) : cel w p < 30 := by
  have := fre_lt (cel_fre hk hp)
  have := cells_le hk
  omega
theorem m_meet_l (a b e d : Nat) (w : Wo) (hO : WOK d w) (hd : d ≤ 60) (ha : a < w 0 3) (hb : b < w 0 3) (he : e ≤ 1) : ∀ (m i : Nat) (h : Hp) (l7 l8 l9 l10 : Option AV), i + m = 60 → MW h → MS h (dys w i) → ∃ h2, run 6 1241 78 [some (vo (some (44, 12, 0))), some (vi (nI a)), some (vi (nI b)), some (vi (nI e)), some (vi (nI (w 0 5))), some (vi (-9)), some (vi (nI (i + 1))), l7, l8, l9, l10] [] h = some (some (vi (oN (fN (mP w a b e) m (i + 1)))), hsI h2 44 5 (nI (w 0 5))) ∧ kp (dS (w 0 5)) h h2 := by
  have k3 := hO.2.2.2.1
  intro m
  induction m with
  | zero =>
    intro i h l7 l8 l9 l10 hi hW hS
    refine ⟨h, ?_, kp_r _ _⟩
    rw [x_1241_78]
    simp (disch := omega) only [x_1241, xs, cz_60, show (60 < i + 1) = True by simp; omega]
    rfl
  | succ m ih =>
    intro i h l7 l8 l9 l10 hi hW hS
    have hOi := dys_ok hO i
    have hO1 := dys_ok hO (i + 1)
    have ha' : a < dys w i 0 3 := by rw [dys_0 _ _ _ (by decide)]; exact ha
    have hb' : b < dys w i 0 3 := by rw [dys_0 _ _ _ (by decide)]; exact hb
    have ha1 : a < dys w (i + 1) 0 3 := by rw [dys_0 _ _ _ (by decide)]; exact ha
    have hb1 : b < dys w (i + 1) 0 3 := by rw [dys_0 _ _ _ (by decide)]; exact hb
    obtain ⟨h1, c1, c2, c3⟩ := m_dayOn h (dys w i) _ hW hS hOi (by omega)
    have hW1 := MW_k c2 hW
    have c3 : MS h1 (dys w (i + 1)) := c3
    have a0 := m_cellOf a h _ _ hW hS hOi (by omega) ha'
    have b0 := m_cellOf b h _ _ hW hS hOi (by omega) hb'
    have a1 := m_cellOf a h1 _ _ hW1 c3 hO1 (by omega) ha1
    have b1 := m_cellOf b h1 _ _ hW1 c3 hO1 (by omega) hb1
    have la0 := cel_lt hOi ha'
    have lb0 := cel_lt hOi hb'
    have la1 := cel_lt hO1 ha1
    have lb1 := cel_lt hO1 hb1
    have ck : kp (dS (w 0 5)) h h1 := kp_m c2 (dS_m (by rw [dys_5]; omega))
    have h60 : (60 < i + 1) = False := by simp; omega
    unfold fN
    by_cases hP : mP w a b e (i + 1) = true
    · rw [if_pos hP]
      refine ⟨h1, ?_, ck⟩
      have hend : ∀ l7 l8 l9 l10 : Option AV, run 6 1241 78 [some (vo (some (44, 12, 0))), some (vi (nI a)), some (vi (nI b)), some (vi (nI e)), some (vi (nI (w 0 5))), some (vi (nI (i + 1))), some (vi (nI (i + 1 + 1))), l7, l8, l9, l10] [] h1 = some (some (vi (nI (i + 1))), hsI h1 44 5 (nI (w 0 5))) := by
        intro l7 l8 l9 l10
        rw [x_1241_78]
        simp (disch := omega) only [x_1241, xs, cz_60, nl_g0]
        split <;> rfl
      rw [x_1241_78]
      unfold mP at hP
      rcases (show e = 0 ∨ e = 1 by omega) with rfl | rfl
      · simp only [if_true, decide_eq_true_eq] at hP
        simp (disch := omega) only [x_1241, xs, cz_60, h60, ltm, a0, b0, c1, a1, b1, nl_eq, eq_true hP, dz, i10, nl_inc]
        repeat' split
        all_goals exact hend _ _ _ _
      · simp only [Nat.add_sub_cancel, show (1 = 0) = False by decide, if_false, decide_eq_true_eq] at hP
        obtain ⟨p1, p2, p3⟩ := hP
        simp (disch := omega) only [x_1241, xs, cz_60, h60, ltm, a0, b0, c1, a1, b1, nl_eq, p1, eq_true p2, eq_true p3, dz, i10, nl_inc]
        repeat' split
        all_goals exact hend _ _ _ _
    · rw [if_neg hP]
      have hall : ∀ l7 l8 l9 l10 : Option AV, ∃ h2, run 6 1241 78 [some (vo (some (44, 12, 0))), some (vi (nI a)), some (vi (nI b)), some (vi (nI e)), some (vi (nI (w 0 5))), some (vi (-9)), some (vi (nI (i + 1 + 1))), l7, l8, l9, l10] [] h1 = some (some (vi (oN (fN (mP w a b e) m (i + 1 + 1)))), hsI h2 44 5 (nI (w 0 5))) ∧ kp (dS (w 0 5)) h h2 := fun l7 l8 l9 l10 => by
        obtain ⟨h2, r1, r2⟩ := ih (i + 1) h1 l7 l8 l9 l10 (by omega) hW1 c3
        exact ⟨h2, r1, kp_t ck r2⟩
      rw [x_1241_78]
      unfold mP at hP
      rcases (show e = 0 ∨ e = 1 by omega) with rfl | rfl
      · simp only [if_true, decide_eq_true_eq] at hP
        simp (disch := omega) only [x_1241, xs, cz_60, h60, ltm, a0, b0, c1, a1, b1, nl_eq, hP, dz, i10, i00, nl_inc]
        repeat' split
        all_goals exact hall _ _ _ _
      · simp only [Nat.add_sub_cancel, show (1 = 0) = False by decide, if_false, decide_eq_true_eq] at hP
        simp (disch := omega) only [x_1241, xs, cz_60, h60, ltm, a0, b0, c1, a1, b1, nl_eq, dz, i10, i00, nl_inc]
        repeat' split
        all_goals first
          | exact hall _ _ _ _
          | exact absurd ⟨by assumption, by assumption, by assumption⟩ hP
def s_meet (a b x : Int32) (σ : St) : Int32 × St := if isT σ.1 a b = true then (if x < 0 ∨ 1 < x then (-2, rz σ 2) else (oN (if x = 0 then fN (mP σ.1 a.toNatClampNeg b.toNatClampNeg 0) 61 0 else fN (mP σ.1 a.toNatClampNeg b.toNatClampNeg 1) 60 1), σ)) else (-1, rz σ 1)
theorem in1_f {x : Int32} (h2 : x < 0 ∨ 1 < x) : ¬ (0 ≤ x ∧ x ≤ 1) := by
  rintro ⟨a, b⟩
  rcases h2 with h2 | h2
  · exact absurd h2 (Int32.not_lt.mpr a)
  · exact absurd h2 (Int32.not_lt.mpr b)
theorem in1_t {x : Int32} (h2 : ¬ (x < 0 ∨ 1 < x)) : (0 ≤ x ∧ x ≤ 1) ∧ ∃ e, x = nI e ∧ e ≤ 1 := by
  have h3 : 0 ≤ x ∧ x ≤ 1 := ⟨Int32.not_lt.mp (fun z => h2 (Or.inl z)), Int32.not_lt.mp (fun z => h2 (Or.inr z))⟩
  obtain ⟨j, hj, rfl⟩ := nI_of (x := x) (fun z => h2 (Or.inl z))
  refine ⟨h3, j, rfl, ?_⟩
  have := h3.2
  rwa [(cz_1 hj).2.1] at this
theorem p_meet (a b x : Int32) : Mok 1241 [a, b, x] (s_meet a b x) := by
  intro σ h I
  have I2 := IM_th I
  obtain ⟨hW, hS, hG, -⟩ := id I2
  have k3 := hG.1.2.2.2.1
  have f5 := hS.1.2.2.2.2.2
  have hp := m_areTwo a b _ _ hS
  unfold s_meet
  simp only [List.map]
  by_cases h1 : isT σ.1 a b = true
  · rw [if_pos h1]
    obtain ⟨j, k, rfl, rfl, hj, hk, -⟩ := isT_of k3 h1
    by_cases h2 : x < 0 ∨ 1 < x
    · rw [if_pos h2]
      refine ⟨rh (hsI h 44 12 0) 2, ?_, IM_rz (by decide) I2⟩
      simp only [e_1241, x_1241, xs, hp, h1, bI_t, i10, m_in01, in1_f h2, decide_false, bI_f, i00, m_rf2 hW]
    · rw [if_neg h2]
      obtain ⟨h3, e, rfl, he⟩ := in1_t h2
      have ca := m_cellOf j _ _ _ hW hS hG.1 (by decide) hj
      have cb := m_cellOf k _ _ _ hW hS hG.1 (by decide) hk
      have la := cel_lt hG.1 hj
      have lb := cel_lt hG.1 hk
      obtain ⟨h2, r1, r2⟩ := m_meet_l j k e 60 σ.1 hG.1 (by decide) hj hk he 60 0 _ none none none none (by omega) hW hS
      have I3 := IM_k (kp_back r2 f5) I2
      have e1 : (nI (0 + 1)) = 1 := rfl
      rw [e1] at r1
      simp only [cl_n (show j < 2 ^ 31 by omega), cl_n (show k < 2 ^ 31 by omega)]
      rcases (show e = 0 ∨ e = 1 by omega) with rfl | rfl
      · simp only [dz, if_true]
        unfold fN
        by_cases hm : cel σ.1 j = cel σ.1 k
        · have hmP : mP σ.1 j k 0 0 = true := by unfold mP; simp only [if_true]; exact decide_eq_true hm
          rw [if_pos hmP]
          refine ⟨hsI (hsI h 44 12 0) 44 5 (nI (σ.1 0 5)), ?_, IM_k (kp_back (kp_r _ _) f5) I2⟩
          simp (disch := omega) only [e_1241, x_1241, xs, hp, h1, bI_t, i10, m_in01, h3, and_self, decide_true, f5, dz, ca, cb, nl_eq, eq_true hm]
          rw [x_1241_78]
          simp (disch := omega) only [x_1241, xs, ltm, show ((60 : Int32) < 1) = False by simp only [eq_iff_iff, iff_false]; decide]
          rfl
        · have hmP : ¬ mP σ.1 j k 0 0 = true := by unfold mP; simp only [if_true]; intro z; exact hm (of_decide_eq_true z)
          rw [if_neg hmP]
          refine ⟨_, ?_, I3⟩
          simp (disch := omega) only [e_1241, x_1241, xs, hp, h1, bI_t, i10, m_in01, h3, and_self, decide_true, f5, dz, ca, cb, nl_eq, hm]
          exact r1
      · simp only [dz, if_false]
        refine ⟨_, ?_, I3⟩
        simp (disch := omega) only [e_1241, x_1241, xs, hp, h1, bI_t, i10, m_in01, h3, and_self, decide_true, f5, dz, ca, cb, nl_eq]
        exact r1
  · have h1 := bnt h1
    refine ⟨rh (hsI h 44 12 0) 1, ?_, by rw [h1]; exact IM_rz (by decide) I2⟩
    simp only [e_1241, x_1241, xs, hp, h1, bI_f, i00, m_rf1 hW, Bool.false_eq_true, if_false]
