/-! THE REFERENCE: reach, can, seeds -/
def rsF (w : Wo) (b c : Nat) : Nat → Nat → Nat → Nat
  | 0, _, a => a
  | n + 1, s, a => rsF w b c n (s + 1) (if b.testBit c = true then (match stp w c s with | none => a | some t => a ||| 2 ^ t) else a)
def rcF (w : Wo) (b : Nat) : Nat → Nat → Nat → Nat
  | 0, _, a => a
  | n + 1, c, a => rcF w b n (c + 1) (rsF w b c 4 0 a)
def reF (w : Wo) : Nat → Nat → Nat
  | 0, b => b
  | n + 1, b => reF w n (rcF w b (w 0 0 * w 0 1) 0 b)
theorem nl_div1 (n c : Nat) : (n / 2 ^ c % 2 = 1) = (n.testBit c = true) := by
  rw [Nat.testBit_eq_decide_div_mod_eq]
  simp
theorem or_lt {a t : Nat} (ha : a < 2 ^ 30) (ht : t < 30) : a ||| 2 ^ t < 2 ^ 30 := Nat.or_lt_two_pow ha (p2_lt ht)
theorem rsF_lt {w : Wo} {d : Nat} (hk : WOK d w) (b c : Nat) : ∀ n s a, a < 2 ^ 30 → rsF w b c n s a < 2 ^ 30 := by
  intro n
  induction n with
  | zero => intro s a ha; exact ha
  | succ n ih =>
    intro s a ha
    unfold rsF
    refine ih _ _ ?_
    split
    · cases hq : stp w c s with
      | none => exact ha
      | some t => exact or_lt ha (stp_lt hk hq)
    · exact ha
theorem rcF_lt {w : Wo} {d : Nat} (hk : WOK d w) (b : Nat) : ∀ n c a, a < 2 ^ 30 → rcF w b n c a < 2 ^ 30 := by
  intro n
  induction n with
  | zero => intro c a ha; exact ha
  | succ n ih => intro c a ha; exact ih _ _ (rsF_lt hk b c _ _ _ ha)
theorem mm1 : ((0 : Int32) ≤ -1) = False := by simp only [eq_iff_iff, iff_false]; decide
theorem nl_or0 (a : Nat) (ha : a < 2 ^ 31) : nI a ||| 0 = nI a := by
  have := nl_or (a := a) (b := 0) ha (by decide)
  rwa [Nat.or_zero] at this
theorem m_re_i (d : Nat) (w : Wo) (h : Hp) (hO : WOK d w) (hS : MS h w) (l1 : Option AV) (x2 x4 : Int32) (b c : Nat) (hb : b < 2 ^ 30) (hc : c < w 0 0 * w 0 1) : ∀ (n s a : Nat) (l8 : Option AV), s + n = 4 → a < 2 ^ 30 → ∃ l9 : Option AV, run 3 1245 36 [some (vo (some (44, 12, 0))), l1, some (vi x2), some (vi (nI b)), some (vi x4), some (vi (nI a)), some (vi (nI c)), some (vi (nI s)), l8] [] h = run 3 1245 90 [some (vo (some (44, 12, 0))), l1, some (vi x2), some (vi (nI b)), some (vi x4), some (vi (nI (rsF w b c n s a))), some (vi (nI c)), some (vi (nI 4)), l9] [] h := by
  have hcc := cells_le hO
  have hbd : b / 2 ^ c < 2 ^ 31 := Nat.lt_of_le_of_lt (Nat.div_le_self _ _) (by omega)
  intro n
  induction n with
  | zero =>
    intro s a l8 hs ha
    have : s = 4 := by omega
    subst this
    refine ⟨l8, ?_⟩
    rw [x_1245_36]
    simp (disch := omega) only [x_1245, xs, cz_4, Nat.le_refl]
    rfl
  | succ n ih =>
    intro s a l8 hs ha
    have h4 : ¬ 4 ≤ s := by omega
    have hst := m_stepFrom c s h w d hS hO hc (by omega)
    unfold rsF
    rw [x_1245_36]
    by_cases hbt : b.testBit c = true
    · rw [if_pos hbt]
      cases hq : stp w c s with
      | none =>
        obtain ⟨l9, r⟩ := ih (s + 1) a (some (vi (-1))) (by omega) ha
        refine ⟨l9, ?_⟩
        simp only
        rw [← r]
        simp (disch := omega) only [x_1245, xs, cz_4, h4, nl_shr, nl_a1, cz_1, nl_div1, eq_true hbt, hst, hq, oI_n, mm1, nl_or0, nl_inc]
      | some t =>
        have ht := stp_lt hO hq
        have ht2 := p2_lt ht
        obtain ⟨l9, r⟩ := ih (s + 1) (a ||| 2 ^ t) (some (vi (nI t))) (by omega) (or_lt ha ht)
        refine ⟨l9, ?_⟩
        simp only
        rw [← r]
        simp (disch := omega) only [x_1245, xs, cz_4, h4, nl_shr, nl_a1, cz_1, nl_div1, eq_true hbt, hst, hq, oI_s, nl_g0, nl_s1, nl_or, nl_inc]
    · rw [if_neg hbt]
      obtain ⟨l9, r⟩ := ih (s + 1) a (some (vi (-1))) (by omega) ha
      refine ⟨l9, ?_⟩
      rw [← r]
      simp (disch := omega) only [x_1245, xs, cz_4, h4, nl_shr, nl_a1, cz_1, nl_div1, hbt, Bool.false_eq_true, mm1, nl_or0, nl_inc]
theorem m_re_c (d : Nat) (w : Wo) (h : Hp) (hO : WOK d w) (hS : MS h w) (l1 : Option AV) (x2 x4 : Int32) (b : Nat) (hb : b < 2 ^ 30) : ∀ (n c a : Nat) (l7 l8 : Option AV), c + n = w 0 0 * w 0 1 → a < 2 ^ 30 → ∃ l9 l10 : Option AV, run 3 1245 19 [some (vo (some (44, 12, 0))), l1, some (vi x2), some (vi (nI b)), some (vi x4), some (vi (nI a)), some (vi (nI c)), l7, l8] [] h = run 3 1245 96 [some (vo (some (44, 12, 0))), l1, some (vi x2), some (vi (nI b)), some (vi x4), some (vi (nI (rcF w b n c a))), some (vi (nI (w 0 0 * w 0 1))), l9, l10] [] h := by
  have hcc := cells_le hO
  obtain ⟨f0, f1, -⟩ := hS.1
  intro n
  induction n with
  | zero =>
    intro c a l7 l8 hc ha
    have : c = w 0 0 * w 0 1 := by omega
    subst this
    refine ⟨l7, l8, ?_⟩
    rw [x_1245_19]
    simp (disch := omega) only [x_1245, xs, f0, f1, pk_mul, nl_le, Nat.le_refl]
    rfl
  | succ n ih =>
    intro c a l7 l8 hc ha
    have hc2 : ¬ w 0 0 * w 0 1 ≤ c := by omega
    obtain ⟨l9, r⟩ := m_re_i d w h hO hS l1 x2 x4 b c hb (by omega) 4 0 a l8 rfl ha
    obtain ⟨l10, l11, r2⟩ := ih (c + 1) (rsF w b c 4 0 a) (some (vi (nI 4))) l9 (by omega) (rsF_lt hO b c _ _ _ ha)
    refine ⟨l10, l11, ?_⟩
    unfold rcF
    rw [x_1245_19, ← r2]
    have e0 : (some (vi (0 : Int32)) : Option AV) = some (vi (nI 0)) := rfl
    simp (disch := omega) only [x_1245, xs, f0, f1, pk_mul, nl_le, hc2]
    rw [e0, r]
    simp (disch := omega) only [x_1245, xs, nl_inc]
theorem m_re_l (d : Nat) (w : Wo) (h : Hp) (hO : WOK d w) (hS : MS h w) (l1 : Option AV) (N : Nat) (hN : N < 2 ^ 31) : ∀ (n k b : Nat) (l5 l6 l7 l8 : Option AV), k + n = N → b < 2 ^ 30 → run 3 1245 7 [some (vo (some (44, 12, 0))), l1, some (vi (nI N)), some (vi (nI b)), some (vi (nI k)), l5, l6, l7, l8] [] h = some (some (vi (nI (reF w n b))), h) := by
  intro n
  induction n with
  | zero =>
    intro k b l5 l6 l7 l8 hk hb
    have : k = N := by omega
    subst this
    rw [x_1245_7]
    simp (disch := omega) only [x_1245, xs, nl_le, Nat.le_refl]
    rfl
  | succ n ih =>
    intro k b l5 l6 l7 l8 hk hb
    have hk2 : ¬ N ≤ k := by omega
    obtain ⟨l10, l11, r⟩ := m_re_c d w h hO hS l1 (nI N) (nI k) b hb (w 0 0 * w 0 1) 0 b l7 l8 (by omega) hb
    unfold reF
    have hb2 := rcF_lt hO b (w 0 0 * w 0 1) 0 b hb
    have e0 : (some (vi (0 : Int32)) : Option AV) = some (vi (nI 0)) := rfl
    rw [x_1245_7, ← ih (k + 1) _ (some (vi (nI (rcF w b (w 0 0 * w 0 1) 0 b)))) (some (vi (nI (w 0 0 * w 0 1)))) l10 l11 (by omega) hb2]
    simp (disch := omega) only [x_1245, xs, nl_le, hk2]
    rw [e0, r]
    simp (disch := omega) only [x_1245, xs, nl_inc]
theorem m_reachIn (c n d : Nat) (w : Wo) (h : Hp) (hO : WOK d w) (hS : MS h w) (hc : c < 30) (hn : n < 2 ^ 31) : call 1245 [vo (some (44, 12, 0)), vi (nI c), vi (nI n)] h = some (some (vi (nI (reF w n (2 ^ c)))), h) := by
  have := p2_lt hc
  have e0 : (some (vi (0 : Int32)) : Option AV) = some (vi (nI 0)) := rfl
  simp (disch := omega) only [e_1245, x_1245, xs, nl_s1]
  rw [e0]
  exact m_re_l d w h hO hS _ n hn n 0 (2 ^ c) _ _ _ _ (by omega) this
def s_reach (c n : Int32) (σ : St) : Int32 × St := if freI σ.1 c = true then (if n < nI 0 then (-4, rz σ 4) else if nI 30 < n then (-6, rz σ 6) else (nI (reF σ.1 n.toNatClampNeg (2 ^ c.toNatClampNeg)), σ)) else (-1, rz σ 1)
theorem p_reach (c n : Int32) : Mok 1246 [c, n] (s_reach c n) := by
  intro σ h I
  have I2 := IM_th I
  obtain ⟨hW, hS, hG, -⟩ := id I2
  have hf := m_isFree c _ _ _ hS hG.1
  unfold s_reach
  simp only [List.map]
  by_cases h1 : freI σ.1 c = true
  · rw [if_pos h1]
    obtain ⟨k, rfl, hk, hk30⟩ := freI_of hG.1 h1
    have hwd : call 1239 [vi n, vi 0, vi 30] (hsI h 44 12 0) = some (some (vi (wdI n (nI 0) (nI 30))), hsI h 44 12 0) := m_wd n 0 30 _
    rcases wd_3 n 0 30 (by decide) (by decide) with ⟨a, b⟩ | ⟨a, b, c⟩ | ⟨a, b, c, j, rfl, -, hj⟩
    · rw [if_pos a]
      refine ⟨rh (hsI h 44 12 0) 4, ?_, IM_rz (by decide) I2⟩
      simp only [e_1246, x_1246, xs, hf, h1, bI_t, i10, hwd, b, ltm, m_rf4 hW]
    · rw [if_neg a, if_pos b]
      refine ⟨rh (hsI h 44 12 0) 6, ?_, IM_rz (by decide) I2⟩
      simp only [e_1246, x_1246, xs, hf, h1, bI_t, i10, hwd, c, ltm, m_rf6 hW]
    · rw [if_neg a, if_neg b]
      have hr := m_reachIn k j 60 σ.1 _ hG.1 hS hk30 (by omega)
      refine ⟨_, ?_, I2⟩
      simp (disch := omega) only [e_1246, x_1246, xs, hf, h1, bI_t, i10, hwd, c, ltm, hr, cl_n]
  · have h1 := bnt h1
    refine ⟨rh (hsI h 44 12 0) 1, ?_, by rw [h1]; exact IM_rz (by decide) I2⟩
    simp only [e_1246, x_1246, xs, hf, h1, bI_f, i00, ltm, m_rf1 hW, Bool.false_eq_true, if_false]
def s_can (a b : Int32) (σ : St) : Int32 × St := if isT σ.1 a b = true then (nI (reF σ.1 (σ.1 0 4) (2 ^ ago σ.1 b.toNatClampNeg (σ.1 0 4))), σ) else (-1, rz σ 1)
theorem p_can (a b : Int32) : Mok 1247 [a, b] (s_can a b) := by
  intro σ h I
  have I2 := IM_th I
  obtain ⟨hW, hS, hG, -⟩ := id I2
  have k3 := hG.1.2.2.2.1
  have k4 := hG.1.2.2.2.2.1
  obtain ⟨-, -, -, -, f4, f5⟩ := hS.1
  have hp := m_areTwo a b _ _ hS
  unfold s_can
  simp only [List.map]
  by_cases h1 : isT σ.1 a b = true
  · obtain ⟨j, k, rfl, rfl, hj, hk, -⟩ := isT_of k3 h1
    rw [if_pos h1]
    have hwo := m_ago k (σ.1 0 4) _ _ _ hW hS hG.1 (by decide) hk (by omega)
    have hal := ago_lt (k := σ.1 0 4) hG.1 hk
    have hcc := cells_le hG.1
    have hr := m_reachIn (ago σ.1 k (σ.1 0 4)) (σ.1 0 4) 60 σ.1 _ hG.1 hS (by omega) (by omega)
    refine ⟨_, ?_, I2⟩
    simp (disch := omega) only [e_1247, x_1247, xs, hp, h1, bI_t, i10, f4, f5, hwo, hr, cl_n]
  · have h1 := bnt h1
    refine ⟨rh (hsI h 44 12 0) 1, ?_, by rw [h1]; exact IM_rz (by decide) I2⟩
    simp only [e_1247, x_1247, xs, hp, h1, bI_f, i00, m_rf1 hW, Bool.false_eq_true, if_false]
