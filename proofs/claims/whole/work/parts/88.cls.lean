/-! THE CLASS: row, sight, count -/
theorem q_row (x : Int32) : Cok 1121 [x] (s_row x) := by
  rintro σ h ⟨L, nw, sp, I⟩
  obtain ⟨hn, hX, -, -, -, hG, ⟨g1, ⟨g2, g3⟩, ⟨g4, g5⟩, ⟨g6, g7⟩, g8⟩, -⟩ := id I
  have w7 := hX.1.2.2.2.2.2.2.1
  have G6 := hG.2.2.2.2.2
  have h2 : call 1129 [vi x, vi 0, vi 29] h = some (some (vi (wdI x (nI 0) (nI 29))), h) := c_out x (nI 0) (nI 29) h
  unfold s_row
  simp only [List.map]
  rcases wd_3 x 0 29 (by decide) (by decide) with ⟨z1, z2⟩ | ⟨z1, z2, z3⟩ | ⟨z1, z2, z3, z4⟩
  · rw [if_pos (show x < 0 from z1)]
    refine ⟨rc h 4, ?_, ⟨L, nw, sp, IC_rz (by decide) I⟩, cB_e rfl⟩
    simp (disch := omega) only [e_1121, x_1121, xs, ↓reduceIte, h2, z2, ltm, c_rf4 hX]
  · rw [if_neg (show ¬ x < 0 from z1), if_pos (Or.inl (show (29 : Int32) < x from z2))]
    refine ⟨rc h 6, ?_, ⟨L, nw, sp, IC_rz (by decide) I⟩, cB_e rfl⟩
    simp (disch := omega) only [e_1121, x_1121, xs, ↓reduceIte, h2, z3, ltm, c_rf6 hX]
  · rw [if_neg (show ¬ x < 0 from z1)]
    by_cases e : σ.2.2 0 3 = 12
    · rw [if_pos (Or.inr e)]
      have e2 : ¬ σ.2.2 0 3 < 12 := by omega
      refine ⟨rc h 6, ?_, ⟨L, nw, sp, IC_rz (by decide) I⟩, cB_e rfl⟩
      simp (disch := omega) only [e_1121, x_1121, xs, al_n, ↓reduceIte, h2, z3, i00, w7, g6, nl_lt, e2, ltm, c_rf6 hX]
    · rw [if_neg (by rintro (y | y); exact z2 y; exact e y)]
      have e2 : σ.2.2 0 3 < 12 := by omega
      obtain ⟨j, rfl, -, j2⟩ := z4
      rw [cl_n (by omega)]
      generalize hnn : σ.2.2 0 3 = n at *
      have un : ∀ a b, (a ≠ 0 ∨ b ≠ 3) → (a ≠ 4 ∨ b ≠ n) → upw (upw σ.2.2 4 n j) 0 3 (n + 1) a b = σ.2.2 a b := fun a b n1 n2 => by rw [upw_n (by omega), upw_n (by omega)]
      have u1 : upw (upw σ.2.2 4 n j) 0 3 (n + 1) 4 n = j := by rw [upw_n (by omega), upw_e]
      have hq : ∀ a b, (a ≠ 0 ∨ b ≠ 8) → (a ≠ 42 ∨ b ≠ n) → hI (hsI (hsI h 42 n (nI j)) 0 8 (nI (n + 1))) a b = hI h a b := fun a b n1 n2 => by rw [hI_n (by omega), hI_n (by omega)]
      refine ⟨hsI (hsI h 42 n (nI j)) 0 8 (nI (n + 1)), ?_, ⟨L, nw, sp, IC_g (ck_t (ck_I (by unfold yS; omega)) (ck_I (by unfold yS; omega))) I ?_ (un _ _ (by omega) (by omega)) ?_⟩, cB_e rfl⟩
      · have q0 : hI (hsI h 42 n (nI j)) 0 8 = nI n := by rw [hI_n (by omega)]; exact g6
        simp (disch := omega) only [e_1121, x_1121, xs, al_n, ↓reduceIte, h2, z3, i00, w7, g6, nl_lt, eq_true e2, ↓ib_n, cl_n, q0, nl_inc, hI_e]
      · obtain ⟨G1, G2, G3, G4, G5, G6⟩ := hG
        unfold GOK
        simp (disch := omega) only [un, upw_e]
        refine ⟨G1, G2, G3, G4, G5, ⟨by omega, fun i y => ?_⟩⟩
        by_cases ei : i = n
        · subst ei; rw [u1]; omega
        · rw [un _ _ (by omega) (by omega)]; rw [hnn] at G6; exact G6.2 i (by omega)
      · unfold XG
        simp (disch := omega) only [un, upw_e, hq]
        refine ⟨g1, ⟨g2, g3⟩, ⟨g4, g5⟩, ⟨by rw [hI_e], fun i y => ?_⟩, g8⟩
        by_cases ei : i = n
        · subst ei; rw [u1, hI_n (by omega), hI_e]
        · rw [un _ _ (by omega) (by omega), hq _ _ (by omega) (by omega)]; exact g7 i (by omega)
theorem q_sight (x c : Int32) : Cok 1115 [x, c] (s_sight x c) := by
  rintro σ h ⟨L, nw, sp, I⟩
  obtain ⟨hn, hX, -, -, -, hG, ⟨g1, ⟨g2, g3⟩, ⟨g4, g5⟩, ⟨g6, g7⟩, g8⟩, -⟩ := id I
  have w5 := hX.1.2.2.2.2.1
  obtain ⟨w1, w2, -⟩ := hX.2.2.1
  have G5 := hG.2.2.2.2.1
  have h1 := c_nfree c I
  have hf : call 701 [vo (some (33, 7, 0))] h = some (some (vi (bI (decide (σ.2.2 0 2 = 6)))), h) := by
    by_cases e : σ.2.2 0 2 = 6
    · have e2 : ¬ σ.2.2 0 2 < 6 := by omega
      simp (disch := omega) only [e_701, x_701, xs, ↓reduceIte, g4, cz_6, e2, decide_eq_true e]
      rfl
    · have e2 : σ.2.2 0 2 < 6 := by omega
      simp (disch := omega) only [e_701, x_701, xs, ↓reduceIte, g4, cz_6, eq_true e2, decide_eq_false e]
      rfl
  unfold s_sight
  simp only [List.map]
  by_cases e0 : x < 0
  · rw [if_pos e0]
    refine ⟨rc h 4, ?_, ⟨L, nw, sp, IC_rz (by decide) I⟩, cB_e rfl⟩
    simp (disch := omega) only [e_1115, x_1115, xs, ↓reduceIte, cn_0 e0, ltm, c_rf4 hX]
  · rw [if_neg e0]
    obtain ⟨j, hj, rfl⟩ := nI_of e0
    by_cases e1 : freI σ.1 c = true
    · rw [if_pos e1] at h1 ⊢
      obtain ⟨k, rfl, hkf, hk30⟩ := freI_of hG.1 e1
      have q10 : ((10 : Int32) < nI j) = (10 < j) := nl_lt (by decide) hj
      by_cases e2 : (10 : Int32) < nI j ∨ σ.2.2 0 2 = 6
      · rw [if_pos e2]
        refine ⟨rc h 6, ?_, ⟨L, nw, sp, IC_rz (by decide) I⟩, cB_e rfl⟩
        by_cases e3 : (10 : Int32) < nI j
        · simp (disch := omega) only [e_1115, x_1115, xs, ↓reduceIte, nl_g0, h1, i00, eq_true e3, ltm, c_rf6 hX]
        · rw [decide_eq_true (e2.resolve_left e3)] at hf
          simp (disch := omega) only [e_1115, x_1115, xs, ↓reduceIte, nl_g0, h1, i00, e3, w5, hf, bI_t, i10, ltm, c_rf6 hX]
      · rw [if_neg e2]
        have e3 : ¬ (10 : Int32) < nI j := fun z => e2 (Or.inl z)
        have e4 : ¬ σ.2.2 0 2 = 6 := fun z => e2 (Or.inr z)
        rw [decide_eq_false e4] at hf
        have j10 : j ≤ 10 := by rw [q10] at e3; omega
        rw [cl_n (by omega), cl_n (by omega)]
        generalize hnn : σ.2.2 0 2 = n at *
        have un : ∀ a b, (a ≠ 0 ∨ b ≠ 2) → (a ≠ 3 ∨ b ≠ n) → (a ≠ 2 ∨ b ≠ n) → upw (upw (upw σ.2.2 2 n j) 3 n k) 0 2 (n + 1) a b = σ.2.2 a b := fun a b n1 n2 n3 => by rw [upw_n (by omega), upw_n (by omega), upw_n (by omega)]
        have u1 : upw (upw (upw σ.2.2 2 n j) 3 n k) 0 2 (n + 1) 2 n = j := by rw [upw_n (by omega), upw_n (by omega), upw_e]
        have u2 : upw (upw (upw σ.2.2 2 n j) 3 n k) 0 2 (n + 1) 3 n = k := by rw [upw_n (by omega), upw_e]
        have hq : ∀ a b, (a ≠ 33 ∨ b ≠ 0) → (a ≠ 35 ∨ b ≠ n) → (a ≠ 34 ∨ b ≠ n) → hI (hsI (hsI (hsI h 34 n (nI j)) 35 n (nI k)) 33 0 (nI (n + 1))) a b = hI h a b := fun a b n1 n2 n3 => by rw [hI_n (by omega), hI_n (by omega), hI_n (by omega)]
        refine ⟨hsI (hsI (hsI h 34 n (nI j)) 35 n (nI k)) 33 0 (nI (n + 1)), ?_, ⟨L, nw, sp, IC_g (ck_t (ck_t (ck_I (by unfold yS; omega)) (ck_I (by unfold yS; omega))) (ck_I (by unfold yS; omega))) I ?_ (un _ _ (by omega) (by omega) (by omega)) ?_⟩, cB_e rfl⟩
        · have q0 : hI (hsI h 34 n (nI j)) 33 0 = nI n := by rw [hI_n (by omega)]; exact g4
          have q1 : hI (hsI (hsI h 34 n (nI j)) 35 n (nI k)) 33 0 = nI n := by rw [hI_n (by omega)]; exact q0
          have h3 : call 702 [vo (some (33, 7, 0)), vi (nI j), vi (nI k)] h = some (some (vi (nI (n + 1))), hsI (hsI (hsI h 34 n (nI j)) 35 n (nI k)) 33 0 (nI (n + 1))) := by
            simp (disch := omega) only [e_702, x_702, xs, ↓reduceIte, hf, bI_f, i00, hR_s, w1, w2, g4, ↓ib_n, cl_n, q0, q1, nl_inc, hI_e]
          simp (disch := omega) only [e_1115, x_1115, xs, ↓reduceIte, nl_g0, h1, i00, e3, w5, hf, bI_f, h3]
        · obtain ⟨G1, G2, G3, G4, G5, G6⟩ := hG
          unfold GOK
          simp (disch := omega) only [un, upw_e]
          refine ⟨G1, G2, G3, G4, ⟨by omega, fun i y => ?_⟩, G6⟩
          by_cases ei : i = n
          · subst ei; rw [u1, u2]; omega
          · rw [un _ _ (by omega) (by omega) (by omega), un _ _ (by omega) (by omega) (by omega)]; rw [hnn] at G5; exact G5.2 i (by omega)
        · unfold XG
          simp (disch := omega) only [un, upw_e, hq]
          refine ⟨g1, ⟨g2, g3⟩, ⟨by rw [hI_e], fun i y => ?_⟩, ⟨g6, g7⟩, g8⟩
          by_cases ei : i = n
          · subst ei; rw [u1, u2]; exact ⟨by rw [hI_n (by omega), hI_n (by omega), hI_e], by rw [hI_n (by omega), hI_e]⟩
          · rw [un _ _ (by omega) (by omega) (by omega), un _ _ (by omega) (by omega) (by omega), hq _ _ (by omega) (by omega) (by omega), hq _ _ (by omega) (by omega) (by omega)]; exact g5 i (by omega)
    · rw [if_neg e1] at h1 ⊢
      refine ⟨rc h 1, ?_, ⟨L, nw, sp, IC_rz (by decide) I⟩, cB_e rfl⟩
      simp (disch := omega) only [e_1115, x_1115, xs, ↓reduceIte, nl_g0, h1, ltm, c_rf1 hX]
theorem tb_2 (x k : Nat) : x / 2 ^ k % 2 = if x.testBit k = true then 1 else 0 := by
  by_cases e : x.testBit k = true
  · rw [if_pos e]; rw [← nl_div1] at e; exact e
  · rw [if_neg e]
    have : ¬ x / 2 ^ k % 2 = 1 := by rw [nl_div1]; exact e
    omega
theorem pop_c {w : Wo} {d : Nat} (hk : WOK d w) : ∀ n k a b, k + n = 30 → pcF (frB w) n k a + pcF (w 0 2) n k b = a + b + (w 0 0 * w 0 1 - k) := by
  have cc := cells_le hk
  intro n
  induction n with
  | zero => intro k a b h; unfold pcF; omega
  | succ n ih =>
    intro k a b h
    unfold pcF
    rw [ih (k + 1) _ _ (by omega), tb_2, tb_2, frB_t]
    unfold fre
    by_cases e : k < w 0 0 * w 0 1
    · rw [decide_eq_true e]
      cases q : (w 0 2).testBit k with
      | true => simp; omega
      | false => simp; omega
    · rw [decide_eq_false e]
      have q : (w 0 2).testBit k = false := Nat.testBit_lt_two_pow (Nat.lt_of_lt_of_le hk.2.2.1 (Nat.pow_le_pow_right (by decide) (by omega)))
      rw [q]
      simp
      omega
theorem pop_h {w : Wo} {d : Nat} (hk : WOK d w) : pop (frB w) + pop (w 0 2) = w 0 0 * w 0 1 := by
  have := pop_c hk 30 0 0 0 rfl
  unfold pop
  omega
theorem q_count (x : Int32) : Cok 1126 [x] (s_count x) := by
  rintro σ h ⟨L, nw, sp, I⟩
  obtain ⟨hn, hX, -, ⟨hw, ht⟩, -, hG, ⟨g1, ⟨g2, g3⟩, ⟨g4, g5⟩, ⟨g6, g7⟩, g8⟩, -⟩ := id I
  obtain ⟨mo, m1, m2, -⟩ := hw.1
  obtain ⟨f0, f1, f2, f3⟩ := m2.2.1
  obtain ⟨v1, v3⟩ := hw.2.1
  have w0 := hX.1.1
  have w4 := hX.1.2.2.2.1
  have w5 := hX.1.2.2.2.2.1
  have w9 := hX.1.2.2.2.2.2.2.2
  have fl := frB_lt hG.1
  have cc := cells_le hG.1
  have hb := c_bits (h := h) fl
  have ph := pop_h hG.1
  have e3 : nI (σ.1 0 0 * σ.1 0 1) - nI (pop (frB σ.1)) = nI (pop (σ.1 0 2)) := by rw [pk_sub (by omega)]; congr 1; omega
  have h5 : call 505 [vo (some (mo, 5, 0))] h = some (some (vi (nI (pop (σ.1 0 2)))), h) := by
    simp (disch := omega) only [e_505, x_505, xs, f2, f3, hb, e3]
  refine ⟨h, ?_, ⟨L, nw, sp, I⟩, cB_e rfl⟩
  unfold s_count
  simp only [List.map]
  by_cases c0 : x = 0
  · simp only [if_pos c0, e_1126, x_1126, xs, ↓reduceIte, eq_true c0, w0, m1, f0]
  by_cases c1 : x = 1
  · simp only [if_neg c0, if_pos c1, e_1126, x_1126, xs, ↓reduceIte, c0, eq_true c1, w0, m1, f1]
  by_cases c2 : x = 2
  · simp only [if_neg c0, if_neg c1, if_pos c2, e_1126, x_1126, xs, ↓reduceIte, c0, c1, eq_true c2, w0, v3]
  by_cases c3 : x = 3
  · simp only [if_neg c0, if_neg c1, if_neg c2, if_pos c3, e_1126, x_1126, xs, ↓reduceIte, c0, c1, c2, eq_true c3, w0, m1, h5]
  by_cases c4 : x = 4
  · simp only [if_neg c0, if_neg c1, if_neg c2, if_neg c3, if_pos c4, e_1126, x_1126, xs, ↓reduceIte, c0, c1, c2, c3, eq_true c4, w0, ht]
  by_cases c5 : x = 5
  · simp only [if_neg c0, if_neg c1, if_neg c2, if_neg c3, if_neg c4, if_pos c5, e_1126, x_1126, xs, ↓reduceIte, c0, c1, c2, c3, c4, eq_true c5, w0, v1]
  by_cases c6 : x = 6
  · simp only [if_neg c0, if_neg c1, if_neg c2, if_neg c3, if_neg c4, if_neg c5, if_pos c6, e_1126, x_1126, xs, ↓reduceIte, c0, c1, c2, c3, c4, c5, eq_true c6, w5, g4]
  by_cases c7 : x = 7
  · simp only [if_neg c0, if_neg c1, if_neg c2, if_neg c3, if_neg c4, if_neg c5, if_neg c6, if_pos c7, e_1126, x_1126, xs, ↓reduceIte, c0, c1, c2, c3, c4, c5, c6, eq_true c7, w4, g2]
  by_cases c8 : x = 8
  · simp only [if_neg c0, if_neg c1, if_neg c2, if_neg c3, if_neg c4, if_neg c5, if_neg c6, if_neg c7, if_pos c8, e_1126, x_1126, xs, ↓reduceIte, c0, c1, c2, c3, c4, c5, c6, c7, eq_true c8, g6]
  have h6 : call 1127 [vo (some (0, 11, 0)), vi x] h = some (some (vi (if 11 ≤ x ∧ x ≤ 16 then nI (σ.2.2 5 (x - 10).toNatClampNeg) else -9)), h) := by
    by_cases a : x < 0
    · have q : ¬ (11 ≤ x ∧ x ≤ 16) := fun z => by
        have := (cn_11 a).1
        rw [this] at z
        exact z.1
      rw [if_neg q]
      have q2 : (x ≤ 10) = True := (cn_10 a).2.1
      simp (disch := omega) only [e_1127, x_1127, xs, ↓reduceIte, q2]
    · obtain ⟨k, hk, rfl⟩ := nI_of a
      have q1 : ((11 : Int32) ≤ nI k) = (11 ≤ k) := (cz_11 hk).1
      have q2 : (nI k ≤ 16) = (k ≤ 16) := (cz_16 hk).2.1
      have q3 : (nI k ≤ 10) = (k ≤ 10) := (cz_10 hk).2.1
      simp only [q1, q2]
      by_cases b : 11 ≤ k ∧ k ≤ 16
      · rw [if_pos b]
        have e1 : ¬ k ≤ 10 := by omega
        have e2 : nI k - 10 = nI (k - 10) := by rw [show (10 : Int32) = nI 10 from rfl, pk_sub (by omega)]
        rw [e2, cl_n (by omega)]
        have g := g8 (k - 10) (by omega)
        simp (disch := omega) only [e_1127, x_1127, xs, ↓reduceIte, q2, q3, e1, eq_true b.2, w9, e2, ↓ib_n, cl_n, g]
      · rw [if_neg b]
        by_cases e1 : k ≤ 10
        · simp (disch := omega) only [e_1127, x_1127, xs, ↓reduceIte, q3, eq_true e1]
        · have e2 : ¬ k ≤ 16 := fun z => b ⟨by omega, z⟩
          simp (disch := omega) only [e_1127, x_1127, xs, ↓reduceIte, q2, q3, e1, e2]
  simp only [if_neg c0, if_neg c1, if_neg c2, if_neg c3, if_neg c4, if_neg c5, if_neg c6, if_neg c7, if_neg c8, e_1126, x_1126, xs, ↓reduceIte, c0, c1, c2, c3, c4, c5, c6, c7, c8, h6]
