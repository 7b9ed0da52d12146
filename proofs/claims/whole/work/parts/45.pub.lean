/-! THE REFERENCE: sight, forget, count, reach, can -/
def s_forget (σ : St) : Int32 × St := (nI (σ.2.2 0 2), (σ.1, σ.2.1, upw σ.2.2 0 2 0))
theorem p_forget : Mok 1256 [] s_forget := by
  intro σ h I
  have I2 := IM_th I
  obtain ⟨hW, hS, ⟨G1, G2, G3, G4, G5, G6⟩, hi, g1, ⟨g2, g3⟩, ⟨g4, g5⟩, ⟨g6, g7⟩, g8⟩ := id I2
  unfold s_forget
  simp only [List.map]
  have ne : ∀ i j, (i ≠ 44 ∨ j ≠ 36) → hI (hsI (hsI h 44 12 0) 44 36 0) i j = hI (hsI h 44 12 0) i j := fun i j n => hI_n (by omega)
  have un : ∀ a b, (a ≠ 0 ∨ b ≠ 2) → upw σ.2.2 0 2 0 a b = σ.2.2 a b := fun a b n => upw_n (by omega)
  refine ⟨hsI (hsI h 44 12 0) 44 36 0, ?_, IM_g (kp_I (Or.inl ⟨rfl, by omega⟩)) I2 ?_ (fun h1 => ?_) ?_⟩
  · simp only [e_1256, x_1256, xs, g4]
  · unfold GOK
    simp (disch := omega) only [un, upw_e]
    exact ⟨G1, G2, G3, G4, ⟨by omega, fun i hi => absurd hi (by omega)⟩, G6⟩
  · rw [un _ _ (by omega)] at h1
    exact MSi_c (by decide) (G3 h1) (hi h1) (fun j => ne _ _ (by omega))
  · unfold MG
    simp (disch := omega) only [un, ne, upw_e, hI_e]
    exact ⟨g1, ⟨g2, g3⟩, ⟨rfl, fun i hi => absurd hi (by omega)⟩, ⟨g6, g7⟩, g8⟩
def s_sight (x c : Int32) (σ : St) : Int32 × St := if x < 0 then (-4, rz σ 4) else if freI σ.1 c = true then (if 10 < x ∨ σ.2.2 0 2 = 6 then (-6, rz σ 6) else (nI (σ.2.2 0 2 + 1), (σ.1, σ.2.1, upw (upw (upw σ.2.2 2 (σ.2.2 0 2) x.toNatClampNeg) 3 (σ.2.2 0 2) c.toNatClampNeg) 0 2 (σ.2.2 0 2 + 1)))) else (-1, rz σ 1)
theorem p_sight (x c : Int32) : Mok 1252 [x, c] (s_sight x c) := by
  intro σ h I
  have I2 := IM_th I
  obtain ⟨hW, hS, ⟨G1, G2, G3, G4, G5, G6⟩, hi, g1, ⟨g2, g3⟩, ⟨g4, g5⟩, ⟨g6, g7⟩, g8⟩ := id I2
  have hf := m_isFree c _ _ _ hS G1
  unfold s_sight
  simp only [List.map]
  by_cases h0 : x < 0
  · rw [if_pos h0]
    refine ⟨rh (hsI h 44 12 0) 4, ?_, IM_rz (by decide) I2⟩
    simp only [e_1252, x_1252, xs, cn_0 h0, ltm, m_rf4 hW]
  rw [if_neg h0]
  obtain ⟨j, hj, rfl⟩ := nI_of h0
  by_cases hfr : freI σ.1 c = true
  · rw [if_pos hfr]
    obtain ⟨k, rfl, hk, hk30⟩ := freI_of G1 hfr
    by_cases h1 : 10 < nI j ∨ σ.2.2 0 2 = 6
    · rw [if_pos h1]
      refine ⟨rh (hsI h 44 12 0) 6, ?_, IM_rz (by decide) I2⟩
      rw [(cz_10 hj).2.2.1] at h1
      simp (disch := omega) only [e_1252, x_1252, xs, nl_g0, hf, hfr, bI_t, i10, cz_10, g4, cz_6, ltm, m_rf6 hW]
      rcases h1 with h1 | h1
      · rw [if_pos h1]
      · split
        · rfl
        · first | rfl | rw [if_pos h1]
    · rw [if_neg h1]
      rw [(cz_10 hj).2.2.1] at h1
      have h2 : ¬ 10 < j := fun z => h1 (Or.inl z)
      have h3 : ¬ σ.2.2 0 2 = 6 := fun z => h1 (Or.inr z)
      have w34 : hR (hsI h 44 12 0) 44 34 = some (64, 13, 6) := hW.2.2.2.2.2.2.2.2.2.2.2.2.2.2.2.2.2.2.2.1
      have w35 : hR (hsI (hsI h 44 12 0) 64 (σ.2.2 0 2) (nI j)) 44 35 = some (65, 13, 6) := hW.2.2.2.2.2.2.2.2.2.2.2.2.2.2.2.2.2.2.2.2.1
      have q1 : hI (hsI (hsI h 44 12 0) 64 (σ.2.2 0 2) (nI j)) 44 36 = nI (σ.2.2 0 2) := by rw [hI_n (by omega)]; exact g4
      have q2 : hI (hsI (hsI (hsI h 44 12 0) 64 (σ.2.2 0 2) (nI j)) 65 (σ.2.2 0 2) (nI k)) 44 36 = nI (σ.2.2 0 2) := by rw [hI_n (by omega)]; exact q1
      simp only [cl_n hj, cl_n (show k < 2 ^ 31 by omega)]
      refine ⟨hsI (hsI (hsI (hsI h 44 12 0) 64 (σ.2.2 0 2) (nI j)) 65 (σ.2.2 0 2) (nI k)) 44 36 (nI (σ.2.2 0 2 + 1)), ?_, IM_g (kp_t (kp_I (Or.inr (by omega))) (kp_t (kp_I (Or.inr (by omega))) (kp_I (Or.inl (by omega))))) I2 ?_ (fun z => ?_) ?_⟩
      · simp (disch := omega) only [e_1252, x_1252, xs, nl_g0, hf, hfr, bI_t, i10, cz_10, h2, g4, cz_6, h3, ltm, w34, w35, ↓ib_n, cl_n, q1, q2, nl_inc, hI_e]
      · have un : ∀ a b, ¬ (a = 0 ∧ b = 2) → a ≠ 2 → a ≠ 3 → upw (upw (upw σ.2.2 2 (σ.2.2 0 2) j) 3 (σ.2.2 0 2) k) 0 2 (σ.2.2 0 2 + 1) a b = σ.2.2 a b := fun a b n1 n2 n3 => by rw [upw_n (by omega), upw_n (by omega), upw_n (by omega)]
        unfold GOK
        simp (disch := omega) only [un, upw_e]
        refine ⟨G1, G2, G3, G4, ⟨by omega, fun i hi => ?_⟩, G6⟩
        have u2 : ∀ b, upw (upw (upw σ.2.2 2 (σ.2.2 0 2) j) 3 (σ.2.2 0 2) k) 0 2 (σ.2.2 0 2 + 1) 2 b = if b = σ.2.2 0 2 then j else σ.2.2 2 b := fun b => by rw [upw_n (by omega), upw_n (by omega)]; simp [upw]
        have u3 : ∀ b, upw (upw (upw σ.2.2 2 (σ.2.2 0 2) j) 3 (σ.2.2 0 2) k) 0 2 (σ.2.2 0 2 + 1) 3 b = if b = σ.2.2 0 2 then k else σ.2.2 3 b := fun b => by rw [upw_n (by omega)]; simp [upw]
        rw [u2, u3]
        by_cases e : i = σ.2.2 0 2
        · rw [if_pos e, if_pos e]; omega
        · rw [if_neg e, if_neg e]; exact G5.2 i (by omega)
      · rw [upw_n (by omega), upw_n (by omega), upw_n (by omega)] at z
        exact MSi_c (by decide) (G3 z) (hi z) (fun k => by rw [hI_n (by omega), hI_n (by omega), hI_n (by omega)])
      · have un : ∀ a b, ¬ (a = 0 ∧ b = 2) → a ≠ 2 → a ≠ 3 → upw (upw (upw σ.2.2 2 (σ.2.2 0 2) j) 3 (σ.2.2 0 2) k) 0 2 (σ.2.2 0 2 + 1) a b = σ.2.2 a b := fun a b n1 n2 n3 => by rw [upw_n (by omega), upw_n (by omega), upw_n (by omega)]
        have ne : ∀ i l, ¬ (i = 44 ∧ l = 36) → i ≠ 64 → i ≠ 65 → hI (hsI (hsI (hsI (hsI h 44 12 0) 64 (σ.2.2 0 2) (nI j)) 65 (σ.2.2 0 2) (nI k)) 44 36 (nI (σ.2.2 0 2 + 1))) i l = hI (hsI h 44 12 0) i l := fun i l n1 n2 n3 => by rw [hI_n (by omega), hI_n (by omega), hI_n (by omega)]
        unfold MG
        simp (disch := omega) only [un, upw_e, ne, hI_e]
        refine ⟨g1, ⟨g2, g3⟩, ⟨by trivial, fun i hi => ?_⟩, ⟨g6, g7⟩, g8⟩
        have u2 : ∀ b, upw (upw (upw σ.2.2 2 (σ.2.2 0 2) j) 3 (σ.2.2 0 2) k) 0 2 (σ.2.2 0 2 + 1) 2 b = if b = σ.2.2 0 2 then j else σ.2.2 2 b := fun b => by rw [upw_n (by omega), upw_n (by omega)]; simp [upw]
        have u3 : ∀ b, upw (upw (upw σ.2.2 2 (σ.2.2 0 2) j) 3 (σ.2.2 0 2) k) 0 2 (σ.2.2 0 2 + 1) 3 b = if b = σ.2.2 0 2 then k else σ.2.2 3 b := fun b => by rw [upw_n (by omega)]; simp [upw]
        have v2 : ∀ b, hI (hsI (hsI (hsI (hsI h 44 12 0) 64 (σ.2.2 0 2) (nI j)) 65 (σ.2.2 0 2) (nI k)) 44 36 (nI (σ.2.2 0 2 + 1))) 64 b = if b = σ.2.2 0 2 then nI j else hI (hsI h 44 12 0) 64 b := fun b => by rw [hI_n (by omega), hI_n (by omega), hI_s]; simp
        have v3 : ∀ b, hI (hsI (hsI (hsI (hsI h 44 12 0) 64 (σ.2.2 0 2) (nI j)) 65 (σ.2.2 0 2) (nI k)) 44 36 (nI (σ.2.2 0 2 + 1))) 65 b = if b = σ.2.2 0 2 then nI k else hI (hsI h 44 12 0) 65 b := fun b => by rw [hI_n (by omega), hI_s]; simp [hI_n]
        rw [u2, u3, v2, v3]
        by_cases e : i = σ.2.2 0 2
        · rw [if_pos e, if_pos e, if_pos e, if_pos e]; exact ⟨rfl, rfl⟩
        · rw [if_neg e, if_neg e, if_neg e, if_neg e]; exact g5 i (by omega)
  · have hfr := bnt hfr
    refine ⟨rh (hsI h 44 12 0) 1, ?_, by rw [hfr]; exact IM_rz (by decide) I2⟩
    simp (disch := omega) only [e_1252, x_1252, xs, nl_g0, hf, hfr, bI_f, i00, i01, ltm, m_rf1 hW, Bool.false_eq_true, if_false]
/-- ones of a number of 30 bits -/
def pcF (b : Nat) : Nat → Nat → Nat → Nat
  | 0, _, a => a
  | n + 1, k, a => pcF b n (k + 1) (a + b / 2 ^ k % 2)
def pop (b : Nat) : Nat := pcF b 30 0 0
theorem m_ones_l (b : Nat) (hb : b < 2 ^ 31) (h : Hp) : ∀ (n k a : Nat), k + n = 30 → run 0 1266 4 [some (vi (nI b)), some (vi (nI a)), some (vi (nI k))] [] h = some (some (vi (nI (pcF b n k a))), h) := by
  intro n
  induction n with
  | zero =>
    intro k a hk
    have : k = 30 := by omega
    subst this
    rw [x_1266_4]
    simp (disch := omega) only [x_1266, xs, cz_30, Nat.le_refl]
    rfl
  | succ n ih =>
    intro k a hk
    have h30 : ¬ 30 ≤ k := by omega
    have hd : b / 2 ^ k < 2 ^ 31 := Nat.lt_of_le_of_lt (Nat.div_le_self _ _) hb
    rw [x_1266_4]
    unfold pcF
    rw [← ih (k + 1) _ (by omega)]
    simp (disch := omega) only [x_1266, xs, cz_30, h30, nl_shr, nl_a1, nI_add, nl_inc]
theorem m_ones (b : Nat) (hb : b < 2 ^ 31) (h : Hp) : call 1266 [vi (nI b)] h = some (some (vi (nI (pop b))), h) := by
  simp only [e_1266, x_1266, xs]
  exact m_ones_l b hb h 30 0 0 rfl
def s_count (x : Int32) (σ : St) : Int32 × St := (if x = 0 then nI (σ.1 0 0) else if x = 1 then nI (σ.1 0 1) else if x = 2 then nI (σ.1 0 3) else if x = 3 then nI (pop (σ.1 0 2)) else if x = 4 then nI (σ.1 0 5) else if x = 5 then nI (σ.1 0 4) else if x = 6 then nI (σ.2.2 0 2) else if x = 7 then nI (σ.2.2 0 1) else if x = 8 then nI (σ.2.2 0 3) else if 11 ≤ x ∧ x ≤ 16 then nI (σ.2.2 5 (x - 10).toNatClampNeg) else -9, σ)
theorem p_count (x : Int32) : Mok 1267 [x] (s_count x) := by
  intro σ h I
  have I2 := IM_th I
  obtain ⟨hW, hS, ⟨G1, G2, G3, G4, G5, G6⟩, hi, g1, ⟨g2, g3⟩, ⟨g4, g5⟩, ⟨g6, g7⟩, g8⟩ := id I2
  obtain ⟨f0, f1, f2, f3, f4, f5⟩ := hS.1
  have hh := hills_lt G1
  have w13 : hR (hsI h 44 12 0) 44 13 = some (51, 13, 7) := hW.2.2.2.2.2.2.1
  unfold s_count
  simp only [List.map]
  refine ⟨hsI h 44 12 0, ?_, I2⟩
  have hon := m_ones (σ.1 0 2) (by omega) (hsI h 44 12 0)
  by_cases hx : 11 ≤ x ∧ x ≤ 16
  · have : ∃ k, x = nI k ∧ 11 ≤ k ∧ k ≤ 16 := by
      obtain ⟨j, hj, rfl⟩ := nI_of (x := x) (fun z => by have := hx.1; rw [(cn_11 z).1] at this; exact this)
      have a := hx.1
      have b := hx.2
      rw [(cz_11 hj).1] at a
      rw [(cz_16 hj).2.1] at b
      exact ⟨j, rfl, a, b⟩
    obtain ⟨k, rfl, k1, k2⟩ := this
    have e10 : nI k - 10 = nI (k - 10) := by rw [show (10 : Int32) = nI 10 from rfl, pk_sub (by omega)]
    have g9 := g8 (k - 10) (by omega)
    have n0 : ¬ k = 0 := by omega
    have n1 : ¬ k = 1 := by omega
    have n2 : ¬ k = 2 := by omega
    have n3 : ¬ k = 3 := by omega
    have n4 : ¬ k = 4 := by omega
    have n5 : ¬ k = 5 := by omega
    have n6 : ¬ k = 6 := by omega
    have n7 : ¬ k = 7 := by omega
    have n8 : ¬ k = 8 := by omega
    have z7 : (nI k = 7) = (k = 7) := nl_eq (by omega) (by decide)
    simp (disch := omega) only [e_1267, x_1267, xs, nl_e0, cz_1, cz_2, cz_3, cz_4, cz_5, cz_6, z7, cz_8, n0, n1, n2, n3, n4, n5, n6, n7, n8, m_in16, hx, and_self, decide_true, bI_t, i10, w13, e10, ↓ib_n, cl_n, g9]
  · simp only [e_1267, x_1267, xs, m_in16, hx, decide_false, bI_f, i00, f0, f1, f2, f3, f4, f5, g2, g4, g6, hon]
    repeat' split
    all_goals rfl
