/-! THE REFERENCE: image, restore, feed, row, sight, forget, count -/
theorem MSg_d {f k g m q c t f2 k2 g2 m2 q2 c2 t2 : Nat → Int32} {w : Wo} {d : Nat} (hk : WOK d w) (hd : d ≤ 129) (h : MSg f k g m q c t w) (hf : ∀ j, j < 6 → f2 j = f j) (hp : ∀ p, p < 5 → k2 p = k p ∧ g2 p = g p ∧ m2 p = m p ∧ c2 p = c p) (hq : ∀ i, i < 30 → q2 i = q i) (ht : ∀ j, j < 650 → t2 j = t j) : MSg f2 k2 g2 m2 q2 c2 t2 w := by
  obtain ⟨⟨f0, f1, f2, f3, f4, f5⟩, hpp⟩ := h
  have k3 := hk.2.2.2.1
  have k5 := hk.2.2.2.2.2.1
  refine ⟨⟨by rw [hf 0 (by decide)]; exact f0, by rw [hf 1 (by decide)]; exact f1, by rw [hf 2 (by decide)]; exact f2, by rw [hf 3 (by decide)]; exact f3, by rw [hf 4 (by decide)]; exact f4, by rw [hf 5 (by decide)]; exact f5⟩, fun p h3 => ?_⟩
  obtain ⟨g1, g2, g3, g4, g5, g6⟩ := hpp p h3
  obtain ⟨e1, e2, e3, e4⟩ := hp p (by omega)
  have c3 := (hk.2.2.2.2.2.2 p h3).2.2.1
  exact ⟨e1.trans g1, e2.trans g2, e3.trans g3, e4.trans g4, fun i hi => (hq _ (by omega)).trans (g5 i hi), fun j a b => (ht _ (by omega)).trans (g6 j a b)⟩
theorem fld_0 {n : Nat} (h : n < 6) : fld n = (44, n) := by unfold fld; rw [if_pos h]
theorem fld_1 {p : Nat} (h : p < 5) : fld (6 + 4 * p) = (45, p) ∧ fld (7 + 4 * p) = (46, p) ∧ fld (8 + 4 * p) = (47, p) ∧ fld (9 + 4 * p) = (49, p) := by
  refine ⟨?_, ?_, ?_, ?_⟩
  · unfold fld; rw [if_neg (by omega), if_pos (by omega), if_pos (by omega)]; congr 1; omega
  · unfold fld; rw [if_neg (by omega), if_pos (by omega), if_neg (by omega), if_pos (by omega)]; congr 1; omega
  · unfold fld; rw [if_neg (by omega), if_pos (by omega), if_neg (by omega), if_neg (by omega), if_pos (by omega)]; congr 1; omega
  · unfold fld; rw [if_neg (by omega), if_pos (by omega), if_neg (by omega), if_neg (by omega), if_neg (by omega)]; congr 1; omega
theorem fld_2 {i : Nat} (h : i < 30) : fld (26 + i) = (48, i) := by unfold fld; rw [if_neg (by omega), if_neg (by omega), if_pos (by omega)]; congr 1; omega
theorem fld_3 (i : Nat) : fld (56 + i) = (50, i) := by unfold fld; rw [if_neg (by omega), if_neg (by omega), if_neg (by omega)]; congr 1; omega
theorem CI_a {b : Bool} {a n : Nat} {h h2 : Hp} (I : CI b a h 706 h2) (hn : n < 706) (c s : Nat) (e : fld n = (c, s)) : hI h2 a n = hI h2 c s := by
  have := I.2.2.2.2.2.1 n hn
  rw [e] at this
  exact this
/-- what was carried away holds the world -/
theorem CI_t {a d : Nat} {h h2 : Hp} {w : Wo} (ha : 50 < a) (I : CI true a h 706 h2) (hk : WOK d w) (hd : d ≤ 129) (hS : MS h w) : MSi h2 a w ∧ ∀ i j, i ≠ a → (i ≠ 44 ∨ (j ≠ 17 ∧ j ≠ 18)) → hI h2 i j = hI h i j := by
  have un : ∀ i j, i ≠ a → (i ≠ 44 ∨ (j ≠ 17 ∧ j ≠ 18)) → hI h2 i j = hI h i j := fun i j n1 n2 => I.2.2.2.2.2.2 i j (by omega) (fun _ => Or.inl n1) (fun z => by cases z)
  have g : ∀ n c s, n < 706 → fld n = (c, s) → (c ≠ a) → (c ≠ 44 ∨ (s ≠ 17 ∧ s ≠ 18)) → hI h2 a n = hI h c s := fun n c s hn e n1 n2 => (CI_a I hn c s e).trans (un c s n1 n2)
  refine ⟨MSg_d hk hd hS (fun j hj => g _ _ _ (by omega) (fld_0 hj) (by omega) (by omega)) (fun p hp => ⟨g _ _ _ (by omega) (fld_1 hp).1 (by omega) (by omega), g _ _ _ (by omega) (fld_1 hp).2.1 (by omega) (by omega), g _ _ _ (by omega) (fld_1 hp).2.2.1 (by omega) (by omega), g _ _ _ (by omega) (fld_1 hp).2.2.2 (by omega) (by omega)⟩) (fun i hi => g _ _ _ (by omega) (fld_2 hi) (by omega) (by omega)) (fun j hj => g _ _ _ (by omega) (fld_3 j) (by omega) (by omega)), un⟩
/-- what is carried back -/
theorem CI_f {a d : Nat} {h h2 : Hp} {w : Wo} (ha : 50 < a) (I : CI false a h 706 h2) (hk : WOK d w) (hd : d ≤ 129) (hS : MSi h a w) : MS h2 w ∧ ∀ i j, (i < 44 ∨ 50 < i ∨ (i = 44 ∧ 5 < j ∧ j ≠ 17 ∧ j ≠ 18)) → hI h2 i j = hI h i j := by
  have un : ∀ i j, (i < 44 ∨ 50 < i ∨ (i = 44 ∧ 5 < j ∧ j ≠ 17 ∧ j ≠ 18)) → hI h2 i j = hI h i j := fun i j n => I.2.2.2.2.2.2 i j (by omega) (fun z => by cases z) (fun _ k hk z => by have := fld_c k; omega)
  have g : ∀ n c s, n < 706 → fld n = (c, s) → hI h2 c s = hI h a n := fun n c s hn e => (CI_a I hn c s e).symm.trans (un a n (by omega))
  refine ⟨MSg_d hk hd hS (fun j hj => g _ _ _ (by omega) (fld_0 hj)) (fun p hp => ⟨g _ _ _ (by omega) (fld_1 hp).1, g _ _ _ (by omega) (fld_1 hp).2.1, g _ _ _ (by omega) (fld_1 hp).2.2.1, g _ _ _ (by omega) (fld_1 hp).2.2.2⟩) (fun i hi => g _ _ _ (by omega) (fld_2 hi)) (fun j hj => g _ _ _ (by omega) (fld_3 j)), un⟩
def s_image (σ : St) : Int32 × St := (nI (σ.1 0 5), (σ.1, σ.1, upw σ.2.2 0 0 1))
theorem p_image : Mok 1221 [] s_image := by
  intro σ h I
  have I2 := IM_th I
  obtain ⟨hW, hS, ⟨G1, G2, G3, G4, G5, G6⟩, hi, g1, ⟨g2, g3⟩, ⟨g4, g5⟩, ⟨g6, g7⟩, g8⟩ := id I2
  unfold s_image
  simp only [List.map]
  have k5 := G1.2.2.2.2.2.1
  have hS1 : MS (hsI (hsI h 44 12 0) 44 16 1) σ.1 := MSg_c hS (by omega) (fun j hj => hI_n (by omega)) (fun p _ => ⟨hI_n (by omega), hI_n (by omega), hI_n (by omega), hI_n (by omega)⟩) (fun i => hI_n (by omega)) (fun p j _ => hI_n (by omega))
  obtain ⟨h2, c1, c2⟩ := m_carryAll true 53 (hsI (hsI h 44 12 0) 44 16 1) (by decide) hW
  obtain ⟨m1, m2⟩ := CI_t (by decide) c2 G1 (by decide) hS1
  have w15 : hR (hsI (hsI h 44 12 0) 44 16 1) 44 15 = some (53, 13, 706) := hW.2.2.2.2.2.2.2.2.1
  have f5 : hI h2 44 5 = nI (σ.1 0 5) := by rw [m2 _ _ (by omega) (by omega)]; exact hS1.1.2.2.2.2.2
  have m3 : ∀ i j, i ≠ 53 → (i ≠ 44 ∨ (j ≠ 17 ∧ j ≠ 18 ∧ j ≠ 16)) → hI h2 i j = hI (hsI h 44 12 0) i j := fun i j n1 n2 => (m2 i j n1 (by omega)).trans (hI_n (by omega))
  refine ⟨h2, ?_, IM_g (σ := σ) (h := hsI h 44 12 0) ⟨c2.1, c2.2.1, fun i j n => m3 i j (fun z => n (by unfold gS; omega)) (by unfold gS at n; omega)⟩ I2 ?_ (fun _ => m1) ?_⟩
  · have c1' : call 1220 [vo (some (44, 12, 0)), vo (some (53, 13, 706)), vi 1] (hsI (hsI h 44 12 0) 44 16 1) = some (none, h2) := c1
    simp only [e_1221, x_1221, xs, w15, c1', f5]
  · have un : ∀ a b, (a ≠ 0 ∨ b ≠ 0) → upw σ.2.2 0 0 1 a b = σ.2.2 a b := fun a b n => upw_n (by omega)
    unfold GOK
    simp (disch := omega) only [un, upw_e]
    exact ⟨G1, by omega, fun _ => G1, G4, G5, G6⟩
  · have un : ∀ a b, (a ≠ 0 ∨ b ≠ 0) → upw σ.2.2 0 0 1 a b = σ.2.2 a b := fun a b n => upw_n (by omega)
    unfold MG
    simp (disch := omega) only [un, upw_e, m3]
    refine ⟨?_, ⟨g2, g3⟩, ⟨g4, g5⟩, ⟨g6, g7⟩, g8⟩
    rw [m2 _ _ (by omega) (by omega), hI_e]
    rfl
def s_rest (σ : St) : Int32 × St := if σ.2.2 0 0 = 0 then (-3, rz σ 3) else (nI (σ.2.1 0 5), (σ.2.1, σ.2))
theorem p_rest : Mok 1222 [] s_rest := by
  intro σ h I
  have I2 := IM_th I
  obtain ⟨hW, hS, ⟨G1, G2, G3, G4, G5, G6⟩, hi, g1, -⟩ := id I2
  unfold s_rest
  simp only [List.map]
  by_cases h0 : σ.2.2 0 0 = 0
  · rw [if_pos h0]
    refine ⟨rh (hsI h 44 12 0) 3, ?_, IM_rz (by decide) I2⟩
    rw [h0] at g1
    simp only [e_1222, x_1222, xs, g1, dz, m_rf3 hW]
  · rw [if_neg h0]
    have h1 : σ.2.2 0 0 = 1 := by omega
    rw [h1] at g1
    obtain ⟨h2, c1, c2⟩ := m_carryAll false 53 (hsI h 44 12 0) (by decide) hW
    obtain ⟨m1, m2⟩ := CI_f (by decide) c2 (G3 h1) (by decide) (hi h1)
    have w15 : hR (hsI h 44 12 0) 44 15 = some (53, 13, 706) := hW.2.2.2.2.2.2.2.2.1
    refine ⟨h2, ?_, IM_w ⟨c2.1, c2.2.1, fun i j n => m2 i j (by unfold wS at n; omega)⟩ I2 m1 (G3 h1)⟩
    have c1' : call 1220 [vo (some (44, 12, 0)), vo (some (53, 13, 706)), vi 0] (hsI h 44 12 0) = some (none, h2) := c1
    simp only [e_1222, x_1222, xs, g1, dz, w15, c1', m1.1.2.2.2.2.2]
def s_feed (x : Int32) (σ : St) : Int32 × St := if x < 0 then (-4, rz σ 4) else if 255 < x ∨ σ.2.2 0 1 = 80 then (-6, rz σ 6) else (nI (σ.2.2 0 1 + 1), (σ.1, σ.2.1, upw (upw σ.2.2 1 (σ.2.2 0 1) x.toNatClampNeg) 0 1 (σ.2.2 0 1 + 1)))
theorem p_feed (x : Int32) : Mok 1223 [x] (s_feed x) := by
  intro σ h I
  have I2 := IM_th I
  obtain ⟨hW, hS, ⟨G1, G2, G3, G4, G5, G6⟩, hi, g1, ⟨g2, g3⟩, ⟨g4, g5⟩, ⟨g6, g7⟩, g8⟩ := id I2
  unfold s_feed
  simp only [List.map]
  by_cases h0 : x < 0
  · rw [if_pos h0]
    refine ⟨rh (hsI h 44 12 0) 4, ?_, IM_rz (by decide) I2⟩
    simp only [e_1223, x_1223, xs, cn_0 h0, m_rf4 hW]
  · rw [if_neg h0]
    obtain ⟨j, hj, rfl⟩ := nI_of h0
    by_cases h1 : 255 < nI j ∨ σ.2.2 0 1 = 80
    · rw [if_pos h1]
      refine ⟨rh (hsI h 44 12 0) 6, ?_, IM_rz (by decide) I2⟩
      rw [(cz_255 hj).2.2.1] at h1
      simp (disch := omega) only [e_1223, x_1223, xs, nl_g0, cz_255, g2, cz_80, m_rf6 hW]
      rcases h1 with h1 | h1
      · rw [if_pos h1]
      · split
        · rfl
        · first | rfl | rw [if_pos h1]
    · rw [if_neg h1]
      rw [(cz_255 hj).2.2.1] at h1
      have h2 : ¬ 255 < j := fun z => h1 (Or.inl z)
      have h3 : ¬ σ.2.2 0 1 = 80 := fun z => h1 (Or.inr z)
      have w20 : hR (hsI h 44 12 0) 44 20 = some (54, 13, 80) := hW.2.2.2.2.2.2.2.2.2.1
      have q1 : hI (hsI (hsI h 44 12 0) 54 (σ.2.2 0 1) (nI j)) 44 21 = nI (σ.2.2 0 1) := by rw [hI_n (by omega)]; exact g2
      simp only [cl_n hj]
      refine ⟨hsI (hsI (hsI h 44 12 0) 54 (σ.2.2 0 1) (nI j)) 44 21 (nI (σ.2.2 0 1 + 1)), ?_, IM_g (kp_t (kp_I (Or.inr (by omega))) (kp_I (Or.inl (by omega)))) I2 ?_ (fun z => ?_) ?_⟩
      · simp (disch := omega) only [e_1223, x_1223, xs, nl_g0, cz_255, h2, g2, cz_80, h3, w20, ↓ib_n, cl_n, q1, nl_inc, hI_e]
      · have un : ∀ a b, ¬ (a = 0 ∧ b = 1) → a ≠ 1 → upw (upw σ.2.2 1 (σ.2.2 0 1) j) 0 1 (σ.2.2 0 1 + 1) a b = σ.2.2 a b := fun a b n1 n2 => by rw [upw_n (by omega), upw_n (by omega)]
        unfold GOK
        simp (disch := omega) only [un, upw_e]
        refine ⟨G1, G2, G3, ⟨by omega, fun i hi => ?_⟩, G5, G6⟩
        rw [upw_n (by omega)]
        unfold upw
        split
        · omega
        · exact G4.2 i (by omega)
      · rw [upw_n (by omega), upw_n (by omega)] at z
        exact MSi_c (by decide) (G3 z) (hi z) (fun k => by rw [hI_n (by omega), hI_n (by omega)])
      · have un : ∀ a b, ¬ (a = 0 ∧ b = 1) → a ≠ 1 → upw (upw σ.2.2 1 (σ.2.2 0 1) j) 0 1 (σ.2.2 0 1 + 1) a b = σ.2.2 a b := fun a b n1 n2 => by rw [upw_n (by omega), upw_n (by omega)]
        have ne : ∀ i k, ¬ (i = 44 ∧ k = 21) → i ≠ 54 → hI (hsI (hsI (hsI h 44 12 0) 54 (σ.2.2 0 1) (nI j)) 44 21 (nI (σ.2.2 0 1 + 1))) i k = hI (hsI h 44 12 0) i k := fun i k n1 n2 => by rw [hI_n (by omega), hI_n (by omega)]
        unfold MG
        simp (disch := omega) only [un, upw_e, ne, hI_e]
        refine ⟨g1, ⟨by trivial, fun i hi => ?_⟩, ⟨g4, g5⟩, ⟨g6, g7⟩, g8⟩
        rw [upw_n (by omega), hI_n (by omega), hI_s]
        unfold upw
        by_cases e : i = σ.2.2 0 1
        · simp [e]
        · rw [if_neg (by omega), if_neg (by omega)]
          exact g3 i (by omega)
def s_row (x : Int32) (σ : St) : Int32 × St := if x < 0 then (-4, rz σ 4) else if 29 < x ∨ σ.2.2 0 3 = 12 then (-6, rz σ 6) else (nI (σ.2.2 0 3 + 1), (σ.1, σ.2.1, upw (upw σ.2.2 4 (σ.2.2 0 3) x.toNatClampNeg) 0 3 (σ.2.2 0 3 + 1)))
theorem p_row (x : Int32) : Mok 1263 [x] (s_row x) := by
  intro σ h I
  have I2 := IM_th I
  obtain ⟨hW, hS, ⟨G1, G2, G3, G4, G5, G6⟩, hi, g1, ⟨g2, g3⟩, ⟨g4, g5⟩, ⟨g6, g7⟩, g8⟩ := id I2
  unfold s_row
  simp only [List.map]
  by_cases h0 : x < 0
  · rw [if_pos h0]
    refine ⟨rh (hsI h 44 12 0) 4, ?_, IM_rz (by decide) I2⟩
    simp only [e_1263, x_1263, xs, cn_0 h0, m_rf4 hW]
  · rw [if_neg h0]
    obtain ⟨j, hj, rfl⟩ := nI_of h0
    by_cases h1 : 29 < nI j ∨ σ.2.2 0 3 = 12
    · rw [if_pos h1]
      refine ⟨rh (hsI h 44 12 0) 6, ?_, IM_rz (by decide) I2⟩
      rw [(cz_29 hj).2.2.1] at h1
      simp (disch := omega) only [e_1263, x_1263, xs, nl_g0, cz_29, g6, cz_12, m_rf6 hW]
      rcases h1 with h1 | h1
      · rw [if_pos h1]
      · split
        · rfl
        · first | rfl | rw [if_pos h1]
    · rw [if_neg h1]
      rw [(cz_29 hj).2.2.1] at h1
      have h2 : ¬ 29 < j := fun z => h1 (Or.inl z)
      have h3 : ¬ σ.2.2 0 3 = 12 := fun z => h1 (Or.inr z)
      have w41 : hR (hsI h 44 12 0) 44 41 = some (69, 13, 12) := hW.2.2.2.2.2.2.2.2.2.2.2.2.2.2.2.2.2.2.2.2.2.2.2.2
      have q1 : hI (hsI (hsI h 44 12 0) 69 (σ.2.2 0 3) (nI j)) 44 42 = nI (σ.2.2 0 3) := by rw [hI_n (by omega)]; exact g6
      simp only [cl_n hj]
      refine ⟨hsI (hsI (hsI h 44 12 0) 69 (σ.2.2 0 3) (nI j)) 44 42 (nI (σ.2.2 0 3 + 1)), ?_, IM_g (kp_t (kp_I (Or.inr (by omega))) (kp_I (Or.inl (by omega)))) I2 ?_ (fun z => ?_) ?_⟩
      · simp (disch := omega) only [e_1263, x_1263, xs, nl_g0, cz_29, h2, g6, cz_12, h3, w41, ↓ib_n, cl_n, q1, nl_inc, hI_e]
      · have un : ∀ a b, ¬ (a = 0 ∧ b = 3) → a ≠ 4 → upw (upw σ.2.2 4 (σ.2.2 0 3) j) 0 3 (σ.2.2 0 3 + 1) a b = σ.2.2 a b := fun a b n1 n2 => by rw [upw_n (by omega), upw_n (by omega)]
        unfold GOK
        simp (disch := omega) only [un, upw_e]
        refine ⟨G1, G2, G3, G4, G5, by omega, fun i hi => ?_⟩
        rw [upw_n (by omega)]
        unfold upw
        split
        · omega
        · exact G6.2 i (by omega)
      · rw [upw_n (by omega), upw_n (by omega)] at z
        exact MSi_c (by decide) (G3 z) (hi z) (fun k => by rw [hI_n (by omega), hI_n (by omega)])
      · have un : ∀ a b, ¬ (a = 0 ∧ b = 3) → a ≠ 4 → upw (upw σ.2.2 4 (σ.2.2 0 3) j) 0 3 (σ.2.2 0 3 + 1) a b = σ.2.2 a b := fun a b n1 n2 => by rw [upw_n (by omega), upw_n (by omega)]
        have ne : ∀ i k, ¬ (i = 44 ∧ k = 42) → i ≠ 69 → hI (hsI (hsI (hsI h 44 12 0) 69 (σ.2.2 0 3) (nI j)) 44 42 (nI (σ.2.2 0 3 + 1))) i k = hI (hsI h 44 12 0) i k := fun i k n1 n2 => by rw [hI_n (by omega), hI_n (by omega)]
        unfold MG
        simp (disch := omega) only [un, upw_e, ne, hI_e]
        refine ⟨g1, ⟨g2, g3⟩, ⟨g4, g5⟩, ⟨by trivial, fun i hi => ?_⟩, g8⟩
        rw [upw_n (by omega), hI_n (by omega), hI_s]
        unfold upw
        by_cases e : i = σ.2.2 0 3
        · simp [e]
        · rw [if_neg (by omega), if_neg (by omega)]
          exact g7 i (by omega)
