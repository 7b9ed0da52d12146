/-! THE CLASS: was, sees, delay, behind -/
theorem q_was (p x : Int32) : Cok 1106 [p, x] (s_was p x) := by
  rintro σ h ⟨L, nw, sp, I⟩
  obtain ⟨hn, hX, -, ⟨hw, ht⟩, -, hG, -⟩ := id I
  have w0 := hX.1.1
  have k3 := hG.1.2.2.2.1
  have k5 := hG.1.2.2.2.2.2.1
  have h1 := c_here p I
  have h2 := c_out x (nI 0) (nI (σ.1 0 5)) h
  have h2' : call 1129 [vi x, vi 0, vi (nI (σ.1 0 5))] h = some (some (vi (wdI x (nI 0) (nI (σ.1 0 5)))), h) := h2
  unfold s_was
  simp only [List.map]
  by_cases e1 : isP σ.1 p = true
  · rw [if_pos e1] at h1 ⊢
    obtain ⟨k, rfl, hk⟩ := isP_of k3 e1
    rcases wd_3 x 0 (σ.1 0 5) (by decide) (by omega) with ⟨z1, z2⟩ | ⟨z1, z2, z3⟩ | ⟨z1, z2, z3, z4⟩
    · rw [if_pos (show x < 0 from z1)]
      refine ⟨rc h 4, ?_, ⟨L, nw, sp, IC_rz (by decide) I⟩, cB_e rfl⟩
      simp (disch := omega) only [e_1106, x_1106, xs, ↓reduceIte, h1, i00, w0, ht, h2', z2, ltm, c_rf4 hX]
    · rw [if_neg (show ¬ x < 0 from z1), if_pos z2]
      refine ⟨rc h 6, ?_, ⟨L, nw, sp, IC_rz (by decide) I⟩, cB_e rfl⟩
      simp (disch := omega) only [e_1106, x_1106, xs, ↓reduceIte, h1, i00, w0, ht, h2', z3, ltm, c_rf6 hX]
    · rw [if_neg (show ¬ x < 0 from z1), if_neg z2]
      obtain ⟨j, rfl, j1, j2⟩ := z4
      refine ⟨h, ?_, ⟨L, nw, sp, I⟩, cB_e rfl⟩
      have h3 := c_placeOf hG.1 hw hk j2 (by omega)
      simp (disch := omega) only [e_1106, x_1106, xs, ↓reduceIte, h1, i00, w0, ht, h2', z3, h3, cl_n]
  · rw [if_neg e1] at h1 ⊢
    refine ⟨rc h 1, ?_, ⟨L, nw, sp, IC_rz (by decide) I⟩, cB_e rfl⟩
    simp (disch := omega) only [e_1106, x_1106, xs, ↓reduceIte, h1, ltm, c_rf1 hX]
theorem q_sees (a b : Int32) : Cok 1107 [a, b] (s_sees a b) := by
  rintro σ h ⟨L, nw, sp, I⟩
  obtain ⟨hn, hX, -, ⟨hw, ht⟩, -, hG, -⟩ := id I
  have w0 := hX.1.1
  have k3 := hG.1.2.2.2.1
  have h1 := c_two a b I
  unfold s_sees
  simp only [List.map]
  by_cases e1 : isT σ.1 a b = true
  · rw [if_pos e1] at h1 ⊢
    obtain ⟨j, k, rfl, rfl, hj, hk, -⟩ := isT_of k3 e1
    refine ⟨h, ?_, ⟨L, nw, sp, I⟩, cB_e rfl⟩
    have h3 := c_sight hG.1 hw hk (Nat.le_refl _) (by omega)
    simp (disch := omega) only [e_1107, x_1107, xs, ↓reduceIte, h1, i00, w0, ht, h3, cl_n]
    rfl
  · rw [if_neg e1] at h1 ⊢
    refine ⟨rc h 1, ?_, ⟨L, nw, sp, IC_rz (by decide) I⟩, cB_e rfl⟩
    simp (disch := omega) only [e_1107, x_1107, xs, ↓reduceIte, h1, ltm, c_rf1 hX]
theorem q_behind (p n : Int32) : Cok 1108 [p, n] (s_behind p n) := by
  rintro σ h ⟨L, nw, sp, I⟩
  obtain ⟨hn, hX, -, ⟨hw, ht⟩, -, hG, -⟩ := id I
  have w0 := hX.1.1
  have k3 := hG.1.2.2.2.1
  have k5 := hG.1.2.2.2.2.2.1
  have h1 := c_here p I
  have h2 : call 1129 [vi n, vi 0, vi 60] h = some (some (vi (wdI n (nI 0) (nI 60))), h) := c_out n (nI 0) (nI 60) h
  unfold s_behind
  simp only [List.map]
  by_cases e1 : isP σ.1 p = true
  · rw [if_pos e1] at h1 ⊢
    obtain ⟨k, rfl, hk⟩ := isP_of k3 e1
    rcases wd_3 n 0 60 (by decide) (by omega) with ⟨z1, z2⟩ | ⟨z1, z2, z3⟩ | ⟨z1, z2, z3, z4⟩
    · rw [if_pos z1]
      refine ⟨rc h 4, ?_, ⟨L, nw, sp, IC_rz (by decide) I⟩, cB_e rfl⟩
      simp (disch := omega) only [e_1108, x_1108, xs, ↓reduceIte, h1, i00, h2, z2, ltm, c_rf4 hX]
    · rw [if_neg z1, if_pos z2]
      refine ⟨rc h 6, ?_, ⟨L, nw, sp, IC_rz (by decide) I⟩, cB_e rfl⟩
      simp (disch := omega) only [e_1108, x_1108, xs, ↓reduceIte, h1, i00, h2, z3, ltm, c_rf6 hX]
    · rw [if_neg z1, if_neg z2]
      obtain ⟨j, rfl, j1, j2⟩ := z4
      obtain ⟨h2', r1, r2, r3⟩ := c_foresee (by omega) hG.1 j2 ht hw
      have J := IC_k (ck_m r2 (fun i j z => Or.inr (Or.inr (Or.inr (Or.inr (Or.inl z)))))) I
      refine ⟨h2', ?_, ⟨L, nw, sp, J⟩, cB_e r2.1⟩
      have w02 := J.2.1.1.1
      have ht2 := J.2.2.2.1.2
      have h3 := c_placeOf (p := k) (j := σ.1 0 5 + j) (dys_ok hG.1 j) r3 (by rw [dys_0 _ _ _ (by decide)]; exact hk) (by rw [dys_5]; exact Nat.le_refl _) (by omega)
      simp (disch := omega) only [e_1108, x_1108, xs, ↓reduceIte, h1, i00, h2, z3, w0, r1, w02, ht2, nI_add, h3, cl_n]
      unfold cel
      rw [dys_5]
  · rw [if_neg e1] at h1 ⊢
    refine ⟨rc h 1, ?_, ⟨L, nw, sp, IC_rz (by decide) I⟩, cB_e rfl⟩
    simp (disch := omega) only [e_1108, x_1108, xs, ↓reduceIte, h1, ltm, c_rf1 hX]
/-- the world changes -/
theorem IC_w {L : Nat → Prop} {nw sp : Nat} {σ : St} {h h2 : Hp} {w : Wo} (a : ck (fun i _ => nw ≤ i ∧ i ≤ nw + 7) h h2) (I : ICn L nw sp σ h) (hw : CW L h2 nw w) (ht : hI h2 nw 2 = nI (w 0 5)) (hk : WOK 60 w) : ICn L nw sp (w, σ.2) h2 := by
  obtain ⟨hn, hX, ⟨v1, v2⟩, -, hi, hG, ⟨g1, ⟨g2, g3⟩, ⟨g4, g5⟩, ⟨g6, g7⟩, g8⟩, hL, h70⟩ := I
  have ni : ∀ i j : Nat, im L i → ¬ (nw ≤ i ∧ i ≤ nw + 7) := fun i j z y => im_n (by omega) z
  have e : ∀ i j, (i < 7 ∨ 22 < i) → hI h2 i j = hI h i j := fun i j z => a.2.2 i j (by omega)
  refine ⟨hn, CX_k a hX, ⟨CV_k a v1, CV_k a v2.1, CU_k a v2.2⟩, ⟨hw, ht⟩, fun z => ?_, ⟨hk, hG.2⟩, ?_, by rw [a.1]; exact hL, by rw [a.1]; exact h70⟩
  · obtain ⟨x1, x2⟩ := hi z
    exact ⟨CW_k a ni (by omega) (by omega) (hG.2.2.1 z).2.2.2.1 (fun p j hp hj => by omega) x1, (e _ _ (by omega)).trans x2⟩
  · unfold XG
    simp (disch := omega) only [e]
    exact ⟨g1, ⟨g2, g3⟩, ⟨g4, g5⟩, ⟨g6, g7⟩, g8⟩
theorem q_delay (v : Int32) : Cok 1104 [v] (s_delay v) := by
  rintro σ h ⟨L, nw, sp, I⟩
  obtain ⟨hn, hX, -, ⟨hw, ht⟩, -, hG, -⟩ := id I
  have w0 := hX.1.1
  have k3 := hG.1.2.2.2.1
  have f1 := hw.2.1.1
  have h2 : call 1129 [vi v, vi 0, vi 3] h = some (some (vi (wdI v (nI 0) (nI 3))), h) := c_out v (nI 0) (nI 3) h
  unfold s_delay
  simp only [List.map]
  rcases wd_3 v 0 3 (by decide) (by omega) with ⟨z1, z2⟩ | ⟨z1, z2, z3⟩ | ⟨z1, z2, z3, z4⟩
  · rw [if_pos (show v < 0 from z1)]
    refine ⟨rc h 4, ?_, ⟨L, nw, sp, IC_rz (by decide) I⟩, cB_e rfl⟩
    simp (disch := omega) only [e_1104, x_1104, xs, ↓reduceIte, h2, z2, ltm, c_rf4 hX]
  · rw [if_neg (show ¬ v < 0 from z1), if_pos (show (3 : Int32) < v from z2)]
    refine ⟨rc h 6, ?_, ⟨L, nw, sp, IC_rz (by decide) I⟩, cB_e rfl⟩
    simp (disch := omega) only [e_1104, x_1104, xs, ↓reduceIte, h2, z3, ltm, c_rf6 hX]
  · rw [if_neg (show ¬ v < 0 from z1), if_neg (show ¬ (3 : Int32) < v from z2)]
    obtain ⟨j, rfl, j1, j2⟩ := z4
    have K : ck (fun i j => i = nw ∧ j = 1) h (hsI h nw 1 (nI j)) := ck_I ⟨rfl, rfl⟩
    refine ⟨hsI h nw 1 (nI j), ?_, ⟨L, nw, sp, IC_w (ck_m K (fun i j z => by omega)) I ?_ ?_ ?_⟩, cB_e rfl⟩
    · simp (disch := omega) only [e_1104, x_1104, xs, ↓reduceIte, h2, z3, i00, w0, f1]
    · rw [cl_n (by omega)]
      obtain ⟨c1, ⟨c2, c3⟩, c4, c5, c6⟩ := hw
      have uw : ∀ a b, a ≠ 0 ∨ b ≠ 4 → upw σ.1 0 4 j a b = σ.1 a b := fun a b z => upw_n (by omega)
      have ni : ∀ i b : Nat, im L i → ¬ (i = nw ∧ b = 1) := fun i b z y => im_n (by omega) z
      refine ⟨CG_w (uw _ _ (by omega)) (uw _ _ (by omega)) (uw _ _ (by omega)) (CG_k K ni c1), ⟨by rw [hI_e, upw_e], by rw [hI_n (by omega), uw _ _ (by omega)]; exact c3⟩, CV_k K c4, fun p hp => ?_, fun p hp t htt => ?_⟩
      · rw [uw _ _ (by omega)] at hp
        exact CP_w (fun i j a b => uw _ _ (by omega)) (by omega) (CP_k K ni (c5 p hp))
      · rw [uw _ _ (by omega)] at hp htt
        rw [uw _ _ (by omega), hI_n (by omega)]
        exact c6 p hp t htt
    · rw [hI_n (by omega), upw_n (by omega)]; exact ht
    · rw [cl_n (by omega)]; exact WOK_lag hG.1 j2
