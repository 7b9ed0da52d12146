/-! THE CLASS: image, restore, feed, row, sight, forget -/
theorem BE_i {L : Nat → Prop} {a b : Nat} {h h2 : Hp} (ha : 7 ≤ a ∧ a ≤ 23) (B : BE a b 5 h h2) : iq L h h2 := fun i z j => ⟨B.2.2.2.2.2.2 i j (fun y => im_n (by omega) z) (fun y => im_n (by omega) z), B.2.1 i j (fun y => im_n (by omega) z) (fun y => im_n (by omega) z)⟩
theorem BE_v {a b c : Nat} {h h2 : Hp} (hc : c = a ∨ c + 8 ≤ a ∨ a + 8 ≤ c) (B : BE a b 5 h h2) (v : CV h c) : CV h2 c := ⟨(B.2.1 _ _ (by omega) (by omega)).trans v.1, (B.2.1 _ _ (by omega) (by omega)).trans v.2.1, fun i hi => (B.2.1 _ _ (by omega) (by omega)).trans (v.2.2 i hi)⟩
/-- the one that became -/
theorem BE_t {L : Nat → Prop} {a b : Nat} {h h2 : Hp} {w : Wo} (ha : 7 ≤ a ∧ a ≤ 23) (hk : WOK 60 w) (B : BE a b 5 h h2) (va : CV h a) (c : CW L h b w) : CW L h2 a w := by
  have k5 := hk.2.2.2.2.2.1
  exact CW_q hk.2.2.2.1 (BE_i ha B) (by rw [B.1]; omega) B.2.2.1 B.2.2.2.1 (BE_v (Or.inl rfl) B va) B.2.2.2.2.1.1 B.2.2.2.2.1.2.2 (fun p j hp hj => B.2.2.2.2.2.1 p j hp (by omega)) c
/-- another -/
theorem BE_o {L : Nat → Prop} {a b c : Nat} {h h2 : Hp} {w : Wo} (ha : 7 ≤ a ∧ a ≤ 23) (hc : c + 8 ≤ a ∨ a + 8 ≤ c) (hk : WOK 60 w) (B : BE a b 5 h h2) (cw : CW L h c w) : CW L h2 c w :=
  CW_q hk.2.2.2.1 (BE_i ha B) (by rw [B.1]; omega) (B.2.1 _ _ (by omega) (by omega)) (fun p hp => B.2.1 _ _ (by omega) (by omega)) (BE_v (by omega) B cw.2.2.1) (B.2.2.2.2.2.2 _ _ (by omega) (by omega)) (B.2.2.2.2.2.2 _ _ (by omega) (by omega)) (fun p j hp hj => B.2.2.2.2.2.2 _ _ (by omega) (by omega)) cw
theorem BE_x {a b nw sp : Nat} {h h2 : Hp} (ha : 7 ≤ a ∧ a ≤ 23) (B : BE a b 5 h h2) (x : CX h nw sp) : CX h2 nw sp := by
  have e : ∀ i j, (i = 0 ∨ i = 31 ∨ i = 33 ∨ i = 39) → hR h2 i j = hR h i j := fun i j z => B.2.1 i j (by omega) (by omega)
  unfold CX at x ⊢
  simp (disch := omega) only [e]
  exact x
theorem BE_u {a b : Nat} {h h2 : Hp} (ha : a = 7 ∨ a = 15 ∨ a = 23) (hb : b = 7 ∨ b = 15 ∨ b = 23) (B : BE a b 5 h h2) (u : CU h) : CU h2 := fun i hi => by
  obtain ⟨u1, u2, u3⟩ := u i hi
  have ub : pO (hR h2 (a + 1) i) := by
    rw [B.2.2.2.1 i hi]
    rcases hb with rfl | rfl | rfl
    · exact u1
    · exact u2
    · exact u3
  have uo : ∀ c, c ≠ a + 1 → c ≠ a → hR h2 c i = hR h c i := fun c z y => B.2.1 _ _ (by omega) (by omega)
  rcases ha with rfl | rfl | rfl
  · exact ⟨ub, by rw [uo 16 (by decide) (by decide)]; exact u2, by rw [uo 24 (by decide) (by decide)]; exact u3⟩
  · exact ⟨by rw [uo 8 (by decide) (by decide)]; exact u1, ub, by rw [uo 24 (by decide) (by decide)]; exact u3⟩
  · exact ⟨by rw [uo 8 (by decide) (by decide)]; exact u1, by rw [uo 16 (by decide) (by decide)]; exact u2, ub⟩
theorem CU_1 {h : Hp} {b : Nat} (hb : b = 7 ∨ b = 15 ∨ b = 23) (u : CU h) : ∀ i, i < 5 → pO (hR h (b + 1) i) := fun i hi => by
  obtain ⟨u1, u2, u3⟩ := u i hi
  rcases hb with rfl | rfl | rfl
  · exact u1
  · exact u2
  · exact u3
theorem q_image : Cok 1124 [] s_image := by
  rintro σ h ⟨L, nw, sp, I⟩
  obtain ⟨hn, hX, ⟨v1, v2, u⟩, ⟨hw, ht⟩, hi, hG, ⟨g1, ⟨g2, g3⟩, ⟨g4, g5⟩, ⟨g6, g7⟩, g8⟩, hL, h70⟩ := id I
  obtain ⟨h2, r1, B⟩ := c_become (a := 23) (b := nw) (by omega) v2 hw.2.2.1 (CU_1 (by omega) u)
  have X2 := BE_x (by omega) B hX
  have w2 := hX.1.2.2.1
  have w0 := hX.1.1
  have K : ck (fun i j => i = 0 ∧ j = 3) h2 (hsI h2 0 3 1) := ck_I ⟨rfl, rfl⟩
  have bi := B.2.2.2.2.2.2
  have t2 : hI (hsI h2 0 3 1) nw 2 = nI (σ.1 0 5) := by rw [hI_n (by omega), bi _ _ (by omega) (by omega)]; exact ht
  have kk : ∀ i j : Nat, im L i → ¬ (i = 0 ∧ j = 3) := fun i j z y => by unfold im at z; omega
  unfold s_image
  simp only [List.map]
  have un : ∀ a b, (a ≠ 0 ∨ b ≠ 0) → upw σ.2.2 0 0 1 a b = σ.2.2 a b := fun a b n => upw_n (by omega)
  refine ⟨hsI h2 0 3 1, ?_, ⟨L, nw, sp, hn, CX_k K X2, ⟨CV_k K (BE_v (by omega) B v1), CV_k K (BE_v (by omega) B v2), CU_k K (BE_u (by omega) (by omega) B u)⟩, ⟨CW_k K kk (by omega) (by omega) hG.1.2.2.2.1 (fun p j hp hj => by omega) (BE_o (by omega) (by omega) hG.1 B hw), t2⟩, fun _ => ⟨CW_k K kk (by omega) (by omega) hG.1.2.2.2.1 (fun p j hp hj => by omega) (BE_t (by omega) hG.1 B v2 hw), ?_⟩, ?_, ?_, ?_, ?_⟩, cB_e B.1⟩
  · simp (disch := omega) only [e_1124, x_1124, xs, w2, w0, r1, X2.1.1, hR_s, t2]
  · rw [hI_n (by omega), B.2.2.2.2.1.2.1]; exact ht
  · obtain ⟨G1, G2, G3, G4, G5, G6⟩ := hG
    unfold GOK
    simp (disch := omega) only [un, upw_e]
    exact ⟨G1, by omega, fun _ => G1, G4, G5, G6⟩
  · have hq : ∀ i j, (i = 0 ∧ j ≠ 3) ∨ 30 < i → hI (hsI h2 0 3 1) i j = hI h i j := fun i j z => by rw [hI_n (by omega)]; exact bi _ _ (by omega) (by omega)
    unfold XG
    simp (disch := omega) only [un, upw_e, hq]
    exact ⟨by rw [hI_e]; rfl, ⟨g2, g3⟩, ⟨g4, g5⟩, ⟨g6, g7⟩, g8⟩
  · show ∀ i, h2.1.1 ≤ i → L i
    rw [B.1]; exact hL
  · show 70 ≤ h2.1.1
    rw [B.1]; exact h70
theorem q_rest : Cok 1125 [] s_rest := by
  rintro σ h ⟨L, nw, sp, I⟩
  obtain ⟨hn, hX, ⟨v1, v2, u⟩, ⟨hw, ht⟩, hi, hG, ⟨g1, ⟨g2, g3⟩, ⟨g4, g5⟩, ⟨g6, g7⟩, g8⟩, hL, h70⟩ := id I
  have w2 := hX.1.2.2.1
  have w0 := hX.1.1
  have h01 := hG.2.1
  have z0 : (nI (σ.2.2 0 0) = 0) = (σ.2.2 0 0 = 0) := nl_e0 (by omega)
  unfold s_rest
  simp only [List.map]
  by_cases e : σ.2.2 0 0 = 0
  · rw [if_pos e]
    refine ⟨rc h 3, ?_, ⟨L, nw, sp, IC_rz (by decide) I⟩, cB_e rfl⟩
    simp (disch := omega) only [e_1125, x_1125, xs, ↓reduceIte, g1, z0, eq_true e, c_rf3 hX]
  · rw [if_neg e]
    have e1 : σ.2.2 0 0 = 1 := by omega
    obtain ⟨kw, kt⟩ := hi e1
    have G3 := hG.2.2.1 e1
    obtain ⟨h2, r1, B⟩ := c_become (a := nw) (b := 23) (by omega) hw.2.2.1 v2 (CU_1 (by omega) u)
    have X2 := BE_x (by omega) B hX
    have bi := B.2.2.2.2.2.2
    have t2 : hI h2 nw 2 = nI (σ.2.1 0 5) := by rw [B.2.2.2.2.1.2.1]; exact kt
    refine ⟨h2, ?_, ⟨L, nw, sp, hn, X2, ⟨BE_v (by omega) B v1, BE_v (by omega) B v2, BE_u (by omega) (by omega) B u⟩, ⟨BE_t (by omega) G3 B hw.2.2.1 kw, t2⟩, fun _ => ⟨BE_o (by omega) (by omega) G3 B kw, ?_⟩, ?_, ?_, ?_, ?_⟩, cB_e B.1⟩
    · simp (disch := omega) only [e_1125, x_1125, xs, ↓reduceIte, g1, z0, e, w0, w2, r1, X2.1.1, t2]
    · rw [bi _ _ (by omega) (by omega)]; exact kt
    · exact ⟨G3, hG.2⟩
    · have hq : ∀ i j, i = 0 ∨ 30 < i → hI h2 i j = hI h i j := fun i j z => bi _ _ (by omega) (by omega)
      unfold XG
      simp (disch := omega) only [hq]
      exact ⟨g1, ⟨g2, g3⟩, ⟨g4, g5⟩, ⟨g6, g7⟩, g8⟩
    · rw [B.1]; exact hL
    · rw [B.1]; exact h70
theorem q_forget : Cok 1118 [] s_forget := by
  rintro σ h ⟨L, nw, sp, I⟩
  obtain ⟨hn, hX, -, -, -, hG, ⟨g1, ⟨g2, g3⟩, ⟨g4, g5⟩, ⟨g6, g7⟩, g8⟩, -⟩ := id I
  have w5 := hX.1.2.2.2.2.1
  unfold s_forget
  simp only [List.map]
  have un : ∀ a b, (a ≠ 0 ∨ b ≠ 2) → upw σ.2.2 0 2 0 a b = σ.2.2 a b := fun a b n => upw_n (by omega)
  have hq : ∀ i j, (i ≠ 33 ∨ j ≠ 0) → hI (hsI h 33 0 0) i j = hI h i j := fun i j n => hI_n (by omega)
  refine ⟨hsI h 33 0 0, ?_, ⟨L, nw, sp, IC_g (ck_I (by unfold yS; omega)) I ?_ (un _ _ (by omega)) ?_⟩, cB_e rfl⟩
  · have h1 : call 703 [vo (some (33, 7, 0))] h = some (some (vi (nI (σ.2.2 0 2))), hsI h 33 0 0) := by
      simp (disch := omega) only [e_703, x_703, xs, g4]
    simp (disch := omega) only [e_1118, x_1118, xs, w5, h1]
  · obtain ⟨G1, G2, G3, G4, G5, G6⟩ := hG
    unfold GOK
    simp (disch := omega) only [un, upw_e]
    exact ⟨G1, G2, G3, G4, ⟨by omega, fun i y => by omega⟩, G6⟩
  · unfold XG
    simp (disch := omega) only [un, upw_e, hq]
    exact ⟨g1, ⟨g2, g3⟩, ⟨by rw [hI_e]; rfl, fun i y => by omega⟩, ⟨g6, g7⟩, g8⟩
theorem q_feed (x : Int32) : Cok 1101 [x] (s_feed x) := by
  rintro σ h ⟨L, nw, sp, I⟩
  obtain ⟨hn, hX, -, -, -, hG, ⟨g1, ⟨g2, g3⟩, ⟨g4, g5⟩, ⟨g6, g7⟩, g8⟩, -⟩ := id I
  have w4 := hX.1.2.2.2.1
  have w31 := hX.2.1
  have G4 := hG.2.2.2.1
  have h2 : call 1129 [vi x, vi 0, vi 255] h = some (some (vi (wdI x (nI 0) (nI 255))), h) := c_out x (nI 0) (nI 255) h
  have hf : call 402 [vo (some (31, 4, 0))] h = some (some (vi (bI (decide (σ.2.2 0 1 = 80)))), h) := by
    by_cases e : σ.2.2 0 1 = 80
    · have e2 : ¬ σ.2.2 0 1 < 80 := by omega
      simp (disch := omega) only [e_402, x_402, xs, al_n, ↓reduceIte, g2, w31, nl_lt, e2, decide_eq_true e]
      rfl
    · have e2 : σ.2.2 0 1 < 80 := by omega
      simp (disch := omega) only [e_402, x_402, xs, al_n, ↓reduceIte, g2, w31, nl_lt, eq_true e2, decide_eq_false e]
      rfl
  unfold s_feed
  simp only [List.map]
  rcases wd_3 x 0 255 (by decide) (by decide) with ⟨z1, z2⟩ | ⟨z1, z2, z3⟩ | ⟨z1, z2, z3, z4⟩
  · rw [if_pos (show x < 0 from z1)]
    refine ⟨rc h 4, ?_, ⟨L, nw, sp, IC_rz (by decide) I⟩, cB_e rfl⟩
    simp (disch := omega) only [e_1101, x_1101, xs, ↓reduceIte, h2, z2, ltm, c_rf4 hX]
  · rw [if_neg (show ¬ x < 0 from z1), if_pos (Or.inl (show (255 : Int32) < x from z2))]
    refine ⟨rc h 6, ?_, ⟨L, nw, sp, IC_rz (by decide) I⟩, cB_e rfl⟩
    simp (disch := omega) only [e_1101, x_1101, xs, ↓reduceIte, h2, z3, ltm, c_rf6 hX]
  · rw [if_neg (show ¬ x < 0 from z1)]
    by_cases e : σ.2.2 0 1 = 80
    · rw [if_pos (Or.inr e)]
      rw [decide_eq_true e] at hf
      refine ⟨rc h 6, ?_, ⟨L, nw, sp, IC_rz (by decide) I⟩, cB_e rfl⟩
      simp (disch := omega) only [e_1101, x_1101, xs, ↓reduceIte, h2, z3, i00, w4, hf, bI_t, i10, ltm, c_rf6 hX]
    · rw [if_neg (by rintro (y | y); exact z2 y; exact e y)]
      rw [decide_eq_false e] at hf
      obtain ⟨j, rfl, -, j2⟩ := z4
      rw [cl_n (by omega)]
      generalize hnn : σ.2.2 0 1 = n at *
      have un : ∀ a b, (a ≠ 0 ∨ b ≠ 1) → (a ≠ 1 ∨ b ≠ n) → upw (upw σ.2.2 1 n j) 0 1 (n + 1) a b = σ.2.2 a b := fun a b n1 n2 => by rw [upw_n (by omega), upw_n (by omega)]
      have u1 : upw (upw σ.2.2 1 n j) 0 1 (n + 1) 1 n = j := by rw [upw_n (by omega), upw_e]
      have hq : ∀ a b, (a ≠ 31 ∨ b ≠ 0) → (a ≠ 32 ∨ b ≠ n) → hI (hsI (hsI h 32 n (nI j)) 31 0 (nI (n + 1))) a b = hI h a b := fun a b n1 n2 => by rw [hI_n (by omega), hI_n (by omega)]
      refine ⟨hsI (hsI h 32 n (nI j)) 31 0 (nI (n + 1)), ?_, ⟨L, nw, sp, IC_g (ck_t (ck_I (by unfold yS; omega)) (ck_I (by unfold yS; omega))) I ?_ (un _ _ (by omega) (by omega)) ?_⟩, cB_e rfl⟩
      · have q0 : hI (hsI h 32 n (nI j)) 31 0 = nI n := by rw [hI_n (by omega)]; exact g2
        have h3 : call 403 [vo (some (31, 4, 0)), vi (nI j)] h = some (some (vi (nI (n + 1))), hsI (hsI h 32 n (nI j)) 31 0 (nI (n + 1))) := by
          simp (disch := omega) only [e_403, x_403, xs, ↓reduceIte, hf, bI_f, i00, w31, g2, ↓ib_n, cl_n, q0, nl_inc, hI_e]
        simp (disch := omega) only [e_1101, x_1101, xs, ↓reduceIte, h2, z3, i00, w4, hf, bI_f, h3]
      · obtain ⟨G1, G2, G3, G4, G5, G6⟩ := hG
        unfold GOK
        simp (disch := omega) only [un, upw_e]
        refine ⟨G1, G2, G3, ⟨by omega, fun i y => ?_⟩, G5, G6⟩
        by_cases ei : i = n
        · subst ei; rw [u1]; omega
        · rw [un _ _ (by omega) (by omega)]; rw [hnn] at G4; exact G4.2 i (by omega)
      · unfold XG
        simp (disch := omega) only [un, upw_e, hq]
        refine ⟨g1, ⟨by rw [hI_e], fun i y => ?_⟩, ⟨g4, g5⟩, ⟨g6, g7⟩, g8⟩
        by_cases ei : i = n
        · subst ei; rw [u1, hI_n (by omega), hI_e]
        · rw [un _ _ (by omega) (by omega), hq _ _ (by omega) (by omega)]; exact g3 i (by omega)
