/-! THE CLASS: fits, guess -/
theorem c_up_l {h : Hp} {mo d fr N : Nat} {w m : Wo} (hk : WOK d w) (g : SC h mo w m) (hf : fr < w 0 0 * w 0 1) (hN : N ≤ 10) (l2 : Option AV) : ∀ (n i : Nat) (hh : Hp), i + n = N → ck sS h hh → RV hh 36 (wyF w (sn1 m) fr i) → ∃ h2, run 3 709 18 [some (vo (some (33, 7, 0))), some (vo (some (mo, 5, 0))), l2, some (vi (nI N)), some (vi (nI (i + 1)))] [] hh = some (none, h2) ∧ ck sS h h2 ∧ RV h2 36 (wyF w (sn1 m) fr N) := by
  intro n
  induction n with
  | zero =>
    intro i hh hi K U
    obtain rfl : i = N := by omega
    have e : i < i + 1 := by omega
    refine ⟨hh, ?_, K, U⟩
    rw [x_709_18]
    simp (disch := omega) only [x_709, xs, ↓reduceIte, nl_lt, eq_true e]
  | succ n ih =>
    intro i hh hi K U
    have e : ¬ N < i + 1 := by omega
    have g2 := SC_k K g
    have w3 := g2.2.2.1.2.2.1
    obtain ⟨h1, s1, s2, s3, -⟩ := c_addStep hk g2 (Or.inl rfl) _ U
    have g3 := SC_k s2 g2
    have w3' := g3.2.2.1.2.2.1
    obtain ⟨h3, t1, t2, t3, -⟩ := c_strike (k := i + 1) g3 (Or.inl rfl) (by omega) _ s3
    obtain ⟨h2, r1, r2, r3⟩ := ih (i + 1) h3 (by omega) (ck_t (ck_t K s2) t2) (RV_c t3 (fun c => aS_wy (sn1 m) hf i c))
    refine ⟨h2, ?_, r2, r3⟩
    rw [x_709_18, ← r1]
    simp (disch := omega) only [x_709, xs, ↓reduceIte, nl_lt, e, w3, s1, w3', t1, nl_inc]
theorem c_up {h : Hp} {mo d fr N : Nat} {w m : Wo} (hk : WOK d w) (g : SC h mo w m) (hf : fre w fr = true) (hN : N ≤ 10) : ∃ h2, call 709 [vo (some (33, 7, 0)), vo (some (mo, 5, 0)), vi (nI fr), vi (nI N)] h = some (none, h2) ∧ ck sS h h2 ∧ RV h2 36 (wyF w (sn1 m) fr N) := by
  obtain ⟨h1, s1, s2, s3⟩ := c_start hk g hf
  have g1 := SC_k s2 g
  have w3 := g1.2.2.1.2.2.1
  obtain ⟨h3, t1, t2, t3, -⟩ := c_strike (k := 0) g1 (Or.inl rfl) (by omega) _ s3
  have K := ck_t s2 t2
  obtain ⟨h2, r1, r2, r3⟩ := c_up_l hk (SC_k K g) (fre_lt hf) hN (some (vi (nI fr))) N 0 h3 (by omega) (ck_r _ _) (RV_c t3 (fun c => rfl))
  refine ⟨h2, ?_, ck_t K r2, r3⟩
  rw [← r1]
  have t1' : call 712 [vo (some (33, 7, 0)), vo (some (36, 13, 30)), vi 0] h1 = some (none, h3) := t1
  simp (disch := omega) only [e_709, x_709, xs, s1, w3, t1']
  exact rfl
theorem c_sum_l {h : Hp} {mo d : Nat} {w m : Wo} (hk : WOK d w) (g : SC h mo w m) (f : Nat → Nat) (U : RV h 36 f) (x2 : Int32) : ∀ (n c a : Nat), c + n = w 0 0 * w 0 1 → run 4 706 15 [some (vo (some (33, 7, 0))), some (vo (some (mo, 5, 0))), some (vi x2), some (vi (nI a)), some (vi (nI c))] [] h = some (some (vi (nI (fsF f n c a))), h) := by
  have cc := cells_le hk
  have f2 := g.1.2.1.2.2.1
  have w3 := g.2.2.1.2.2.1
  intro n
  induction n with
  | zero =>
    intro c a hc
    have e : w 0 0 * w 0 1 ≤ c := by omega
    rw [x_706_15]
    simp (disch := omega) only [x_706, xs, ↓reduceIte, f2, nl_le, eq_true e]
    rfl
  | succ n ih =>
    intro c a hc
    have e : ¬ w 0 0 * w 0 1 ≤ c := by omega
    have v := U c (by omega)
    rw [x_706_15, fsF, ← ih (c + 1) (a + f c) (by omega)]
    simp (disch := omega) only [x_706, xs, ↓reduceIte, f2, nl_le, e, w3, ↓ib_n, cl_n, v, nI_add, nl_inc]
theorem q_fits (a : Int32) : Cok 1116 [a] (s_fits a) := by
  rintro σ h ⟨L, nw, sp, I⟩
  obtain ⟨hn, hX, -, ⟨hw, ht⟩, -, hG, -⟩ := id I
  have w0 := hX.1.1
  have w5 := hX.1.2.2.2.2.1
  obtain ⟨mo, m1, g⟩ := IC_SC I
  have h1 := c_nfree a I
  unfold s_fits
  simp only [List.map]
  by_cases ea : freI σ.1 a = true
  · rw [if_pos ea] at h1 ⊢
    obtain ⟨j, rfl, hj, hj30⟩ := freI_of hG.1 ea
    obtain ⟨l1, l2⟩ := c_latest g
    obtain ⟨h2, r1, r2, r3⟩ := c_up hG.1 g hj l2
    have s := c_sum_l hG.1 (SC_k r2 g) _ r3 (nI j) (σ.1 0 0 * σ.1 0 1) 0 0 (by omega)
    refine ⟨h2, ?_, ⟨L, nw, sp, IC_k (ck_m r2 xS_s) I⟩, cB_e r2.1⟩
    rw [cl_n (by omega)]
    have t0 : call 706 [vo (some (33, 7, 0)), vo (some (mo, 5, 0)), vi (nI j)] h = some (some (vi (nI (fsF (wyF σ.1 (sn1 σ.2.2) j (lat σ.2.2)) (σ.1 0 0 * σ.1 0 1) 0 0))), h2) := by
      rw [← s]
      simp (disch := omega) only [e_706, x_706, xs, l1, r1]
      exact rfl
    simp (disch := omega) only [e_1116, x_1116, xs, ↓reduceIte, h1, i00, w5, w0, m1, t0]
  · rw [if_neg ea] at h1 ⊢
    refine ⟨rc h 1, ?_, ⟨L, nw, sp, IC_rz (by decide) I⟩, cB_e rfl⟩
    simp (disch := omega) only [e_1116, x_1116, xs, ↓reduceIte, h1, ltm, c_rf1 hX]
theorem c_bk_0 {h : Hp} {mo d : Nat} {w m : Wo} (hk : WOK d w) (g : SC h mo w m) (l2 : Option AV) (x3 : Int32) : ∀ (n c : Nat) (hh : Hp), c + n = w 0 0 * w 0 1 → ck sS h hh → (∀ j, j < 30 → hI hh 37 j = nI (if j < c ∧ fre w j = true then 1 else 0)) → (∀ a b, a ≠ 37 → hI hh a b = hI h a b) → ∃ h2, run 3 710 16 [some (vo (some (33, 7, 0))), some (vo (some (mo, 5, 0))), l2, some (vi x3), some (vi (nI c))] [] hh = run 3 710 52 [some (vo (some (33, 7, 0))), some (vo (some (mo, 5, 0))), l2, some (vi x3), some (vi (nI (w 0 0 * w 0 1)))] [] h2 ∧ ck sS h h2 ∧ RV h2 37 (fun c => if fre w c = true then 1 else 0) ∧ ∀ a b, a ≠ 37 → hI h2 a b = hI h a b := by
  have cc := cells_le hk
  intro n
  induction n with
  | zero =>
    intro c hh hc K U V
    obtain rfl : c = w 0 0 * w 0 1 := by omega
    have f2 := (SC_k K g).1.2.1.2.2.1
    refine ⟨hh, ?_, K, fun j hj => ?_, V⟩
    · rw [x_710_16]
      generalize hX : run 3 710 52 _ _ _ = X
      simp (disch := omega) only [x_710, xs, ↓reduceIte, f2, nl_le, Nat.le_refl, ↓hX]
    · show _ = nI (if fre w j = true then 1 else 0)
      rw [U j hj]
      congr 1
      by_cases q : fre w j = true
      · rw [if_pos ⟨fre_lt q, q⟩, if_pos q]
      · rw [if_neg (fun z => q z.2), if_neg q]
  | succ n ih =>
    intro c hh hc K U V
    have e : ¬ w 0 0 * w 0 1 ≤ c := by omega
    have g2 := SC_k K g
    have f2 := g2.1.2.1.2.2.1
    have w4 := g2.2.2.1.2.2.2.1
    have hfr := c_free (c := c) hk g2.1 (by omega)
    obtain ⟨h2, r1, r2, r3, r4⟩ := ih (c + 1) (hsI hh 37 c (bI (fre w c))) (by omega) (ck_t K (ck_I (by unfold sS; omega))) (fun j hj => by
      by_cases ej : j = c
      · subst ej
        rw [hI_e]
        cases q : fre w j with
        | true => rw [if_pos ⟨by omega, rfl⟩]; rfl
        | false => rw [if_neg (fun z => by cases z.2)]; rfl
      · rw [hI_n (by omega), U j hj]
        congr 1
        by_cases q : fre w j = true
        · by_cases el : j < c
          · rw [if_pos ⟨el, q⟩, if_pos ⟨by omega, q⟩]
          · rw [if_neg (fun z => el z.1), if_neg (fun z => by have := z.1; omega)]
        · rw [if_neg (fun z => q z.2), if_neg (fun z => q z.2)]) (fun a b n => by rw [hI_n (by omega)]; exact V a b n)
    refine ⟨h2, ?_, r2, r3, r4⟩
    rw [x_710_16, ← r1]
    cases q : fre w c with
    | true =>
      rw [q] at hfr
      simp (disch := omega) only [x_710, xs, ↓reduceIte, f2, nl_le, e, w4, hfr, bI_t, i10, ↓ib_n, cl_n, nl_inc]
    | false =>
      rw [q] at hfr
      simp (disch := omega) only [x_710, xs, ↓reduceIte, f2, nl_le, e, w4, hfr, bI_f, i00, ↓ib_n, cl_n, nl_inc]
theorem c_bk_l {h : Hp} {mo d k N : Nat} {w m : Wo} (hk : WOK d w) (g : SC h mo w m) (hkN : k ≤ N) (hN : N ≤ 10) (x3 : Int32) : ∀ (n j : Nat) (hh : Hp), j + n = N - k → ck sS h hh → RV hh 37 (bkF w (sn1 m) N j) → (∀ c, hI hh 36 c = hI h 36 c) → ∃ h2, run 3 710 66 [some (vo (some (33, 7, 0))), some (vo (some (mo, 5, 0))), some (vi (nI k)), some (vi x3), some (vi (nI (N - j) - 1))] [] hh = some (none, h2) ∧ ck sS h h2 ∧ RV h2 37 (bkF w (sn1 m) N (N - k)) ∧ ∀ c, hI h2 36 c = hI h 36 c := by
  intro n
  induction n with
  | zero =>
    intro j hh hj K U V
    obtain rfl : j = N - k := by omega
    have e : (nI (N - (N - k)) - 1 < nI k) = True := by
      rw [show N - (N - k) = k by omega]
      by_cases k0 : k = 0
      · subst k0; exact eq_true (by decide)
      · rw [show (1 : Int32) = nI 1 from rfl, pk_sub (by omega), nl_lt (by omega) (by omega)]
        exact eq_true (by omega)
    refine ⟨hh, ?_, K, U, V⟩
    rw [x_710_66]
    simp (disch := omega) only [x_710, xs, ↓reduceIte, e]
  | succ n ih =>
    intro j hh hj K U V
    have e1 : nI (N - j) - 1 = nI (N - (j + 1)) := by rw [show (1 : Int32) = nI 1 from rfl, pk_sub (by omega)]; congr 1
    have e : ¬ N - (j + 1) < k := by omega
    have em : nI (N - (j + 1)) + -1 = nI (N - (j + 1)) - 1 := by rw [Int32.sub_eq_add_neg]
    have g2 := SC_k K g
    have w4 := g2.2.2.1.2.2.2.1
    obtain ⟨h1, s1, s2, s3, s4⟩ := c_addStep hk g2 (Or.inr rfl) _ U
    have g3 := SC_k s2 g2
    have w4' := g3.2.2.1.2.2.2.1
    obtain ⟨h3, t1, t2, t3, t4⟩ := c_strike (k := N - (j + 1)) g3 (Or.inr rfl) (by omega) _ s3
    obtain ⟨h2, r1, r2, r3, r4⟩ := ih (j + 1) h3 (by omega) (ck_t (ck_t K s2) t2) (RV_c t3 (fun c => aS_bk (sn1 m) j c)) (fun c => by rw [t4 _ _ (by omega), s4 _ _ (by omega) (by omega)]; exact V c)
    refine ⟨h2, ?_, r2, r3, r4⟩
    rw [x_710_66, ← r1]
    simp (disch := omega) only [x_710, xs, ↓reduceIte, e1, nl_lt, e, w4, s1, w4', t1, em]
theorem c_bk {h : Hp} {mo d k : Nat} {w m : Wo} (hk : WOK d w) (g : SC h mo w m) (hkN : k ≤ lat m) : ∃ h2, call 710 [vo (some (33, 7, 0)), vo (some (mo, 5, 0)), vi (nI k)] h = some (none, h2) ∧ ck sS h h2 ∧ RV h2 37 (bkF w (sn1 m) (lat m) (lat m - k)) ∧ ∀ c, hI h2 36 c = hI h 36 c := by
  obtain ⟨l1, l2⟩ := c_latest g
  obtain ⟨h1, s1, s2, s3⟩ := c_fill (r := 37) (n := 30) 0 (by decide) h
  have K1 : ck sS h h1 := ck_m s2 (fun i j z => by unfold sS; omega)
  have g1 := SC_k K1 g
  obtain ⟨h3, t1, t2, t3, t4⟩ := c_bk_0 hk g1 (some (vi (nI k))) (nI (lat m)) (w 0 0 * w 0 1) 0 h1 (by omega) (ck_r _ _) (fun j hj => by rw [s3 j hj, if_neg (fun z => by have := z.1; omega)]; rfl) (fun _ _ _ => rfl)
  have K2 := ck_t K1 t2
  have g3 := SC_k K2 g
  obtain ⟨h4, u1, u2, u3, u4⟩ := c_strike (k := lat m) g3 (Or.inr rfl) l2 _ t3
  have K3 := ck_t K2 u2
  obtain ⟨h2, r1, r2, r3, r4⟩ := c_bk_l hk (SC_k K3 g) hkN l2 (nI (lat m)) (lat m - k) 0 h4 (by omega) (ck_r _ _) (RV_c u3 (fun c => rfl)) (fun _ => rfl)
  refine ⟨h2, ?_, ck_t K3 r2, r3, fun c => by rw [r4, u4 _ _ (by omega), t4 _ _ (by omega)]; exact s2.2.2 _ _ (by omega)⟩
  have w4 := g.2.2.1.2.2.2.1
  have w4' := g3.2.2.1.2.2.2.1
  have s0 : call 710 [vo (some (33, 7, 0)), vo (some (mo, 5, 0)), vi (nI k)] h = run 3 710 16 [some (vo (some (33, 7, 0))), some (vo (some (mo, 5, 0))), some (vi (nI k)), some (vi (nI (lat m))), some (vi (nI 0))] [] h1 := by
    simp (disch := omega) only [e_710, x_710, xs, l1, w4, s1]
    rfl
  rw [s0, t1, ← r1]
  simp (disch := omega) only [x_710, xs, w4', u1]
  exact rfl
theorem c_like_l {h : Hp} {mo d : Nat} {w m : Wo} (hk : WOK d w) (g : SC h mo w m) (f1 f2 : Nat → Nat) (U1 : RV h 36 f1) (U2 : RV h 37 f2) (hb : ∀ c, f1 c * f2 c < 2 ^ 31) (l2 : Option AV) (x3 : Int32) : ∀ (n c : Nat) (b : Nat × Option Nat) (l7 : Option AV), c + n = w 0 0 * w 0 1 → b.1 < 2 ^ 31 → run 4 707 23 [some (vo (some (33, 7, 0))), some (vo (some (mo, 5, 0))), l2, some (vi x3), some (vi (oN b.2)), some (vi (nI b.1)), some (vi (nI c)), l7] [] h = some (some (vi (oN (mxF (fun c => f1 c * f2 c) n c b).2)), h) := by
  have cc := cells_le hk
  have q2 := g.1.2.1.2.2.1
  have w3 := g.2.2.1.2.2.1
  have w4 := g.2.2.1.2.2.2.1
  intro n
  induction n with
  | zero =>
    intro c b l7 hc hb1
    have e : w 0 0 * w 0 1 ≤ c := by omega
    rw [x_707_23]
    simp (disch := omega) only [x_707, xs, ↓reduceIte, q2, nl_le, eq_true e]
    rfl
  | succ n ih =>
    intro c b l7 hc hb1
    have e : ¬ w 0 0 * w 0 1 ≤ c := by omega
    have v1 := U1 c (by omega)
    have v2 := U2 c (by omega)
    have hbc := hb c
    rw [x_707_23, mxF]
    by_cases q : b.1 < f1 c * f2 c
    · have e2 : ¬ f1 c * f2 c ≤ b.1 := by omega
      rw [if_pos q, ← ih (c + 1) (f1 c * f2 c, some c) (some (vi (nI (f1 c * f2 c)))) (by omega) hbc]
      simp (disch := omega) only [x_707, xs, ↓reduceIte, q2, nl_le, e, w3, w4, ↓ib_n, cl_n, v1, v2, pk_mul, e2, nl_inc]
      exact rfl
    · have e2 : f1 c * f2 c ≤ b.1 := by omega
      rw [if_neg q, ← ih (c + 1) b (some (vi (nI (f1 c * f2 c)))) (by omega) hb1]
      simp (disch := omega) only [x_707, xs, ↓reduceIte, q2, nl_le, e, w3, w4, ↓ib_n, cl_n, v1, v2, pk_mul, eq_true e2, nl_inc]
theorem q_guess (a n : Int32) : Cok 1117 [a, n] (s_guess a n) := by
  rintro σ h ⟨L, nw, sp, I⟩
  obtain ⟨hn, hX, -, ⟨hw, ht⟩, -, hG, -⟩ := id I
  have w0 := hX.1.1
  have w5 := hX.1.2.2.2.2.1
  obtain ⟨mo, m1, g⟩ := IC_SC I
  have h1 := c_nfree a I
  obtain ⟨l1, l2⟩ := c_latest g
  have h3 : call 1129 [vi n, vi 0, vi (nI (lat σ.2.2))] h = some (some (vi (wdI n (nI 0) (nI (lat σ.2.2)))), h) := c_out n (nI 0) (nI (lat σ.2.2)) h
  unfold s_guess
  simp only [List.map]
  by_cases ea : freI σ.1 a = true
  · rw [if_pos ea] at h1 ⊢
    obtain ⟨j, rfl, hj, hj30⟩ := freI_of hG.1 ea
    rcases wd_3 n 0 (lat σ.2.2) (by decide) (by omega) with ⟨z1, z2⟩ | ⟨z1, z2, z3⟩ | ⟨z1, z2, z3, z4⟩
    · rw [if_pos z1]
      refine ⟨rc h 4, ?_, ⟨L, nw, sp, IC_rz (by decide) I⟩, cB_e rfl⟩
      simp (disch := omega) only [e_1117, x_1117, xs, ↓reduceIte, h1, i00, w5, l1, h3, z2, ltm, c_rf4 hX]
    · rw [if_neg z1, if_pos z2]
      refine ⟨rc h 6, ?_, ⟨L, nw, sp, IC_rz (by decide) I⟩, cB_e rfl⟩
      simp (disch := omega) only [e_1117, x_1117, xs, ↓reduceIte, h1, i00, w5, l1, h3, z3, ltm, c_rf6 hX]
    · rw [if_neg z1, if_neg z2]
      obtain ⟨k, rfl, -, k2⟩ := z4
      obtain ⟨h2, r1, r2, r3⟩ := c_up hG.1 g hj (N := k) (by omega)
      have g2 := SC_k r2 g
      obtain ⟨h4, s1, s2, s3, s4⟩ := c_bk hG.1 g2 k2
      have K := ck_t r2 s2
      have U1 : RV h4 36 (wyF σ.1 (sn1 σ.2.2) j k) := fun c hc => by rw [s4]; exact r3 c hc
      have hb : ∀ c, wyF σ.1 (sn1 σ.2.2) j k c * bkF σ.1 (sn1 σ.2.2) (lat σ.2.2) (lat σ.2.2 - k) c < 2 ^ 31 := fun c => by
        have b1 := wyF_le σ.1 (sn1 σ.2.2) j k c
        have b2 := bkF_le σ.1 (sn1 σ.2.2) (lat σ.2.2) (lat σ.2.2 - k) c
        have b3 := Nat.mul_le_mul b1 b2
        rw [← Nat.pow_add] at b3
        have b4 : 5 ^ (k + (lat σ.2.2 - k)) ≤ 5 ^ 10 := p5_le (by omega)
        have b5 : 5 ^ 10 < 2 ^ 31 := by decide
        omega
      have t := c_like_l hG.1 (SC_k K g) _ _ U1 s3 hb (some (vi (nI j))) (nI k) (σ.1 0 0 * σ.1 0 1) 0 (0, none) none (by omega) (by decide)
      refine ⟨h4, ?_, ⟨L, nw, sp, IC_k (ck_m K xS_s) I⟩, cB_e K.1⟩
      rw [cl_n (by omega), cl_n (by omega)]
      have t0 : call 707 [vo (some (33, 7, 0)), vo (some (mo, 5, 0)), vi (nI j), vi (nI k)] h = some (some (vi (oN (mxF (fun c => wyF σ.1 (sn1 σ.2.2) j k c * bkF σ.1 (sn1 σ.2.2) (lat σ.2.2) (lat σ.2.2 - k) c) (σ.1 0 0 * σ.1 0 1) 0 (0, none)).2)), h4) := by
        rw [← t]
        simp (disch := omega) only [e_707, x_707, xs, r1, s1]
        exact rfl
      simp (disch := omega) only [e_1117, x_1117, xs, ↓reduceIte, h1, i00, w5, l1, h3, z3, w0, m1, t0]
  · rw [if_neg ea] at h1 ⊢
    refine ⟨rc h 1, ?_, ⟨L, nw, sp, IC_rz (by decide) I⟩, cB_e rfl⟩
    simp (disch := omega) only [e_1117, x_1117, xs, ↓reduceIte, h1, ltm, c_rf1 hX]
