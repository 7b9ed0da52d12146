/-! THE CLASS: reach, can -/
theorem arF_or (w : Wo) (c : Nat) : ∀ n s a, arF w c n s a = a ||| arF w c n s 0 := by
  intro n
  induction n with
  | zero => intro s a; simp [arF]
  | succ n ih =>
    intro s a
    unfold arF
    cases stp w c s with
    | none => exact ih _ _
    | some t =>
      simp only
      rw [ih (s + 1) (a ||| 2 ^ t), ih (s + 1) (0 ||| 2 ^ t), Nat.zero_or, Nat.or_assoc]
theorem arF_last (w : Wo) (c : Nat) : ∀ n s a, arF w c (n + 1) s a = (match stp w c (s + n) with | none => arF w c n s a | some t => arF w c n s a ||| 2 ^ t) := by
  intro n
  induction n with
  | zero => intro s a; rfl
  | succ n ih =>
    intro s a
    rw [arF, ih, show s + 1 + n = s + (n + 1) by omega]
    rfl
theorem arB_4 {w : Wo} {c : Nat} (h : fre w c = true) : arB w c = arF w c 4 0 0 ||| 2 ^ c := by
  unfold arB
  rw [if_pos h, arF_last w c 4 0 0, stp_stay h (by omega)]
theorem arF_lt {w : Wo} {d : Nat} (hk : WOK d w) (c : Nat) : ∀ n s a, a < 2 ^ 30 → arF w c n s a < 2 ^ 30 := by
  intro n
  induction n with
  | zero => intro s a h; exact h
  | succ n ih =>
    intro s a h
    unfold arF
    cases q : stp w c s with
    | none => exact ih _ _ h
    | some t => exact ih _ _ (or_lt h (stp_lt hk q))
theorem arB_lt {w : Wo} {d : Nat} (hk : WOK d w) (c : Nat) : arB w c < 2 ^ 30 := by
  unfold arB
  split
  · exact arF_lt hk c 5 0 0 (by decide)
  · decide
theorem rsF_or (w : Wo) (b c : Nat) : ∀ n s a, rsF w b c n s a = if b.testBit c = true then arF w c n s a else a := by
  intro n
  induction n with
  | zero => intro s a; unfold rsF arF; split <;> rfl
  | succ n ih =>
    intro s a
    unfold rsF arF
    rw [ih]
    by_cases e : b.testBit c = true
    · (rw [if_pos e, if_pos e, if_pos e]) <;> (cases stp w c s <;> rfl)
    · rw [if_neg e, if_neg e, if_neg e]
theorem or_bit {a t : Nat} (h : a.testBit t = true) : a ||| 2 ^ t = a := by
  apply Nat.eq_of_testBit_eq
  intro k
  rw [Nat.testBit_or, Nat.testBit_two_pow]
  by_cases e : t = k
  · subst e; rw [h]; rfl
  · simp [e]
/-- one cell more, as the class does it -/
theorem ar_rs {w : Wo} {a b c : Nat} (hb : ∀ k, b.testBit k = true → fre w k = true) (hab : ∀ k, b.testBit k = true → a.testBit k = true) (h : b.testBit c = true) : a ||| arB w c = rsF w b c 4 0 a := by
  rw [rsF_or, if_pos h, arF_or w c 4 0 a, arB_4 (hb c h), Nat.or_comm (arF w c 4 0 0), ← Nat.or_assoc, or_bit (hab c h)]
theorem ors {a b k : Nat} (h : a.testBit k = true) : (a ||| b).testBit k = true := by rw [Nat.testBit_or, h]; rfl
theorem arF_s (w : Wo) (c : Nat) (n s a k : Nat) (h : a.testBit k = true) : (arF w c n s a).testBit k = true := by rw [arF_or]; exact ors h
theorem rsF_s (w : Wo) (b c : Nat) (n s a k : Nat) (h : a.testBit k = true) : (rsF w b c n s a).testBit k = true := by
  rw [rsF_or]
  split
  · exact arF_s _ _ _ _ _ _ h
  · exact h
theorem arF_f (w : Wo) (c : Nat) : ∀ n s a, (∀ k, a.testBit k = true → fre w k = true) → ∀ k, (arF w c n s a).testBit k = true → fre w k = true := by
  intro n
  induction n with
  | zero => intro s a h; exact h
  | succ n ih =>
    intro s a h
    unfold arF
    cases q : stp w c s with
    | none => exact ih _ _ h
    | some t =>
      refine ih _ _ (fun k z => ?_)
      rw [Nat.testBit_or, Nat.testBit_two_pow] at z
      by_cases e : t = k
      · subst e; exact stp_fre q
      · simp only [e, decide_false, Bool.or_false] at z; exact h k z
theorem rcF_f (w : Wo) (b : Nat) : ∀ n c a, (∀ k, a.testBit k = true → fre w k = true) → ∀ k, (rcF w b n c a).testBit k = true → fre w k = true := by
  intro n
  induction n with
  | zero => intro c a h; exact h
  | succ n ih =>
    intro c a h
    unfold rcF
    refine ih _ _ (fun k z => ?_)
    rw [rsF_or] at z
    split at z
    · exact arF_f w c 4 0 a h k z
    · exact h k z
theorem c_wide {h : Hp} {mo d : Nat} {w : Wo} (hk : WOK d w) (g : CM h mo w) (b : Nat) (hb30 : b < 2 ^ 30) (hb : ∀ k, b.testBit k = true → fre w k = true) (l1 l2 : Option AV) (x4 : Int32) : ∀ (n c a : Nat), c + n = w 0 0 * w 0 1 → a < 2 ^ 30 → (∀ k, b.testBit k = true → a.testBit k = true) → run 1 510 31 [some (vo (some (mo, 5, 0))), l1, l2, some (vi (nI b)), some (vi x4), some (vi (nI a)), some (vi (nI c))] [] h = run 1 510 68 [some (vo (some (mo, 5, 0))), l1, l2, some (vi (nI b)), some (vi x4), some (vi (nI (rcF w b n c a))), some (vi (nI (w 0 0 * w 0 1)))] [] h := by
  have cc := cells_le hk
  have f2 := g.2.1.2.2.1
  have w7 := g.1.2.2.2.1
  intro n
  induction n with
  | zero =>
    intro c a hc ha hab
    obtain rfl : c = w 0 0 * w 0 1 := by omega
    rw [x_510_31]
    unfold rcF
    generalize hX : run 1 510 68 _ _ _ = X
    simp (disch := omega) only [x_510, xs, ↓reduceIte, f2, nl_le, Nat.le_refl, ↓hX]
  | succ n ih =>
    intro c a hc ha hab
    have e : ¬ w 0 0 * w 0 1 ≤ c := by omega
    have ar := (g.2.2 c (by omega)).2.2.1
    have al := arB_lt hk c
    rw [rcF, ← ih (c + 1) (rsF w b c 4 0 a) (by omega) (rsF_lt hk b c 4 0 a ha) (fun k z => rsF_s w b c 4 0 a k (hab k z)), x_510_31]
    by_cases q : b.testBit c = true
    · have key := ar_rs hb hab q
      simp (disch := omega) only [x_510, xs, ↓reduceIte, f2, nl_le, e, nl_bit, eq_true q, w7, ↓ib_n, cl_n, ar, nl_or, key, nl_inc]
    · have key : rsF w b c 4 0 a = a := by rw [rsF_or, if_neg q]
      simp (disch := omega) only [x_510, xs, ↓reduceIte, f2, nl_le, e, nl_bit, q, Bool.false_eq_true, key, nl_inc]
theorem reF_fix {w : Wo} {b : Nat} (h : rcF w b (w 0 0 * w 0 1) 0 b = b) : ∀ m, reF w m b = b := by
  intro m
  induction m with
  | zero => rfl
  | succ m ih => unfold reF; rw [h]; exact ih
theorem c_spr_l {h : Hp} {mo d N : Nat} {w : Wo} (hk : WOK d w) (g : CM h mo w) (hN : N ≤ 30) (l1 : Option AV) : ∀ (m i b : Nat) (l5 l6 : Option AV), i + m = N → b < 2 ^ 30 → (∀ k, b.testBit k = true → fre w k = true) → ∀ (x2 : Int32), run 1 510 19 [some (vo (some (mo, 5, 0))), l1, some (vi (nI N)), some (vi (nI b)), some (vi (nI i)), l5, l6] [] h = some (some (vi (nI (reF w m b))), h) := by
  have cc := cells_le hk
  intro m
  induction m with
  | zero =>
    intro i b l5 l6 hi hb hf x2
    have e : N ≤ i := by omega
    rw [x_510_19]
    simp (disch := omega) only [x_510, xs, ↓reduceIte, nl_le, eq_true e]
    rfl
  | succ m ih =>
    intro i b l5 l6 hi hb hf x2
    have e : ¬ N ≤ i := by omega
    have r := c_wide hk g b hb hf l1 (some (vi (nI N))) (nI i) (w 0 0 * w 0 1) 0 b (by omega) hb (fun k z => z)
    have rl := rcF_lt hk b (w 0 0 * w 0 1) 0 b hb
    have rf := rcF_f w b (w 0 0 * w 0 1) 0 b hf
    have s0 : run 1 510 19 [some (vo (some (mo, 5, 0))), l1, some (vi (nI N)), some (vi (nI b)), some (vi (nI i)), l5, l6] [] h = run 1 510 31 [some (vo (some (mo, 5, 0))), l1, some (vi (nI N)), some (vi (nI b)), some (vi (nI i)), some (vi (nI b)), some (vi (nI 0))] [] h := by
      rw [x_510_19]
      simp (disch := omega) only [x_510, xs, ↓reduceIte, nl_le, e]
      rfl
    rw [s0, r, reF]
    by_cases q : rcF w b (w 0 0 * w 0 1) 0 b = b
    · rw [q, reF_fix q]
      simp (disch := omega) only [x_510, xs, ↓reduceIte]
    · rw [← ih (i + 1) (rcF w b (w 0 0 * w 0 1) 0 b) (some (vi (nI (rcF w b (w 0 0 * w 0 1) 0 b)))) (some (vi (nI (w 0 0 * w 0 1)))) (by omega) rl rf 0]
      simp (disch := omega) only [x_510, xs, ↓reduceIte, nl_eq, q, nl_inc]
theorem p2_f {w : Wo} {c : Nat} (h : fre w c = true) : ∀ k, (2 ^ c).testBit k = true → fre w k = true := fun k z => by
  rw [Nat.testBit_two_pow] at z
  rw [← of_decide_eq_true z]
  exact h
theorem c_spread {h : Hp} {mo d c N : Nat} {w : Wo} (hk : WOK d w) (g : CM h mo w) (hN : N ≤ 30) (hc : fre w c = true) : call 510 [vo (some (mo, 5, 0)), vi (nI c), vi (nI N)] h = some (some (vi (nI (reF w N (2 ^ c)))), h) := by
  have cc := cells_le hk
  have cl := fre_lt hc
  have h1 := c_free (c := c) hk g (by omega)
  rw [hc] at h1
  rw [← c_spr_l hk g hN (some (vi (nI c))) N 0 (2 ^ c) none none (by omega) (p2_lt (by omega)) (p2_f hc) 0]
  simp (disch := omega) only [e_510, x_510, xs, ↓reduceIte, h1, bI_t, i10, nl_s1]
  exact rfl
theorem q_reach (c n : Int32) : Cok 1112 [c, n] (s_reach c n) := by
  rintro σ h ⟨L, nw, sp, I⟩
  obtain ⟨hn, hX, -, ⟨hw, ht⟩, -, hG, -⟩ := id I
  have w0 := hX.1.1
  obtain ⟨mo, m1, m2, -⟩ := hw.1
  have h1 := c_nfree c I
  have h2 : call 1129 [vi n, vi 0, vi 30] h = some (some (vi (wdI n (nI 0) (nI 30))), h) := c_out n (nI 0) (nI 30) h
  unfold s_reach
  simp only [List.map]
  by_cases e1 : freI σ.1 c = true
  · rw [if_pos e1] at h1 ⊢
    obtain ⟨k, rfl, hk, hk30⟩ := freI_of hG.1 e1
    rcases wd_3 n 0 30 (by decide) (by omega) with ⟨z1, z2⟩ | ⟨z1, z2, z3⟩ | ⟨z1, z2, z3, z4⟩
    · rw [if_pos z1]
      refine ⟨rc h 4, ?_, ⟨L, nw, sp, IC_rz (by decide) I⟩, cB_e rfl⟩
      simp (disch := omega) only [e_1112, x_1112, xs, ↓reduceIte, h1, i00, h2, z2, ltm, c_rf4 hX]
    · rw [if_neg z1, if_pos z2]
      refine ⟨rc h 6, ?_, ⟨L, nw, sp, IC_rz (by decide) I⟩, cB_e rfl⟩
      simp (disch := omega) only [e_1112, x_1112, xs, ↓reduceIte, h1, i00, h2, z3, ltm, c_rf6 hX]
    · rw [if_neg z1, if_neg z2]
      obtain ⟨j, rfl, j1, j2⟩ := z4
      refine ⟨h, ?_, ⟨L, nw, sp, I⟩, cB_e rfl⟩
      have h3 := c_spread hG.1 m2 j2 hk
      simp (disch := omega) only [e_1112, x_1112, xs, ↓reduceIte, h1, i00, h2, z3, w0, m1, h3, cl_n]
  · rw [if_neg e1] at h1 ⊢
    refine ⟨rc h 1, ?_, ⟨L, nw, sp, IC_rz (by decide) I⟩, cB_e rfl⟩
    simp (disch := omega) only [e_1112, x_1112, xs, ↓reduceIte, h1, ltm, c_rf1 hX]
theorem q_can (a b : Int32) : Cok 1113 [a, b] (s_can a b) := by
  rintro σ h ⟨L, nw, sp, I⟩
  obtain ⟨hn, hX, -, ⟨hw, ht⟩, -, hG, -⟩ := id I
  have w0 := hX.1.1
  obtain ⟨mo, m1, m2, -⟩ := hw.1
  have f1 := hw.2.1.1
  have k3 := hG.1.2.2.2.1
  have k4 := hG.1.2.2.2.2.1
  have h1 := c_two a b I
  unfold s_can
  simp only [List.map]
  by_cases e1 : isT σ.1 a b = true
  · rw [if_pos e1] at h1 ⊢
    obtain ⟨j, k, rfl, rfl, hj, hk, -⟩ := isT_of k3 e1
    refine ⟨h, ?_, ⟨L, nw, sp, I⟩, cB_e rfl⟩
    have h3 := c_sight hG.1 hw hk (Nat.le_refl _) (by omega)
    have af : fre σ.1 (ago σ.1 k (σ.1 0 4)) = true := (hG.1.2.2.2.2.2.2 k hk).2.2.2.2.2.1 _ (by omega)
    have h4 := c_spread (N := σ.1 0 4) hG.1 m2 (by omega) af
    have h4' : call 510 [vo (some (mo, 5, 0)), vi (nI (σ.1 (20 + k) (σ.1 0 5 - σ.1 0 4))), vi (nI (σ.1 0 4))] h = some (some (vi (nI (reF σ.1 (σ.1 0 4) (2 ^ ago σ.1 k (σ.1 0 4))))), h) := h4
    simp (disch := omega) only [e_1113, x_1113, xs, ↓reduceIte, h1, i00, w0, m1, ht, h3, f1, h4', cl_n]
  · rw [if_neg e1] at h1 ⊢
    refine ⟨rc h 1, ?_, ⟨L, nw, sp, IC_rz (by decide) I⟩, cB_e rfl⟩
    simp (disch := omega) only [e_1113, x_1113, xs, ↓reduceIte, h1, ltm, c_rf1 hX]
