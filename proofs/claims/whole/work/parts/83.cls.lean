/-! THE CLASS: meet, never, crowd, judge -/
theorem dys_c (w : Wo) (p i : Nat) : ∀ n, i ≤ n → dys w n (20 + p) (w 0 5 + i) = cel (dys w i) p := by
  intro n
  induction n with
  | zero =>
    intro h
    obtain rfl : i = 0 := Nat.le_zero.mp h
    rfl
  | succ n ih =>
    intro h
    by_cases e : i = n + 1
    · subst e; unfold cel; rw [dys_5]
    · rw [← ih (by omega)]
      exact dayW_t _ (by rw [dys_5]; omega)
theorem c_pl_i {L : Nat → Prop} {h : Hp} {wid n p i : Nat} {w : Wo} (hk : WOK 60 w) (hn : n ≤ 60) (C : CW L h wid (dys w n)) (hp : p < w 0 3) (hi : i ≤ n) : call 1006 [vo (some (wid, 10, 0)), vi (nI p), vi (nI (w 0 5 + i))] h = some (some (vi (nI (cel (dys w i) p))), h) := by
  rw [c_placeOf (dys_ok hk n) C (by rw [dys_0 _ _ _ (by decide)]; exact hp) (by rw [dys_5]; omega) (by omega), dys_c w p i n hi]
theorem cel_i {w : Wo} {p : Nat} (hk : WOK 60 w) (hp : p < w 0 3) (i : Nat) : cel (dys w i) p < 30 := cel_lt (dys_ok hk i) (by rw [dys_0 _ _ _ (by decide)]; exact hp)
theorem c_meet_0 {L : Nat → Prop} {h : Hp} {wid a b : Nat} {w : Wo} (hk : WOK 60 w) (C : CW L h wid (dys w 60)) (ht : hI h wid 2 = nI (w 0 5)) (ha : a < w 0 3) (hb : b < w 0 3) : ∀ (n i : Nat), i + n = 61 → run 1 1012 2 [some (vo (some (wid, 10, 0))), some (vi (nI a)), some (vi (nI b)), some (vi (nI i))] [] h = some (some (vi (oN (fN (mP w a b 0) n i))), h) := by
  have k5 := hk.2.2.2.2.2.1
  intro n
  induction n with
  | zero =>
    intro i hi
    obtain rfl : i = 61 := by omega
    rw [x_1012_2]
    have e : 60 < 61 := by omega
    simp (disch := omega) only [x_1012, xs, ↓reduceIte, cz_60, eq_true e]
    rfl
  | succ n ih =>
    intro i hi
    have e : ¬ 60 < i := by omega
    have h1 := c_pl_i (p := a) (i := i) hk (by omega) C ha (by omega)
    have h2 := c_pl_i (p := b) (i := i) hk (by omega) C hb (by omega)
    have c1 := cel_i hk ha i
    have c2 := cel_i hk hb i
    rw [x_1012_2]
    unfold fN
    by_cases q : cel (dys w i) a = cel (dys w i) b
    · have : mP w a b 0 i = true := by unfold mP; rw [if_pos rfl]; exact decide_eq_true q
      rw [if_pos this]
      simp (disch := omega) only [x_1012, xs, ↓reduceIte, cz_60, e, ht, nI_add, h1, h2, nl_eq, eq_true q]
      rfl
    · have : ¬ mP w a b 0 i = true := by unfold mP; rw [if_pos rfl]; exact fun z => q (of_decide_eq_true z)
      rw [if_neg this, ← ih (i + 1) (by omega)]
      simp (disch := omega) only [x_1012, xs, ↓reduceIte, cz_60, e, ht, nI_add, h1, h2, nl_eq, q, nl_inc]
theorem c_meet_1 {L : Nat → Prop} {h : Hp} {wid a b : Nat} {w : Wo} (hk : WOK 60 w) (C : CW L h wid (dys w 60)) (ht : hI h wid 2 = nI (w 0 5)) (ha : a < w 0 3) (hb : b < w 0 3) : ∀ (n i : Nat) (l4 l5 l6 : Option AV), i + n = 61 → 1 ≤ i → run 1 1013 2 [some (vo (some (wid, 10, 0))), some (vi (nI a)), some (vi (nI b)), some (vi (nI i)), l4, l5, l6] [] h = some (some (vi (oN (fN (mP w a b 1) n i))), h) := by
  have k5 := hk.2.2.2.2.2.1
  intro n
  induction n with
  | zero =>
    intro i l4 l5 l6 hi h0
    obtain rfl : i = 61 := by omega
    rw [x_1013_2]
    have e : 60 < 61 := by omega
    simp (disch := omega) only [x_1013, xs, ↓reduceIte, cz_60, eq_true e]
    rfl
  | succ n ih =>
    intro i l4 l5 l6 hi h0
    have e : ¬ 60 < i := by omega
    have h1 := c_pl_i (p := a) (i := i) hk (by omega) C ha (by omega)
    have h2 := c_pl_i (p := b) (i := i) hk (by omega) C hb (by omega)
    have h3 := c_pl_i (p := a) (i := i - 1) hk (by omega) C ha (by omega)
    have h4 := c_pl_i (p := b) (i := i - 1) hk (by omega) C hb (by omega)
    have em : nI (w 0 5 + i) - 1 = nI (w 0 5 + (i - 1)) := by rw [show (1 : Int32) = nI 1 from rfl, pk_sub (by omega)]; congr 1; omega
    have c1 := cel_i hk ha i
    have c2 := cel_i hk hb i
    have c3 := cel_i hk ha (i - 1)
    have c4 := cel_i hk hb (i - 1)
    rw [x_1013_2]
    unfold fN
    have mp : mP w a b 1 i = decide (cel (dys w (i - 1)) a ≠ cel (dys w (i - 1)) b ∧ cel (dys w i) a = cel (dys w (i - 1)) b ∧ cel (dys w i) b = cel (dys w (i - 1)) a) := by unfold mP; rw [if_neg (by decide)]
    rw [mp]
    generalize cel (dys w i) a = x1 at *
    generalize cel (dys w i) b = x2 at *
    generalize cel (dys w (i - 1)) a = x3 at *
    generalize cel (dys w (i - 1)) b = x4 at *
    by_cases q1 : x1 = x4
    · by_cases q2 : x2 = x3
      · by_cases q3 : x3 = x4
        · rw [if_neg (by rw [decide_eq_false (fun z => z.1 q3)]; decide), ← ih (i + 1) (some (vi (nI x3))) (some (vi (nI x4))) (some (vi 1)) (by omega) (by omega)]
          simp (disch := omega) only [x_1013, xs, ↓reduceIte, cz_60, e, ht, nI_add, em, h1, h2, h3, h4, nl_eq, eq_true q1, eq_true q2, eq_true q3, i10, i00, nl_inc]
        · rw [if_pos (decide_eq_true ⟨q3, q1, q2⟩)]
          simp (disch := omega) only [x_1013, xs, ↓reduceIte, cz_60, e, ht, nI_add, em, h1, h2, h3, h4, nl_eq, eq_true q1, eq_true q2, q3, i10, i00, nl_inc]
          rfl
      · rw [if_neg (by rw [decide_eq_false (fun z => q2 z.2.2)]; decide), ← ih (i + 1) (some (vi (nI x3))) (some (vi (nI x4))) (some (vi 0)) (by omega) (by omega)]
        simp (disch := omega) only [x_1013, xs, ↓reduceIte, cz_60, e, ht, nI_add, em, h1, h2, h3, h4, nl_eq, eq_true q1, q2, i10, i00, nl_inc]
    · rw [if_neg (by rw [decide_eq_false (fun z => q1 z.2.1)]; decide), ← ih (i + 1) (some (vi (nI x3))) (some (vi (nI x4))) (some (vi 0)) (by omega) (by omega)]
      simp (disch := omega) only [x_1013, xs, ↓reduceIte, cz_60, e, ht, nI_add, em, h1, h2, h3, h4, nl_eq, q1, i10, i00, nl_inc]
theorem q_meet (a b x : Int32) : Cok 1109 [a, b, x] (s_meet a b x) := by
  rintro σ h ⟨L, nw, sp, I⟩
  obtain ⟨hn, hX, -, ⟨hw, ht⟩, -, hG, -⟩ := id I
  have w0 := hX.1.1
  have k3 := hG.1.2.2.2.1
  have h1 := c_two a b I
  have h2 : call 1130 [vi x, vi 1] h = some (some (vi (if x < 0 ∨ 1 < x then -2 else 0)), h) := c_ask x 1 h
  unfold s_meet
  simp only [List.map]
  by_cases e1 : isT σ.1 a b = true
  · rw [if_pos e1] at h1 ⊢
    obtain ⟨j, k, rfl, rfl, hj, hk, -⟩ := isT_of k3 e1
    by_cases e2 : x < 0 ∨ 1 < x
    · rw [if_pos e2] at h2 ⊢
      refine ⟨rc h 2, ?_, ⟨L, nw, sp, IC_rz (by decide) I⟩, cB_e rfl⟩
      simp (disch := omega) only [e_1109, x_1109, xs, ↓reduceIte, h1, i00, h2, ltm, c_rf2 hX]
    · rw [if_neg e2] at h2 ⊢
      obtain ⟨-, e, rfl, he⟩ := in1_t e2
      obtain ⟨h2', r1, r2, r3⟩ := c_foresee (n := 60) (by omega) hG.1 (by omega) ht hw
      have r1' : call 1010 [vo (some (nw, 10, 0)), vi 60] h = some (none, h2') := r1
      have J := IC_k (ck_m r2 (fun i j z => Or.inr (Or.inr (Or.inr (Or.inr (Or.inl z)))))) I
      refine ⟨h2', ?_, ⟨L, nw, sp, J⟩, cB_e r2.1⟩
      have w02 := J.2.1.1.1
      have ht2 := J.2.2.2.1.2
      have q1 : (nI e = 0) = (e = 0) := nl_eq (by omega) (by decide)
      rcases (by omega : e = 0 ∨ e = 1) with rfl | rfl
      · have m0 := c_meet_0 hG.1 r3 ht2 hj hk 61 0 rfl
        have m0' : call 1012 [vo (some (nw, 10, 0)), vi (nI j), vi (nI k)] h2' = some (some (vi (oN (fN (mP σ.1 j k 0) 61 0))), h2') := by
          rw [← m0]
          simp only [e_1012, x_1012, xs]
          exact rfl
        simp (disch := omega) only [e_1109, x_1109, xs, ↓reduceIte, h1, i00, h2, w0, r1', w02, q1, m0', cl_n]
      · have m0 := c_meet_1 hG.1 r3 ht2 hj hk 60 1 none none none rfl (by omega)
        have m0' : call 1013 [vo (some (nw, 10, 0)), vi (nI j), vi (nI k)] h2' = some (some (vi (oN (fN (mP σ.1 j k 1) 60 1))), h2') := by
          rw [← m0]
          simp only [e_1013, x_1013, xs]
          exact rfl
        simp (disch := omega) only [e_1109, x_1109, xs, ↓reduceIte, h1, i00, h2, w0, r1', w02, q1, m0', cl_n, Nat.reduceEqDiff]
  · rw [if_neg e1] at h1 ⊢
    refine ⟨rc h 1, ?_, ⟨L, nw, sp, IC_rz (by decide) I⟩, cB_e rfl⟩
    simp (disch := omega) only [e_1109, x_1109, xs, ↓reduceIte, h1, ltm, c_rf1 hX]
def orF (w : Wo) (p : Nat) : Nat → Nat → Nat → Nat
  | 0, _, b => b
  | m + 1, i, b => orF w p m (i + 1) (b ||| 2 ^ cel (dys w i) p)
theorem orF_lt {w : Wo} {p : Nat} (hk : WOK 60 w) (hp : p < w 0 3) : ∀ m i b, b < 2 ^ 30 → orF w p m i b < 2 ^ 30 := by
  intro m
  induction m with
  | zero => intro i b hb; exact hb
  | succ m ih => intro i b hb; exact ih _ _ (or_lt hb (cel_i hk hp i))
theorem andn_or (f a b : Nat) : andn f (a ||| b) = andn (andn f a) b := by
  apply Nat.eq_of_testBit_eq
  intro k
  simp only [andn_t, Nat.testBit_or]
  cases f.testBit k <;> cases a.testBit k <;> cases b.testBit k <;> rfl
theorem orF_nv (w : Wo) (p f : Nat) : ∀ m i b, andn f (orF w p m (i + 1) b) = nvF w p m i (andn f b) := by
  intro m
  induction m with
  | zero => intro i b; rfl
  | succ m ih =>
    intro i b
    unfold orF nvF
    rw [ih, andn_or]
theorem c_placesOf {L : Nat → Prop} {h : Hp} {wid p n : Nat} {w : Wo} (hk : WOK 60 w) (hn : n ≤ 60) (C : CW L h wid (dys w n)) (ht : hI h wid 2 = nI (w 0 5)) (hp : p < w 0 3) : ∀ (m i b : Nat) (l5 : Option AV), i + m = n + 1 → b < 2 ^ 30 → run 1 1014 5 [some (vo (some (wid, 10, 0))), some (vi (nI p)), some (vi (nI n)), some (vi (nI b)), some (vi (nI i)), l5] [] h = some (some (vi (nI (orF w p m i b))), h) := by
  have k5 := hk.2.2.2.2.2.1
  intro m
  induction m with
  | zero =>
    intro i b l5 hi hb
    have e : n < i := by omega
    rw [x_1014_5]
    simp (disch := omega) only [x_1014, xs, ↓reduceIte, nl_lt, eq_true e]
    rfl
  | succ m ih =>
    intro i b l5 hi hb
    have e : ¬ n < i := by omega
    have h1 := c_pl_i (p := p) (i := i) hk hn C hp (by omega)
    have c1 := cel_i hk hp i
    have o9 : (nI (cel (dys w i) p) = -9) = False := by
      have := oN_9 (o := some (cel (dys w i) p)) (fun t z => by cases z; exact c1)
      rw [oN_s] at this
      rw [this]; simp
    have p2 := p2_lt c1
    rw [x_1014_5]
    unfold orF
    rw [← ih (i + 1) (b ||| 2 ^ cel (dys w i) p) (some (vi (nI (cel (dys w i) p)))) (by omega) (or_lt hb c1)]
    simp (disch := omega) only [x_1014, xs, ↓reduceIte, nl_lt, e, ht, nI_add, h1, o9, nl_s1, nl_or, nl_inc]
theorem q_never (p n : Int32) : Cok 1110 [p, n] (s_never p n) := by
  rintro σ h ⟨L, nw, sp, I⟩
  obtain ⟨hn, hX, -, ⟨hw, ht⟩, -, hG, -⟩ := id I
  have w0 := hX.1.1
  have k3 := hG.1.2.2.2.1
  have k5 := hG.1.2.2.2.2.2.1
  have h1 := c_here p I
  have h2 : call 1129 [vi n, vi 0, vi 60] h = some (some (vi (wdI n (nI 0) (nI 60))), h) := c_out n (nI 0) (nI 60) h
  unfold s_never
  simp only [List.map]
  by_cases e1 : isP σ.1 p = true
  · rw [if_pos e1] at h1 ⊢
    obtain ⟨k, rfl, hk⟩ := isP_of k3 e1
    rcases wd_3 n 0 60 (by decide) (by omega) with ⟨z1, z2⟩ | ⟨z1, z2, z3⟩ | ⟨z1, z2, z3, z4⟩
    · rw [if_pos z1]
      refine ⟨rc h 4, ?_, ⟨L, nw, sp, IC_rz (by decide) I⟩, cB_e rfl⟩
      simp (disch := omega) only [e_1110, x_1110, xs, ↓reduceIte, h1, i00, h2, z2, ltm, c_rf4 hX]
    · rw [if_neg z1, if_pos z2]
      refine ⟨rc h 6, ?_, ⟨L, nw, sp, IC_rz (by decide) I⟩, cB_e rfl⟩
      simp (disch := omega) only [e_1110, x_1110, xs, ↓reduceIte, h1, i00, h2, z3, ltm, c_rf6 hX]
    · rw [if_neg z1, if_neg z2]
      obtain ⟨j, rfl, j1, j2⟩ := z4
      obtain ⟨h2', r1, r2, r3⟩ := c_foresee (by omega) hG.1 j2 ht hw
      have J := IC_k (ck_m r2 (fun i j z => Or.inr (Or.inr (Or.inr (Or.inr (Or.inl z)))))) I
      refine ⟨h2', ?_, ⟨L, nw, sp, J⟩, cB_e r2.1⟩
      have w02 := J.2.1.1.1
      have ht2 := J.2.2.2.1.2
      obtain ⟨mo, m1, m2, -⟩ := J.2.2.2.1.1.1
      have f3 := m2.2.1.2.2.2
      have m0 := c_placesOf hG.1 j2 r3 ht2 hk (j + 1) 0 0 none (by omega) (by decide)
      have m0' : call 1014 [vo (some (nw, 10, 0)), vi (nI k), vi (nI j)] h2' = some (some (vi (nI (orF σ.1 k (j + 1) 0 0))), h2') := by
        rw [← m0]
        simp only [e_1014, x_1014, xs]
        exact rfl
      have ol := orF_lt hG.1 hk (j + 1) 0 0 (by decide)
      have fl := frB_lt hG.1
      have key : andn (frB σ.1) (orF σ.1 k (j + 1) 0 0) = nvF σ.1 k j 0 (andn (frB σ.1) (2 ^ cel σ.1 k)) := by
        unfold orF
        rw [orF_nv, Nat.zero_or]
        rfl
      simp (disch := omega) only [e_1110, x_1110, xs, ↓reduceIte, h1, i00, h2, z3, w0, r1, w02, m1, f3, m0', nl_andn, key, cl_n]
  · rw [if_neg e1] at h1 ⊢
    refine ⟨rc h 1, ?_, ⟨L, nw, sp, IC_rz (by decide) I⟩, cB_e rfl⟩
    simp (disch := omega) only [e_1110, x_1110, xs, ↓reduceIte, h1, ltm, c_rf1 hX]
