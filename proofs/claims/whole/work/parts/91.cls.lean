/-! THE CLASS: rows of counts -/
theorem c_fill_l {r n : Nat} {v : Int32} (hn : n < 2 ^ 31) (h : Hp) : ∀ (m i : Nat) (hh : Hp), i + m = n → ck (fun a b => a = r ∧ b < n) h hh → (∀ j, j < i → hI hh r j = v) → ∃ h2, run 0 1400 5 [some (vo (some (r, 13, n))), some (vi v), some (vi (nI i)), some (vi (nI n))] [] hh = some (none, h2) ∧ ck (fun a b => a = r ∧ b < n) h h2 ∧ ∀ j, j < n → hI h2 r j = v := by
  intro m
  induction m with
  | zero =>
    intro i hh hi K U
    obtain rfl : i = n := by omega
    refine ⟨hh, ?_, K, U⟩
    rw [x_1400_5]
    simp (disch := omega) only [x_1400, xs, ↓reduceIte, nl_le, Nat.le_refl]
  | succ m ih =>
    intro i hh hi K U
    have e : ¬ n ≤ i := by omega
    have ib : (nI i < 0 ∨ n ≤ (nI i).toNatClampNeg) = False := ib_n (by omega) hn
    obtain ⟨h2, r1, r2, r3⟩ := ih (i + 1) (hsI hh r i v) (by omega) (ck_t K (ck_I ⟨rfl, by omega⟩)) (fun j hj => by
      by_cases ej : j = i
      · subst ej; exact hI_e _ _ _ _
      · rw [hI_n (by omega)]; exact U j (by omega))
    refine ⟨h2, ?_, r2, r3⟩
    rw [x_1400_5, ← r1]
    simp (disch := omega) only [x_1400, xs, ↓reduceIte, nl_le, e, ↓ib, cl_n, nl_inc]
theorem c_fill {r n : Nat} (v : Int32) (hn : n < 2 ^ 31) (h : Hp) : ∃ h2, call 1400 [vo (some (r, 13, n)), vi v] h = some (none, h2) ∧ ck (fun a b => a = r ∧ b < n) h h2 ∧ ∀ j, j < n → hI h2 r j = v := by
  obtain ⟨h2, r1, r2, r3⟩ := c_fill_l (r := r) (v := v) hn h n 0 h (by omega) (ck_r _ _) (fun j hj => absurd hj (by omega))
  refine ⟨h2, ?_, r2, r3⟩
  rw [← r1]
  simp (disch := omega) only [e_1400, x_1400, xs, al_n]
  exact rfl
def sS (i _ : Nat) : Prop := 36 ≤ i ∧ i ≤ 38
def SC (h : Hp) (mo : Nat) (w m : Wo) : Prop := CM h mo w ∧ (mo = 1 ∨ 70 ≤ mo) ∧ (hR h 33 1 = some (34, 13, 6) ∧ hR h 33 2 = some (35, 13, 6) ∧ hR h 33 3 = some (36, 13, 30) ∧ hR h 33 4 = some (37, 13, 30) ∧ hR h 33 5 = some (38, 13, 30)) ∧ m 0 2 ≤ 6 ∧ hI h 33 0 = nI (m 0 2) ∧ ∀ i, i < m 0 2 → (hI h 34 i = nI (m 2 i) ∧ hI h 35 i = nI (m 3 i)) ∧ m 2 i ≤ 10 ∧ m 3 i < 30
theorem SC_k {h h2 : Hp} {mo : Nat} {w m : Wo} (a : ck sS h h2) (c : SC h mo w m) : SC h2 mo w m := by
  obtain ⟨c1, c2, ⟨r1, r2, r3, r4, r5⟩, c4, c5, c6⟩ := c
  have e : ∀ i j, (i < 36 ∨ 38 < i) → hI h2 i j = hI h i j := fun i j z => a.2.2 i j (by unfold sS; omega)
  refine ⟨CM_k a (fun i j x y => by unfold sS; omega) c1, c2, ⟨(a.2.1 _ _).trans r1, (a.2.1 _ _).trans r2, (a.2.1 _ _).trans r3, (a.2.1 _ _).trans r4, (a.2.1 _ _).trans r5⟩, c4, (e _ _ (by omega)).trans c5, fun i hi => ?_⟩
  obtain ⟨⟨x1, x2⟩, x3⟩ := c6 i hi
  exact ⟨⟨(e _ _ (by omega)).trans x1, (e _ _ (by omega)).trans x2⟩, x3⟩
def RV (h : Hp) (r : Nat) (f : Nat → Nat) : Prop := ∀ c, c < 30 → hI h r c = nI (f c)
theorem c_lat_l {h : Hp} {mo : Nat} {w m : Wo} (g : SC h mo w m) : ∀ (n i a : Nat), i + n = m 0 2 → a ≤ 10 → run 0 704 4 [some (vo (some (33, 7, 0))), some (vi (nI a)), some (vi (nI i))] [] h = some (some (vi (nI (ltF m n i a))), h) := by
  obtain ⟨-, -, ⟨r1, r2, -⟩, c4, c5, c6⟩ := g
  intro n
  induction n with
  | zero =>
    intro i a hi ha
    have e : m 0 2 ≤ i := by omega
    rw [x_704_4]
    simp (disch := omega) only [x_704, xs, ↓reduceIte, c5, nl_le, eq_true e]
    rfl
  | succ n ih =>
    intro i a hi ha
    have e : ¬ m 0 2 ≤ i := by omega
    obtain ⟨⟨x1, -⟩, x3, -⟩ := c6 i (by omega)
    rw [x_704_4]
    unfold ltF
    have em : (if nI a < nI (m 2 i) then nI (m 2 i) else nI a) = nI (if a < m 2 i then m 2 i else a) := by
      simp (disch := omega) only [nl_lt]
      split <;> rfl
    rw [← ih (i + 1) (if a < m 2 i then m 2 i else a) (by omega) (by split <;> omega)]
    simp (disch := omega) only [x_704, xs, ↓reduceIte, c5, nl_le, e, r1, ↓ib_n, cl_n, x1, em, nl_inc]
theorem ltF_l2 {h : Hp} {mo : Nat} {w m : Wo} (g : SC h mo w m) : ∀ n i a, i + n = m 0 2 → a ≤ 10 → ltF m n i a ≤ 10 := by
  intro n
  induction n with
  | zero => intro i a _ ha; exact ha
  | succ n ih =>
    intro i a hi ha
    have := (g.2.2.2.2.2 i (by omega)).2.1
    unfold ltF
    exact ih _ _ (by omega) (by split <;> omega)
theorem c_latest {h : Hp} {mo : Nat} {w m : Wo} (g : SC h mo w m) : call 704 [vo (some (33, 7, 0))] h = some (some (vi (nI (lat m))), h) ∧ lat m ≤ 10 := by
  refine ⟨?_, ltF_l2 g _ _ _ (by omega) (by omega)⟩
  unfold lat
  rw [← c_lat_l g (m 0 2) 0 0 (by omega) (by omega)]
  simp only [e_704, x_704, xs]
  exact rfl
theorem c_start {h : Hp} {mo d fr : Nat} {w m : Wo} (hk : WOK d w) (g : SC h mo w m) (hf : fre w fr = true) : ∃ h2, call 708 [vo (some (33, 7, 0)), vo (some (mo, 5, 0)), vi (nI fr)] h = some (none, h2) ∧ ck sS h h2 ∧ RV h2 36 (fun c => if c = fr then 1 else 0) := by
  have cc := cells_le hk
  have fl := fre_lt hf
  obtain ⟨h1, r1, r2, r3⟩ := c_fill (r := 36) (n := 30) 0 (by decide) h
  have K1 : ck sS h h1 := ck_m r2 (fun i j z => by unfold sS; omega)
  have g1 := SC_k K1 g
  obtain ⟨m1, -, ⟨-, -, w3, -⟩, -⟩ := g1
  have w3' := g.2.2.1.2.2.1
  have hfr := c_free (c := fr) hk m1 (by omega)
  rw [hf] at hfr
  refine ⟨hsI h1 36 fr 1, ?_, ck_t K1 (ck_I (by unfold sS; omega)), fun c hc => ?_⟩
  · simp (disch := omega) only [e_708, x_708, xs, ↓reduceIte, w3', r1, hfr, bI_t, i10, w3, ↓ib_n, cl_n]
  · by_cases e : c = fr
    · show _ = nI (if c = fr then 1 else 0)
      subst e; rw [hI_e, if_pos rfl]; rfl
    · show _ = nI (if c = fr then 1 else 0)
      rw [hI_n (by omega), if_neg e, r3 c hc]; rfl
/-- one sight: what is elsewhere goes -/
def kX (m : Wo) (k i : Nat) (f : Nat → Nat) (c : Nat) : Nat := if m 2 i = k ∧ c ≠ m 3 i then 0 else f c
theorem c_str_i {h : Hp} {mo r k i : Nat} {w m : Wo} (g : SC h mo w m) (hr : r = 36 ∨ r = 37) (hk : k ≤ 10) (hi : i < m 0 2) (f : Nat → Nat) (he : m 2 i = k) : ∀ (n c : Nat) (hh : Hp), c + n = 30 → ck sS h hh → (∀ j, j < 30 → hI hh r j = nI (if j < c then kX m k i f j else f j)) → (∀ a b, a ≠ r → hI hh a b = hI h a b) → ∃ h2, run 0 712 13 [some (vo (some (33, 7, 0))), some (vo (some (r, 13, 30))), some (vi (nI k)), some (vi (nI i)), some (vi (nI c))] [] hh = run 0 712 52 [some (vo (some (33, 7, 0))), some (vo (some (r, 13, 30))), some (vi (nI k)), some (vi (nI i)), some (vi (nI 30))] [] h2 ∧ ck sS h h2 ∧ RV h2 r (kX m k i f) ∧ ∀ a b, a ≠ r → hI h2 a b = hI h a b := by
  intro n
  induction n with
  | zero =>
    intro c hh hc K U V
    obtain rfl : c = 30 := by omega
    refine ⟨hh, ?_, K, fun j hj => by rw [U j hj, if_pos hj], V⟩
    rw [x_712_13]
    generalize hX : run 0 712 52 _ _ _ = X
    simp (disch := omega) only [x_712, xs, ↓reduceIte, cz_30, Nat.le_refl, ↓hX]
  | succ n ih =>
    intro c hh hc K U V
    have e : ¬ 30 ≤ c := by omega
    obtain ⟨-, -, ⟨w1, w2, -⟩, c4, c5, c6⟩ := SC_k K g
    obtain ⟨⟨x1, x2⟩, x3, x4⟩ := c6 i hi
    by_cases q : c = m 3 i
    · obtain ⟨h2, r1, r2, r3, r4⟩ := ih (c + 1) hh (by omega) K (fun j hj => by
        rw [U j hj]
        congr 1
        by_cases ej : j = c
        · subst ej
          rw [if_neg (by omega), if_pos (by omega)]
          unfold kX
          rw [if_neg (fun z => z.2 q)]
        · by_cases el : j < c
          · rw [if_pos el, if_pos (by omega)]
          · rw [if_neg el, if_neg (by omega)]) V
      refine ⟨h2, ?_, r2, r3, r4⟩
      rw [x_712_13, ← r1]
      simp (disch := omega) only [x_712, xs, ↓reduceIte, cz_30, e, w1, w2, ↓ib_n, cl_n, x1, x2, nl_eq, eq_true he, eq_true q, nl_inc]
    · obtain ⟨h2, r1, r2, r3, r4⟩ := ih (c + 1) (hsI hh r c 0) (by omega) (ck_t K (ck_I (by unfold sS; omega))) (fun j hj => by
        by_cases ej : j = c
        · subst ej
          rw [hI_e, if_pos (by omega)]
          unfold kX
          rw [if_pos ⟨he, q⟩]
          rfl
        · rw [hI_n (by omega), U j hj]
          congr 1
          by_cases el : j < c
          · rw [if_pos el, if_pos (by omega)]
          · rw [if_neg el, if_neg (by omega)]) (fun a b n => by rw [hI_n (by omega)]; exact V a b n)
      refine ⟨h2, ?_, r2, r3, r4⟩
      rw [x_712_13, ← r1]
      simp (disch := omega) only [x_712, xs, ↓reduceIte, cz_30, e, w1, w2, ↓ib_n, cl_n, x1, x2, nl_eq, eq_true he, q, nl_inc]
theorem snF_b (m : Wo) (k c : Nat) : ∀ n i b, snF m k c n i b = (b && snF m k c n i true) := by
  intro n
  induction n with
  | zero => intro i b; simp [snF]
  | succ n ih =>
    intro i b
    rw [snF, ih, snF, ih (i + 1) (true && _), Bool.true_and, Bool.and_assoc]
theorem c_str_l {h : Hp} {mo r k : Nat} {w m : Wo} (g : SC h mo w m) (hr : r = 36 ∨ r = 37) (hk : k ≤ 10) : ∀ (n i : Nat) (f : Nat → Nat) (hh : Hp) (l4 : Option AV), i + n = m 0 2 → ck sS h hh → RV hh r f → (∀ a b, a ≠ r → hI hh a b = hI h a b) → ∃ h2, run 0 712 2 [some (vo (some (33, 7, 0))), some (vo (some (r, 13, 30))), some (vi (nI k)), some (vi (nI i)), l4] [] hh = some (none, h2) ∧ ck sS h h2 ∧ RV h2 r (fun c => if snF m k c n i true = true then f c else 0) ∧ ∀ a b, a ≠ r → hI h2 a b = hI h a b := by
  intro n
  induction n with
  | zero =>
    intro i f hh l4 hi K U V
    have c5 := (SC_k K g).2.2.2.2.1
    have c4 := g.2.2.2.1
    have e : m 0 2 ≤ i := by omega
    refine ⟨hh, ?_, K, fun c hc => by rw [U c hc]; rfl, V⟩
    rw [x_712_2]
    simp (disch := omega) only [x_712, xs, ↓reduceIte, c5, nl_le, eq_true e]
  | succ n ih =>
    intro i f hh l4 hi K U V
    obtain ⟨-, -, ⟨w1, w2, -⟩, c4, c5, c6⟩ := SC_k K g
    have e : ¬ m 0 2 ≤ i := by omega
    obtain ⟨⟨x1, x2⟩, x3, x4⟩ := c6 i (by omega)
    have fin : ∀ c, (if snF m k c n (i + 1) true = true then kX m k i f c else 0) = (if snF m k c (n + 1) i true = true then f c else 0) := fun c => by
      rw [snF, snF_b m k c n (i + 1) (true && _)]
      unfold kX
      by_cases a : m 2 i = k
      · by_cases b : c = m 3 i
        · have b' := b.symm
          rw [if_neg (fun z : m 2 i = k ∧ c ≠ m 3 i => z.2 b), decide_eq_true a, decide_eq_true b']
          rfl
        · have b' : ¬ m 3 i = c := fun z => b z.symm
          rw [if_pos (show m 2 i = k ∧ c ≠ m 3 i from ⟨a, b⟩), decide_eq_true a, decide_eq_false b']
          simp
      · rw [if_neg (fun z : m 2 i = k ∧ c ≠ m 3 i => a z.1), decide_eq_false a]
        rfl
    by_cases q : m 2 i = k
    · obtain ⟨h1, s1, s2, s3, s4⟩ := c_str_i g hr hk (by omega) f q 30 0 hh (by omega) K (fun j hj => by rw [U j hj, if_neg (by omega)]) V
      obtain ⟨h2, r1, r2, r3, r4⟩ := ih (i + 1) (kX m k i f) h1 (some (vi (nI 30))) (by omega) s2 s3 s4
      refine ⟨h2, ?_, r2, fun c hc => by rw [r3 c hc]; exact congrArg nI (fin c), r4⟩
      have t0 : run 0 712 2 [some (vo (some (33, 7, 0))), some (vo (some (r, 13, 30))), some (vi (nI k)), some (vi (nI i)), l4] [] hh = run 0 712 13 [some (vo (some (33, 7, 0))), some (vo (some (r, 13, 30))), some (vi (nI k)), some (vi (nI i)), some (vi (nI 0))] [] hh := by
        rw [x_712_2]
        simp (disch := omega) only [x_712, xs, ↓reduceIte, c5, nl_le, e]
        rfl
      rw [t0, s1, ← r1]
      simp (disch := omega) only [x_712, xs, nl_inc]
    · have U2 : RV hh r (kX m k i f) := fun c hc => by rw [U c hc]; unfold kX; rw [if_neg (fun z => q z.1)]
      obtain ⟨h2, r1, r2, r3, r4⟩ := ih (i + 1) (kX m k i f) hh (some (vi (nI 0))) (by omega) K U2 V
      refine ⟨h2, ?_, r2, fun c hc => by rw [r3 c hc]; exact congrArg nI (fin c), r4⟩
      have t0 : run 0 712 2 [some (vo (some (33, 7, 0))), some (vo (some (r, 13, 30))), some (vi (nI k)), some (vi (nI i)), l4] [] hh = run 0 712 13 [some (vo (some (33, 7, 0))), some (vo (some (r, 13, 30))), some (vi (nI k)), some (vi (nI i)), some (vi (nI 0))] [] hh := by
        rw [x_712_2]
        simp (disch := omega) only [x_712, xs, ↓reduceIte, c5, nl_le, e]
        rfl
      have e0 : ¬ 30 ≤ 0 := by omega
      rw [t0, x_712_13, ← r1]
      simp (disch := omega) only [x_712, xs, ↓reduceIte, cz_30, e0, w1, ↓ib_n, cl_n, x1, nl_eq, q, nl_inc]
theorem c_strike {h : Hp} {mo r k : Nat} {w m : Wo} (g : SC h mo w m) (hr : r = 36 ∨ r = 37) (hk : k ≤ 10) (f : Nat → Nat) (U : RV h r f) : ∃ h2, call 712 [vo (some (33, 7, 0)), vo (some (r, 13, 30)), vi (nI k)] h = some (none, h2) ∧ ck sS h h2 ∧ RV h2 r (fun c => if sn1 m k c = true then f c else 0) ∧ ∀ a b, a ≠ r → hI h2 a b = hI h a b := by
  obtain ⟨h2, r1, r2, r3, r4⟩ := c_str_l g hr hk (m 0 2) 0 f h none (by omega) (ck_r _ _) U (fun _ _ _ => rfl)
  refine ⟨h2, ?_, r2, r3, r4⟩
  rw [← r1]
  simp only [e_712, x_712, xs]
  exact rfl
