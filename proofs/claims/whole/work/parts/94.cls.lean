/-! THE CLASS: the game, as bits -/
def bB (P : Nat → Bool) : Nat → Nat
  | 0 => 0
  | n + 1 => if P n = true then bB P n ||| 2 ^ n else bB P n
theorem bB_t (P : Nat → Bool) : ∀ n k, (bB P n).testBit k = (decide (k < n) && P k) := by
  intro n
  induction n with
  | zero => intro k; simp [bB]
  | succ n ih =>
    intro k
    unfold bB
    by_cases e : P n = true
    · rw [if_pos e, Nat.testBit_or, Nat.testBit_two_pow, ih]
      by_cases q : n = k
      · subst q; simp [e]
      · have : decide (k < n + 1) = decide (k < n) := by rw [decide_eq_decide]; omega
        rw [this]; simp [q]
    · rw [if_neg e, ih]
      by_cases q : n = k
      · subst q; simp [e]
      · have : decide (k < n + 1) = decide (k < n) := by rw [decide_eq_decide]; omega
        rw [this]
theorem bB_lt (P : Nat → Bool) : ∀ n, bB P n < 2 ^ n := by
  intro n
  induction n with
  | zero => exact Nat.one_pos
  | succ n ih =>
    unfold bB
    split
    · exact orp_lt ih
    · exact Nat.lt_of_lt_of_le ih (Nat.pow_le_pow_right (by decide) (by omega))
theorem bB_30 {w : Wo} {d : Nat} (hk : WOK d w) (P : Nat → Bool) : bB P (w 0 0 * w 0 1) < 2 ^ 30 := Nat.lt_of_lt_of_le (bB_lt P _) (Nat.pow_le_pow_right (by decide) (cells_le hk).2)
theorem arF_t (w : Wo) (c k : Nat) : ∀ n s a, (arF w c n s a).testBit k = true ↔ a.testBit k = true ∨ ∃ s0, s ≤ s0 ∧ s0 < s + n ∧ stp w c s0 = some k := by
  intro n
  induction n with
  | zero =>
    intro s a
    unfold arF
    constructor
    · exact Or.inl
    · rintro (h | ⟨s0, h1, h2, -⟩)
      · exact h
      · omega
  | succ n ih =>
    intro s a
    unfold arF
    rw [ih]
    cases q : stp w c s with
    | none =>
      constructor
      · rintro (h | ⟨s0, h1, h2, h3⟩)
        · exact Or.inl h
        · exact Or.inr ⟨s0, by omega, by omega, h3⟩
      · rintro (h | ⟨s0, h1, h2, h3⟩)
        · exact Or.inl h
        · by_cases e : s0 = s
          · subst e; rw [q] at h3; cases h3
          · exact Or.inr ⟨s0, by omega, by omega, h3⟩
    | some t =>
      simp only [Nat.testBit_or, Nat.testBit_two_pow, Bool.or_eq_true, decide_eq_true_eq]
      constructor
      · rintro ((h | h) | ⟨s0, h1, h2, h3⟩)
        · exact Or.inl h
        · subst h; exact Or.inr ⟨s, by omega, by omega, q⟩
        · exact Or.inr ⟨s0, by omega, by omega, h3⟩
      · rintro (h | ⟨s0, h1, h2, h3⟩)
        · exact Or.inl (Or.inl h)
        · by_cases e : s0 = s
          · subst e; rw [q] at h3; cases h3; exact Or.inl (Or.inr rfl)
          · exact Or.inr ⟨s0, by omega, by omega, h3⟩
theorem arB_t {w : Wo} {c k : Nat} (h : fre w c = true) : (arB w c).testBit k = true ↔ ∃ s, s < 5 ∧ stp w c s = some k := by
  unfold arB
  rw [if_pos h, arF_t]
  constructor
  · rintro (z | ⟨s0, h1, h2, h3⟩)
    · simp at z
    · exact ⟨s0, by omega, h3⟩
  · rintro ⟨s, h1, h2⟩
    exact Or.inr ⟨s, by omega, by omega, h2⟩
theorem an_0 (a b : Nat) : andn a b = 0 ↔ ∀ k, a.testBit k = true → b.testBit k = true := by
  constructor
  · intro h k z
    have : (andn a b).testBit k = false := by rw [h]; simp
    rw [andn_t, z] at this
    simpa using this
  · intro h
    apply Nat.eq_of_testBit_eq
    intro k
    rw [andn_t]
    cases q : a.testBit k with
    | false => simp
    | true => simp [h k q]
/-- all steps of the hare lead to what is won -/
theorem an_al {w : Wo} {r : Nat} (P : Nat → Bool) (h : fre w r = true) : andn (arB w r) (bB P (w 0 0 * w 0 1)) = 0 ↔ alS w r P 5 0 = true := by
  rw [an_0, alS_i]
  constructor
  · intro z k t _ h2 h3
    have := z t ((arB_t h).mpr ⟨k, by omega, h3⟩)
    rw [bB_t] at this
    simp only [Bool.and_eq_true, decide_eq_true_eq] at this
    exact this.2
  · intro z k hk
    obtain ⟨s, h1, h2⟩ := (arB_t h).mp hk
    rw [bB_t]
    simp only [Bool.and_eq_true, decide_eq_true_eq]
    exact ⟨fre_lt (stp_fre h2), z s k (by omega) (by omega) h2⟩
def hP (w : Wo) (W : Nat → Nat → Bool) (to r : Nat) : Bool := decide (to = r) || (fre w r && alS w r (W to) 5 0)
theorem hP_h {w : Wo} {W : Nat → Nat → Bool} {to r : Nat} (h : fre w r = true) : hP w W to r = hd w W to r := by unfold hP hd; rw [h]; rfl
def zS (i _ : Nat) : Prop := i = 40 ∨ i = 41
def ZC (h : Hp) (mo : Nat) (w : Wo) : Prop := CM h mo w ∧ (mo = 1 ∨ 70 ≤ mo) ∧ hR h 39 0 = some (40, 13, 30) ∧ hR h 39 1 = some (41, 13, 30)
theorem ZC_k {h h2 : Hp} {mo : Nat} {w : Wo} (a : ck zS h h2) (c : ZC h mo w) : ZC h2 mo w := ⟨CM_k a (fun i j x y => by have := c.2.1; unfold zS; omega) c.1, c.2.1, (a.2.1 _ _).trans c.2.2.1, (a.2.1 _ _).trans c.2.2.2⟩
def wB (w : Wo) (W : Nat → Nat → Bool) (a : Nat) : Nat := bB (W a) (w 0 0 * w 0 1)
def hB (w : Wo) (W : Nat → Nat → Bool) (a : Nat) : Nat := bB (hP w W a) (w 0 0 * w 0 1)
theorem c_hare_i {h : Hp} {mo d a : Nat} {w : Wo} (W : Nat → Nat → Bool) (hk : WOK d w) (g : ZC h mo w) (ha : a < w 0 0 * w 0 1) (hw : hI h 40 a = nI (wB w W a)) : ∀ (n r b : Nat), r + n = w 0 0 * w 0 1 → b < 2 ^ 30 → (∀ k, b.testBit k = (decide (a = k) || (decide (k < r) && (fre w k && alS w k (W a) 5 0)))) → run 2 3 17 [some (vo (some (39, 0, 0))), some (vo (some (mo, 5, 0))), some (vi (nI a)), some (vi (nI b)), some (vi (nI r))] [] h = run 2 3 66 [some (vo (some (39, 0, 0))), some (vo (some (mo, 5, 0))), some (vi (nI a)), some (vi (nI (hB w W a))), some (vi (nI (w 0 0 * w 0 1)))] [] h := by
  have cc := cells_le hk
  have f2 := g.1.2.1.2.2.1
  have w0 := g.2.2.1
  intro n
  induction n with
  | zero =>
    intro r b hr hb hbt
    obtain rfl : r = w 0 0 * w 0 1 := by omega
    have e : b = hB w W a := by
      apply Nat.eq_of_testBit_eq
      intro k
      unfold hB
      rw [hbt, bB_t]
      unfold hP
      by_cases q : k < w 0 0 * w 0 1
      · rw [decide_eq_true q]; simp
      · rw [decide_eq_false q, decide_eq_false (show ¬ a = k by omega)]; simp
    rw [x_3_17, e]
    generalize hX : run 2 3 66 _ _ _ = X
    simp (disch := omega) only [x_3, xs, ↓reduceIte, f2, nl_le, Nat.le_refl, ↓hX]
  | succ n ih =>
    intro r b hr hb hbt
    have e : ¬ w 0 0 * w 0 1 ≤ r := by omega
    have h1 := c_free (c := r) hk g.1 (by omega)
    have h2 := c_around (c := r) hk g.1 (by omega)
    have al := arB_lt hk r
    have wl := bB_30 hk (W a)
    have hw' : hI h 40 a = nI (bB (W a) (w 0 0 * w 0 1)) := hw
    have nl : andn (arB w r) (bB (W a) (w 0 0 * w 0 1)) < 2 ^ 30 := andn_lt al
    rw [x_3_17]
    have step : ∀ k x : Bool, True := fun _ _ => trivial
    cases q : fre w r with
    | false =>
      rw [q] at h1
      rw [← ih (r + 1) b (by omega) hb (fun k => by
        rw [hbt k]
        by_cases ek : k = r
        · subst ek; rw [q]; simp
        · have : decide (k < r + 1) = decide (k < r) := by rw [decide_eq_decide]; omega
          rw [this])]
      simp (disch := omega) only [x_3, xs, ↓reduceIte, f2, nl_le, e, h1, bI_f, i00, nl_inc]
    | true =>
      rw [q] at h1
      by_cases z : alS w r (W a) 5 0 = true
      · have e0 := (an_al (W a) q).mpr z
        have rp := p2_lt (c := r) (by omega)
        rw [← ih (r + 1) (b ||| 2 ^ r) (by omega) (or_lt hb (by omega)) (fun k => by
          rw [Nat.testBit_or, Nat.testBit_two_pow, hbt k]
          by_cases ek : k = r
          · subst ek; rw [q, z]; simp
          · have : decide (k < r + 1) = decide (k < r) := by rw [decide_eq_decide]; omega
            rw [this, decide_eq_false (show ¬ r = k from fun y => ek y.symm)]; simp)]
        have z0 : (nI 0 = 0) = True := eq_true rfl
        simp (disch := omega) only [x_3, xs, ↓reduceIte, f2, nl_le, e, h1, bI_t, i10, h2, w0, ↓ib_n, cl_n, hw', nl_andn, e0, z0, nl_s1, nl_or, nl_inc]
      · have e0 : ¬ andn (arB w r) (bB (W a) (w 0 0 * w 0 1)) = 0 := fun y => z ((an_al (W a) q).mp y)
        rw [← ih (r + 1) b (by omega) hb (fun k => by
          rw [hbt k]
          by_cases ek : k = r
          · subst ek; rw [bnt z]; simp
          · have : decide (k < r + 1) = decide (k < r) := by rw [decide_eq_decide]; omega
            rw [this])]
        simp (disch := omega) only [x_3, xs, ↓reduceIte, f2, nl_le, e, h1, bI_t, i10, h2, w0, ↓ib_n, cl_n, hw', nl_andn, nl_e0, e0, nl_inc]
theorem c_hare_l {h : Hp} {mo d : Nat} {w : Wo} (W : Nat → Nat → Bool) (hk : WOK d w) (g : ZC h mo w) (hw : ∀ a, a < w 0 0 * w 0 1 → hI h 40 a = nI (wB w W a)) : ∀ (n a : Nat) (hh : Hp) (l3 l4 : Option AV), a + n = w 0 0 * w 0 1 → ck (fun i _ => i = 41) h hh → (∀ a2, a2 < a → hI hh 41 a2 = nI (hB w W a2)) → ∃ h2, run 2 3 2 [some (vo (some (39, 0, 0))), some (vo (some (mo, 5, 0))), some (vi (nI a)), l3, l4] [] hh = some (none, h2) ∧ ck (fun i _ => i = 41) h h2 ∧ ∀ a2, a2 < w 0 0 * w 0 1 → hI h2 41 a2 = nI (hB w W a2) := by
  have cc := cells_le hk
  intro n
  induction n with
  | zero =>
    intro a hh l3 l4 ha K U
    obtain rfl : a = w 0 0 * w 0 1 := by omega
    have f2 := (ZC_k (ck_m K (fun i j z => Or.inr z)) g).1.2.1.2.2.1
    refine ⟨hh, ?_, K, U⟩
    rw [x_3_2]
    simp (disch := omega) only [x_3, xs, ↓reduceIte, f2, nl_le, Nat.le_refl]
  | succ n ih =>
    intro a hh l3 l4 ha K U
    have g2 := ZC_k (ck_m K (fun i j z => Or.inr z)) g
    have f2 := g2.1.2.1.2.2.1
    have w1 := g2.2.2.2
    have e : ¬ w 0 0 * w 0 1 ≤ a := by omega
    have r := c_hare_i W hk g2 (a := a) (by omega) (by rw [K.2.2 _ _ (by omega)]; exact hw a (by omega)) (w 0 0 * w 0 1) 0 (2 ^ a) (by omega) (p2_lt (by omega)) (fun k => by rw [Nat.testBit_two_pow]; simp)
    have s0 : run 2 3 2 [some (vo (some (39, 0, 0))), some (vo (some (mo, 5, 0))), some (vi (nI a)), l3, l4] [] hh = run 2 3 17 [some (vo (some (39, 0, 0))), some (vo (some (mo, 5, 0))), some (vi (nI a)), some (vi (nI (2 ^ a))), some (vi (nI 0))] [] hh := by
      rw [x_3_2]
      simp (disch := omega) only [x_3, xs, ↓reduceIte, f2, nl_le, e, nl_s1]
      rfl
    obtain ⟨h2, r1, r2, r3⟩ := ih (a + 1) (hsI hh 41 a (nI (hB w W a))) (some (vi (nI (hB w W a)))) (some (vi (nI (w 0 0 * w 0 1)))) (by omega) (ck_t K (ck_I rfl)) (fun a2 h2 => by
      by_cases q : a2 = a
      · subst q; exact hI_e _ _ _ _
      · rw [hI_n (by omega)]; exact U a2 (by omega))
    refine ⟨h2, ?_, r2, r3⟩
    rw [s0, r, ← r1]
    simp (disch := omega) only [x_3, xs, w1, ↓ib_n, cl_n, nl_inc]
theorem c_hare {h : Hp} {mo d : Nat} {w : Wo} (W : Nat → Nat → Bool) (hk : WOK d w) (g : ZC h mo w) (hw : ∀ a, a < w 0 0 * w 0 1 → hI h 40 a = nI (wB w W a)) : ∃ h2, call 3 [vo (some (39, 0, 0)), vo (some (mo, 5, 0))] h = some (none, h2) ∧ ck (fun i _ => i = 41) h h2 ∧ ∀ a2, a2 < w 0 0 * w 0 1 → hI h2 41 a2 = nI (hB w W a2) := by
  obtain ⟨h2, r1, r2, r3⟩ := c_hare_l W hk g hw (w 0 0 * w 0 1) 0 h none none (by omega) (ck_r _ _) (fun a2 h2 => absurd h2 (by omega))
  refine ⟨h2, ?_, r2, r3⟩
  rw [← r1]
  simp only [e_3, x_3, xs]
  exact rfl
