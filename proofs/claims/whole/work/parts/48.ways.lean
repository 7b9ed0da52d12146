/-! THE REFERENCE: ways -/
def wyS (w : Wo) (f : Nat → Nat) (c : Nat) : Nat → Nat → Nat → Nat
  | 0, _, a => a
  | n + 1, s, a => wyS w f c n (s + 1) (a + match stp w c s with | none => 0 | some t => f t)
def wyF (w : Wo) (sn : Nat → Nat → Bool) (fr : Nat) : Nat → Nat → Nat
  | 0, c => if sn 0 c = true then (if c = fr then 1 else 0) else 0
  | k + 1, c => if sn (k + 1) c = true then (if fre w c = true then wyS w (wyF w sn fr k) c 5 0 0 else 0) else 0
def bkF (w : Wo) (sn : Nat → Nat → Bool) (N : Nat) : Nat → Nat → Nat
  | 0, c => if sn N c = true then (if fre w c = true then 1 else 0) else 0
  | j + 1, c => if sn (N - (j + 1)) c = true then (if fre w c = true then wyS w (bkF w sn N j) c 5 0 0 else 0) else 0
def snF (m : Wo) (k c : Nat) : Nat → Nat → Bool → Bool
  | 0, _, b => b
  | n + 1, i, b => snF m k c n (i + 1) (b && (!decide (m 2 i = k) || decide (m 3 i = c)))
def sn1 (m : Wo) (k c : Nat) : Bool := snF m k c (m 0 2) 0 true
def sn0 (_ _ : Nat) : Bool := true
theorem wyS_le (w : Wo) (f : Nat → Nat) (c B : Nat) (hf : ∀ t, f t ≤ B) : ∀ n s a, wyS w f c n s a ≤ a + n * B := by
  intro n
  induction n with
  | zero => intro s a; simp [wyS]
  | succ n ih =>
    intro s a
    unfold wyS
    refine Nat.le_trans (ih _ _) ?_
    have h1 : (n + 1) * B = n * B + B := Nat.succ_mul n B
    rw [h1]
    cases hq : stp w c s with
    | none => simp only; omega
    | some t => have := hf t; simp only; omega
theorem wyF_le (w : Wo) (sn : Nat → Nat → Bool) (fr : Nat) : ∀ k c, wyF w sn fr k c ≤ 5 ^ k := by
  intro k
  induction k with
  | zero => intro c; unfold wyF; split <;> (try split) <;> simp
  | succ k ih =>
    intro c
    unfold wyF
    split
    · split
      · have := wyS_le w (wyF w sn fr k) c (5 ^ k) ih 5 0 0
        rw [Nat.pow_succ]
        omega
      · exact Nat.zero_le _
    · exact Nat.zero_le _
theorem bkF_le (w : Wo) (sn : Nat → Nat → Bool) (N : Nat) : ∀ k c, bkF w sn N k c ≤ 5 ^ k := by
  intro k
  induction k with
  | zero => intro c; unfold bkF; split <;> (try split) <;> simp
  | succ k ih =>
    intro c
    unfold bkF
    split
    · split
      · have := wyS_le w (bkF w sn N k) c (5 ^ k) ih 5 0 0
        rw [Nat.pow_succ]
        omega
      · exact Nat.zero_le _
    · exact Nat.zero_le _
theorem p5_le {k n : Nat} (h : k ≤ n) : 5 ^ k ≤ 5 ^ n := Nat.pow_le_pow_right (by decide) h
/-- what the reference's sights are -/
def SG (h : Hp) (m : Wo) : Prop := m 0 2 ≤ 6 ∧ hI h 44 36 = nI (m 0 2) ∧ ∀ i, i < m 0 2 → (hI h 64 i = nI (m 2 i) ∧ hI h 65 i = nI (m 3 i)) ∧ m 2 i ≤ 10 ∧ m 3 i < 30
theorem m_isSeen_l (m : Wo) (h : Hp) (hW : MW h) (hg : SG h m) (k c : Nat) (hk : k ≤ 10) (hc : c < 30) : ∀ (n i : Nat) (b : Bool), i + n = m 0 2 → run 0 1248 6 [some (vo (some (44, 12, 0))), some (vi (nI k)), some (vi (nI c)), some (vi 1), some (vi (bI b)), some (vi (nI i))] [] h = some (some (vi (bI (snF m k c n i b))), h) := by
  obtain ⟨g1, g2, g3⟩ := hg
  have w34 : hR h 44 34 = some (64, 13, 6) := hW.2.2.2.2.2.2.2.2.2.2.2.2.2.2.2.2.2.2.2.1
  have w35 : hR h 44 35 = some (65, 13, 6) := hW.2.2.2.2.2.2.2.2.2.2.2.2.2.2.2.2.2.2.2.2.1
  intro n
  induction n with
  | zero =>
    intro i b hi
    have : i = m 0 2 := by omega
    subst this
    rw [x_1248_6]
    simp (disch := omega) only [x_1248, xs, g2, nl_le, Nat.le_refl, bI_d]
    rfl
  | succ n ih =>
    intro i b hi
    have hi2 : ¬ m 0 2 ≤ i := by omega
    obtain ⟨⟨e1, e2⟩, e3, e4⟩ := g3 i (by omega)
    rw [x_1248_6]
    unfold snF
    rw [← ih (i + 1) _ (by omega)]
    cases b with
    | false =>
      simp (disch := omega) only [x_1248, xs, g2, nl_le, hi2, i10, bI_f, i00, nl_inc, Bool.false_and]
    | true =>
      by_cases a1 : m 2 i = k
      · by_cases a2 : m 3 i = c
        · simp (disch := omega) only [x_1248, xs, g2, nl_le, hi2, i10, bI_t, w34, w35, ↓ib_n, cl_n, e1, e2, nl_eq, eq_true a1, eq_true a2, nl_inc, decide_true, Bool.or_true, Bool.and_self]
        · simp (disch := omega) only [x_1248, xs, g2, nl_le, hi2, i10, bI_t, w34, w35, ↓ib_n, cl_n, e1, e2, nl_eq, eq_true a1, a2, nl_inc, decide_true, decide_false, Bool.not_true, Bool.or_false, Bool.and_false, bI_f]
      · simp (disch := omega) only [x_1248, xs, g2, nl_le, hi2, i10, bI_t, w34, w35, ↓ib_n, cl_n, e1, e2, nl_eq, a1, nl_inc, decide_false, Bool.not_false, Bool.true_or, Bool.and_self]
/-- seen so, or nothing asked of the sights -/
theorem m_isSeen (m : Wo) (h : Hp) (hW : MW h) (hg : SG h m) (k c : Nat) (hk : k ≤ 10) (hc : c < 30) (b : Bool) : call 1248 [vo (some (44, 12, 0)), vi (nI k), vi (nI c), vi (bI b)] h = some (some (vi (bI (if b = true then sn1 m k c else true))), h) := by
  obtain ⟨g1, g2, g3⟩ := id hg
  have e0 : (some (vi (0 : Int32)) : Option AV) = some (vi (nI 0)) := rfl
  cases b with
  | true =>
    have r := m_isSeen_l m h hW hg k c hk hc (m 0 2) 0 true (by omega)
    simp (disch := omega) only [e_1248, x_1248, xs]
    exact r
  | false =>
    simp (disch := omega) only [e_1248, x_1248, xs]
    rw [x_1248_6]
    simp (disch := omega) only [x_1248, xs, g2, bI_f, i00, bI_d]
    split <;> rfl
