/-! THE CLASS: one world becomes another; image, restore -/
def iq (L : Nat → Prop) (h h2 : Hp) : Prop := ∀ i, im L i → ∀ j, hI h2 i j = hI h i j ∧ hR h2 i j = hR h i j
theorem CM_q {L : Nat → Prop} {h h2 : Hp} {mo : Nat} {w : Wo} (q : iq L h h2) (m : ∀ i, mo ≤ i → i ≤ mo + 4 → im L i) (c : CM h mo w) : CM h2 mo w := by
  obtain ⟨⟨r1, r2, r3, r4, r5⟩, ⟨f0, f1, f2, f3⟩, g⟩ := c
  have e : ∀ i j, mo ≤ i → i ≤ mo + 4 → hI h2 i j = hI h i j := fun i j x y => (q i (m i x y) j).1
  have r : ∀ j, hR h2 mo j = hR h mo j := fun j => (q mo (m mo (by omega) (by omega)) j).2
  refine ⟨⟨(r _).trans r1, (r _).trans r2, (r _).trans r3, (r _).trans r4, (r _).trans r5⟩, ⟨(e _ _ (by omega) (by omega)).trans f0, (e _ _ (by omega) (by omega)).trans f1, (e _ _ (by omega) (by omega)).trans f2, (e _ _ (by omega) (by omega)).trans f3⟩, fun c hc => ?_⟩
  obtain ⟨g1, g2, g3, g4⟩ := g c hc
  exact ⟨(e _ _ (by omega) (by omega)).trans g1, (e _ _ (by omega) (by omega)).trans g2, (e _ _ (by omega) (by omega)).trans g3, fun s hs => (e _ _ (by omega) (by omega)).trans (g4 s hs)⟩
theorem CG_q {L : Nat → Prop} {h h2 : Hp} {a b : Nat} {w : Wo} (q : iq L h h2) (e : hR h2 a 0 = hR h b 0) (hc : h.1.1 ≤ h2.1.1) (c : CG L h b w) : CG L h2 a w := by
  obtain ⟨mo, c1, c2, c3, c4, c5, c6⟩ := c
  exact ⟨mo, e.trans c1, CM_q q c3 c2, c3, c4, c5, by omega⟩
theorem CP_q {L : Nat → Prop} {h h2 : Hp} {a b p : Nat} {w : Wo} (q : iq L h h2) (e : hR h2 (a + 1) p = hR h (b + 1) p) (c : CP L h b w p) : CP L h2 a w p := by
  obtain ⟨pid, pla, c1, c2, c3, c4, c5, c6⟩ := c
  exact ⟨pid, pla, e.trans c1, ((q _ c5 _).1).trans c2, ((q _ c5 _).2).trans c3, fun i hi => ((q _ c6 _).1).trans (c4 i hi), c5, c6⟩
theorem CW_q {L : Nat → Prop} {h h2 : Hp} {a b : Nat} {w : Wo} (k3 : w 0 3 ≤ 5) (q : iq L h h2) (hc : h.1.1 ≤ h2.1.1) (e0 : hR h2 a 0 = hR h b 0) (ep : ∀ p, p < 5 → hR h2 (a + 1) p = hR h (b + 1) p) (v : CV h2 a) (e1 : hI h2 a 1 = hI h b 1) (e3 : hI h2 a 3 = hI h b 3) (er : ∀ p j, p < 5 → j ≤ w 0 5 → hI h2 (a + 3 + p) j = hI h (b + 3 + p) j) (c : CW L h b w) : CW L h2 a w := by
  obtain ⟨c1, ⟨c2, c3⟩, c4, c5, c6⟩ := c
  exact ⟨CG_q q e0 hc c1, ⟨e1.trans c2, e3.trans c3⟩, v, fun p hp => CP_q q (ep p (by omega)) (c5 p hp), fun p hp j hj => (er p j (by omega) hj).trans (c6 p hp j hj)⟩
/-- world a has become b: what changes -/
def BE (a b n : Nat) (h h2 : Hp) : Prop := h2.1 = h.1 ∧ (∀ i j, ¬ (i = a ∧ j = 0) → ¬ (i = a + 1 ∧ j < n) → hR h2 i j = hR h i j) ∧ hR h2 a 0 = hR h b 0 ∧ (∀ j, j < n → hR h2 (a + 1) j = hR h (b + 1) j) ∧ (hI h2 a 1 = hI h b 1 ∧ hI h2 a 2 = hI h b 2 ∧ hI h2 a 3 = hI h b 3) ∧ (∀ p j, p < n → j < 61 → hI h2 (a + 3 + p) j = hI h (b + 3 + p) j) ∧ ∀ i j, ¬ (i = a ∧ 1 ≤ j ∧ j ≤ 3) → ¬ (a + 3 ≤ i ∧ i < a + 3 + n ∧ j < 61) → hI h2 i j = hI h i j
theorem c_bec_l {h : Hp} {a b : Nat} (hab : a + 8 ≤ b ∨ b + 8 ≤ a) (va : CV h a) (vb : CV h b) (u : ∀ i, i < 5 → pO (hR h (b + 1) i)) : ∀ (n i : Nat) (hh : Hp), i + n = 5 → BE a b i h hh → ∃ h2, run 0 1001 34 [some (vo (some (a, 10, 0))), some (vo (some (b, 10, 0))), some (vi (nI i))] [] hh = some (none, h2) ∧ BE a b 5 h h2 := by
  intro n
  induction n with
  | zero =>
    intro i hh hi B
    obtain rfl : i = 5 := by omega
    refine ⟨hh, ?_, B⟩
    rw [x_1001_34]
    simp (disch := omega) only [x_1001, xs, ↓reduceIte, cz_5, Nat.le_refl]
  | succ n ih =>
    intro i hh hi B
    have e : ¬ 5 ≤ i := by omega
    obtain ⟨b1, b2, b3, b4, ⟨b5, b6, b7⟩, b8, b9⟩ := id B
    have ra4 : hR hh a 4 = some (a + 1, 14, 5) := (b2 _ _ (by omega) (by omega)).trans va.1
    have rb4 : hR hh b 4 = some (b + 1, 14, 5) := (b2 _ _ (by omega) (by omega)).trans vb.1
    have rbi : hR hh (b + 1) i = hR h (b + 1) i := b2 _ _ (by omega) (by omega)
    have ib0 : ((0 : Int32) < 0) = False := by simp
    have key : run 0 1001 34 [some (vo (some (a, 10, 0))), some (vo (some (b, 10, 0))), some (vi (nI i))] [] hh = run 0 1001 34 [some (vo (some (a, 10, 0))), some (vo (some (b, 10, 0))), some (vi (nI (i + 1)))] [] (hcp (hsR hh (a + 1) i (hR h (b + 1) i)) (b + 3 + i) 0 (a + 3 + i) 0 61) := by
      have ra5 : hR (hsR hh (a + 1) i (hR h (b + 1) i)) a 5 = some (a + 2, 15, 5) := by rw [hR_hsR, if_neg (by omega), b2 _ _ (by omega) (by omega)]; exact va.2.1
      have rb5 : hR (hsR hh (a + 1) i (hR h (b + 1) i)) b 5 = some (b + 2, 15, 5) := by rw [hR_hsR, if_neg (by omega), b2 _ _ (by omega) (by omega)]; exact vb.2.1
      have rai : hR (hsR hh (a + 1) i (hR h (b + 1) i)) (a + 2) i = some (a + 3 + i, 13, 121) := by rw [hR_hsR, if_neg (by omega), b2 _ _ (by omega) (by omega)]; exact va.2.2 i (by omega)
      have rbr : hR (hsR hh (a + 1) i (hR h (b + 1) i)) (b + 2) i = some (b + 3 + i, 13, 121) := by rw [hR_hsR, if_neg (by omega), b2 _ _ (by omega) (by omega)]; exact vb.2.2 i (by omega)
      have cnd : ((0 : Int32) < 0 ∨ (0 : Int32) < 0 ∨ (61 : Int32) < 0 ∨ 121 < (0 : Int32).toNatClampNeg + (61 : Int32).toNatClampNeg ∨ 121 < (0 : Int32).toNatClampNeg + (61 : Int32).toNatClampNeg) = False := by
        simp only [eq_iff_iff, iff_false]; decide
      have c0 : (0 : Int32).toNatClampNeg = 0 := rfl
      have c61 : (61 : Int32).toNatClampNeg = 61 := rfl
      rw [x_1001_34]
      cases hr : hR h (b + 1) i with
      | none =>
        rw [hr] at ra5 rb5 rai rbr rbi
        simp (disch := omega) only [x_1001, xs, ↓reduceIte, cz_5, e, ra4, rb4, ↓ib_n, cl_n, rbi, ra5, rb5, rai, rbr, ↓cnd, c0, c61, nl_inc]
      | some r =>
        obtain ⟨x, k, y⟩ := r
        have us : am_sub k 9 = true := by have := u i (by omega); rw [hr] at this; exact this
        rw [hr] at ra5 rb5 rai rbr rbi
        have c2 : (nI i < 0 ∨ 5 ≤ (nI i).toNatClampNeg ∨ am_sub k 9 = false) = False := by
          rw [us, cl_n (by omega), nl_l0 (by omega)]
          simp only [eq_iff_iff, iff_false, false_or, Bool.true_eq_false, or_false]
          omega
        simp (disch := omega) only [x_1001, xs, ↓reduceIte, cz_5, e, ra4, rb4, ↓ib_n, ↓c2, cl_n, rbi, ra5, rb5, rai, rbr, ↓cnd, c0, c61, nl_inc]
    rw [key]
    refine ih (i + 1) _ (by omega) ⟨b1, fun x y n1 n2 => ?_, ?_, fun j hj => ?_, ⟨?_, ?_, ?_⟩, fun p j hp hj => ?_, fun x y n1 n2 => ?_⟩
    · show hR (hsR hh (a + 1) i (hR h (b + 1) i)) x y = _
      rw [hR_hsR, if_neg (by omega)]; exact b2 _ _ n1 (by omega)
    · show hR (hsR hh (a + 1) i (hR h (b + 1) i)) a 0 = _
      rw [hR_hsR, if_neg (by omega)]; exact b3
    · show hR (hsR hh (a + 1) i (hR h (b + 1) i)) (a + 1) j = _
      rw [hR_hsR]
      by_cases ej : j = i
      · subst ej; rw [if_pos ⟨rfl, rfl⟩]
      · rw [if_neg (by omega)]; exact b4 j (by omega)
    · rw [hI_hcp, if_neg (by omega)]; exact b5
    · rw [hI_hcp, if_neg (by omega)]; exact b6
    · rw [hI_hcp, if_neg (by omega)]; exact b7
    · rw [hI_hcp]
      by_cases ep : p = i
      · subst ep
        rw [if_pos (by omega)]
        show hI hh (b + 3 + p) (0 + (j - 0)) = _
        rw [Nat.zero_add, Nat.sub_zero]
        exact b9 _ _ (by omega) (by omega)
      · rw [if_neg (by omega)]; exact b8 p j (by omega) hj
    · rw [hI_hcp, if_neg (by omega)]; exact b9 _ _ n1 (by omega)
theorem c_become {h : Hp} {a b : Nat} (hab : a + 8 ≤ b ∨ b + 8 ≤ a) (va : CV h a) (vb : CV h b) (u : ∀ i, i < 5 → pO (hR h (b + 1) i)) : ∃ h2, call 1001 [vo (some (a, 10, 0)), vo (some (b, 10, 0))] h = some (none, h2) ∧ BE a b 5 h h2 := by
  have hI_R : ∀ (h : Hp) (o b : Nat) (x : Option Rf) (i j : Nat), hI (hsR h o b x) i j = hI h i j := fun _ _ _ _ _ _ => rfl
  obtain ⟨h2, r1, r2⟩ := c_bec_l hab va vb u 5 0 (hsI (hsI (hsI (hsR h a 0 (hR h b 0)) a 1 (hI h b 1)) a 2 (hI h b 2)) a 3 (hI h b 3)) rfl ⟨rfl, fun i j n1 n2 => by show hR (hsR h a 0 (hR h b 0)) i j = _; rw [hR_hsR, if_neg n1], by show hR (hsR h a 0 (hR h b 0)) a 0 = _; rw [hR_hsR, if_pos ⟨rfl, rfl⟩], fun j hj => absurd hj (by omega), ⟨by rw [hI_n (by omega), hI_n (by omega), hI_e], by rw [hI_n (by omega), hI_e], hI_e _ _ _ _⟩, fun p j hp => absurd hp (by omega), fun i j n1 n2 => by rw [hI_n (by omega), hI_n (by omega), hI_n (by omega)]; rfl⟩
  refine ⟨h2, ?_, r2⟩
  rw [← r1]
  have n1 : hI (hsR h a 0 (hR h b 0)) b 1 = hI h b 1 := rfl
  have n2 : hI (hsI (hsR h a 0 (hR h b 0)) a 1 (hI h b 1)) b 2 = hI h b 2 := by rw [hI_n (by omega)]; rfl
  have n3 : hI (hsI (hsI (hsR h a 0 (hR h b 0)) a 1 (hI h b 1)) a 2 (hI h b 2)) b 3 = hI h b 3 := by rw [hI_n (by omega), hI_n (by omega)]; rfl
  simp (disch := omega) only [e_1001, x_1001, xs, n1, n2, n3]
  exact rfl
