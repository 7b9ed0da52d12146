/-! WHAT A STATEMENT TELLS: bounds -/
theorem gr1_p (n : Nat) (l : Nat → Nat) : ∀ f c p b, (gr1 n l f c p b).2.2 + c = p + (gr1 n l f c p b).1 := by
  intro f
  induction f with
  | zero => intro c p b; exact Nat.add_comm _ _ ▸ rfl
  | succ f ih =>
    intro c p b
    unfold gr1
    split
    · have := ih (c + 1) (p + 1) (if hr n l p = some 35 then b ||| 2 ^ c else b)
      omega
    · show p + c = p + c; rfl
theorem gr1_l (n : Nat) (l : Nat → Nat) : ∀ f c p b, c ≤ (gr1 n l f c p b).1 := by
  intro f
  induction f with
  | zero => intro c p b; exact Nat.le_refl _
  | succ f ih =>
    intro c p b
    unfold gr1
    split
    · have := ih (c + 1) (p + 1) (if hr n l p = some 35 then b ||| 2 ^ c else b)
      omega
    · exact Nat.le_refl _
theorem orp_lt {a c : Nat} (ha : a < 2 ^ c) : a ||| 2 ^ c < 2 ^ (c + 1) := Nat.or_lt_two_pow (Nat.lt_of_lt_of_le ha (Nat.pow_le_pow_right (by decide) (by omega))) (Nat.pow_lt_pow_right (by decide) (by omega))
theorem gr_up {a c : Nat} (o : Option Nat) (ha : a < 2 ^ c) : (if o = some 35 then a ||| 2 ^ c else a) < 2 ^ (c + 1) := by
  split
  · exact orp_lt ha
  · exact Nat.lt_of_lt_of_le ha (Nat.pow_le_pow_right (by decide) (by omega))
theorem gr1_h (n : Nat) (l : Nat → Nat) : ∀ f c p b, b < 2 ^ c → (gr1 n l f c p b).2.1 < 2 ^ (gr1 n l f c p b).1 := by
  intro f
  induction f with
  | zero => intro c p b hb; exact hb
  | succ f ih =>
    intro c p b hb
    unfold gr1
    split
    · exact ih _ _ _ (gr_up _ hb)
    · exact hb
theorem gr2_h (n : Nat) (l : Nat → Nat) : ∀ f c p b, b < 2 ^ c → (gr2 n l f c p b).2.2.2 = false → (gr2 n l f c p b).2.1 < 2 ^ (gr2 n l f c p b).1 ∧ (gr2 n l f c p b).1 = c + f ∧ (gr2 n l f c p b).2.2.1 = p + f := by
  intro f
  induction f with
  | zero => intro c p b hb _; exact ⟨hb, rfl, rfl⟩
  | succ f ih =>
    intro c p b hb
    unfold gr2
    split
    · intro z
      obtain ⟨a, b, c⟩ := ih _ _ _ (gr_up _ hb) z
      exact ⟨a, by omega, by omega⟩
    · intro z; cases z
theorem gr3_h (n : Nat) (l : Nat → Nat) (wd : Nat) : ∀ f c p b hg, c = wd * hg → b < 2 ^ c → (gr3 n l wd f c p b hg).2.2.2 = false → (gr3 n l wd f c p b hg).2.1 < 2 ^ (wd * (gr3 n l wd f c p b hg).1) ∧ hg ≤ (gr3 n l wd f c p b hg).1 ∧ (gr3 n l wd f c p b hg).1 ≤ hg + f ∧ p ≤ (gr3 n l wd f c p b hg).2.2.1 := by
  intro f
  induction f with
  | zero => intro c p b hg hc hb _; subst hc; exact ⟨hb, Nat.le_refl _, Nat.le_refl _, Nat.le_refl _⟩
  | succ f ih =>
    intro c p b hg hc hb
    unfold gr3
    split
    · split
      · intro z; cases z
      · rename_i e
        intro z
        obtain ⟨a1, a2, a3⟩ := gr2_h n l wd c (p + 1) b hb (bnt e)
        obtain ⟨b1, b2, b3, b4⟩ := ih _ _ _ _ (by rw [a2, hc, Nat.mul_add, Nat.mul_one]) a1 z
        exact ⟨b1, by omega, by omega, by omega⟩
    · intro z; subst hc; exact ⟨hb, Nat.le_refl _, by omega, Nat.le_refl _⟩
theorem gr3_2 (n : Nat) (l : Nat → Nat) (wd f c p b hg : Nat) (h47 : hr n l p = some 47) (hc : c = wd * hg) (hb : b < 2 ^ c) (z : (gr3 n l wd (f + 1) c p b hg).2.2.2 = false) : hg + 1 ≤ (gr3 n l wd (f + 1) c p b hg).1 := by
  unfold gr3 at z ⊢
  rw [if_pos h47] at z ⊢
  split at z
  · cases z
  · rename_i e
    rw [if_neg e]
    obtain ⟨a1, a2, a3⟩ := gr2_h n l wd c (p + 1) b hb (bnt e)
    exact (gr3_h n l wd f _ _ _ _ (by rw [a2, hc, Nat.mul_add, Nat.mul_one]) a1 z).2.1
theorem rdM_ok {n p : Nat} {l : Nat → Nat} (z : (rdM n l p).2.2.2.2 = false) : (2 ≤ (rdM n l p).1 ∧ (rdM n l p).1 ≤ 5) ∧ (2 ≤ (rdM n l p).2.1 ∧ (rdM n l p).2.1 ≤ 6) ∧ (rdM n l p).2.2.1 < 2 ^ ((rdM n l p).1 * (rdM n l p).2.1) ∧ p + 2 ≤ (rdM n l p).2.2.2.1 := by
  unfold rdM at z ⊢
  split at z
  · cases z
  · rename_i e
    rw [if_neg e]
    have c6 := gr1_c n l 6 0 p 0
    have h47 : hr n l (gr1 n l 6 0 p 0).2.2 = some 47 := Classical.byContradiction (fun y => e (Or.inr y))
    have c2 : 2 ≤ (gr1 n l 6 0 p 0).1 := Nat.le_of_not_lt (fun y => e (Or.inl y))
    have hp := gr1_p n l 6 0 p 0
    have hh := gr1_h n l 6 0 p 0 (by decide)
    have z' : (gr3 n l (gr1 n l 6 0 p 0).1 4 (gr1 n l 6 0 p 0).1 (gr1 n l 6 0 p 0).2.2 (gr1 n l 6 0 p 0).2.1 1).2.2.2 = false := z
    have g := gr3_h n l (gr1 n l 6 0 p 0).1 4 (gr1 n l 6 0 p 0).1 (gr1 n l 6 0 p 0).2.2 (gr1 n l 6 0 p 0).2.1 1 (by omega) hh z'
    have g2 := gr3_2 n l (gr1 n l 6 0 p 0).1 3 (gr1 n l 6 0 p 0).1 (gr1 n l 6 0 p 0).2.2 (gr1 n l 6 0 p 0).2.1 1 h47 (by omega) hh z'
    refine ⟨⟨g2, g.2.2.1⟩, ⟨c2, by show (gr1 n l 6 0 p 0).1 ≤ 6; omega⟩, ?_, ?_⟩
    · rw [Nat.mul_comm]; exact g.1
    · have := g.2.2.2
      show p + 2 ≤ (gr3 n l (gr1 n l 6 0 p 0).1 4 (gr1 n l 6 0 p 0).1 (gr1 n l 6 0 p 0).2.2 (gr1 n l 6 0 p 0).2.1 1).2.2.1
      omega
theorem isD_l {n p : Nat} {l : Nat → Nat} (h : isD (hr n l p) = true) : hr n l p = some (l p) ∧ 48 ≤ l p ∧ l p ≤ 57 ∧ p < n := by
  unfold hr at h ⊢
  by_cases e : p < n
  · rw [if_pos e] at h ⊢
    simp only [isD, Bool.and_eq_true, decide_eq_true_eq] at h
    exact ⟨rfl, h.1, h.2, e⟩
  · rw [if_neg e] at h; cases h
theorem rdD_ok (n : Nat) (l : Nat → Nat) (p : Nat) (b : Bool) : (rdD n l p b).1 ≤ 9 ∧ p ≤ (rdD n l p b).2.1 ∧ ((rdD n l p b).2.2 = false → (rdD n l p b).2.1 = p + 1 ∧ b = false ∧ isD (hr n l p) = true ∧ (rdD n l p b).1 = l p - 48) := by
  unfold rdD
  split
  · exact ⟨Nat.zero_le _, Nat.le_refl _, fun z => by cases z⟩
  · rename_i e
    have hd : isD (hr n l p) = true := by
      cases q : isD (hr n l p) with
      | true => rfl
      | false => exact absurd (Or.inr q) e
    have := isD_l hd
    exact ⟨by show l p - 48 ≤ 9; omega, by show p ≤ p + 1; omega, fun _ => ⟨rfl, bnt (fun y => e (Or.inl y)), hd, rfl⟩⟩
theorem spF_p (n : Nat) (l : Nat → Nat) : ∀ f j p, (spF n l f j p).2 + j = p + (spF n l f j p).1 ∧ j ≤ (spF n l f j p).1 ∧ (spF n l f j p).1 ≤ j + f := by
  intro f
  induction f with
  | zero => intro j p; exact ⟨rfl, Nat.le_refl _, Nat.le_refl _⟩
  | succ f ih =>
    intro j p
    unfold spF
    split
    · exact ⟨rfl, Nat.le_refl _, Nat.le_add_right _ _⟩
    · obtain ⟨a, b, c⟩ := ih (j + 1) (p + 1)
      exact ⟨by omega, by omega, by omega⟩
theorem dg4_ok {n p : Nat} {l : Nat → Nat} (z : (dg4 n l p).2.2 = false) : (dg3 n l p).2.2 = false ∧ (dg2 n l p).2.2 = false ∧ (dg1 n l p).2.2 = false ∧ (dg1 n l p).2.1 = p + 1 ∧ (dg2 n l p).2.1 = p + 2 ∧ (dg3 n l p).2.1 = p + 3 ∧ isD (hr n l p) = true ∧ isD (hr n l (p + 1)) = true ∧ isD (hr n l (p + 2)) = true ∧ (dg1 n l p).1 = l p - 48 ∧ (dg2 n l p).1 = l (p + 1) - 48 ∧ (dg3 n l p).1 = l (p + 2) - 48 ∧ ((isD (hr n l (p + 3)) = true ∧ (dg4 n l p).2.1 = p + 4 ∧ (dg4 n l p).1 = 10 * (l (p + 2) - 48) + (l (p + 3) - 48)) ∨ (isD (hr n l (p + 3)) = false ∧ (dg4 n l p).2.1 = p + 3 ∧ (dg4 n l p).1 = l (p + 2) - 48)) := by
  have h3 : (dg3 n l p).2.2 = false := by
    unfold dg4 at z
    split at z
    · rename_i e; exact e.1
    · exact z
  obtain ⟨a1, a2, a3, a4⟩ := (rdD_ok n l (dg2 n l p).2.1 (dg2 n l p).2.2).2.2 h3
  obtain ⟨b1, b2, b3, b4⟩ := (rdD_ok n l (dg1 n l p).2.1 (dg1 n l p).2.2).2.2 a2
  obtain ⟨c1, c2, c3, c4⟩ := (rdD_ok n l p false).2.2 b2
  have e1 : (dg1 n l p).2.1 = p + 1 := c1
  have e2 : (dg2 n l p).2.1 = p + 2 := by have : (dg2 n l p).2.1 = (dg1 n l p).2.1 + 1 := b1; omega
  have e3 : (dg3 n l p).2.1 = p + 3 := by have : (dg3 n l p).2.1 = (dg2 n l p).2.1 + 1 := a1; omega
  have a5 : (dg3 n l p).1 = l (dg2 n l p).2.1 - 48 := a4
  have b5 : (dg2 n l p).1 = l (dg1 n l p).2.1 - 48 := b4
  rw [e2] at a3 a5
  rw [e1] at b3 b5
  refine ⟨h3, a2, b2, e1, e2, e3, c3, b3, a3, c4, b5, a5, ?_⟩
  have a4' : (dg3 n l p).1 = l (p + 2) - 48 := a5
  unfold dg4
  by_cases e : isD (hr n l (dg3 n l p).2.1) = true
  · rw [if_pos ⟨h3, e⟩]
    rw [e3] at e ⊢
    obtain ⟨d1, d2, -⟩ := isD_l e
    have : rdD n l (p + 3) false = (l (p + 3) - 48, p + 4, false) := by
      unfold rdD
      rw [if_neg (by rintro (y | y); cases y; rw [e] at y; cases y)]
    rw [this, a4']
    exact Or.inl ⟨e, rfl, rfl⟩
  · rw [if_neg (fun y => e y.2)]
    rw [e3] at e
    exact Or.inr ⟨bnt e, e3, a4'⟩
theorem dg5_ok {n p : Nat} {l : Nat → Nat} (z : (dg4 n l p).2.2 = false) : (dg5 n l p).1 ≤ 6 ∧ (dg5 n l p).2 = (dg4 n l p).2.1 + (dg5 n l p).1 := by
  unfold dg5
  rw [if_neg (by rw [z]; decide)]
  obtain ⟨a, b, c⟩ := spF_p n l 6 0 (dg4 n l p).2.1
  exact ⟨by omega, by omega⟩
theorem rd1_p {n p : Nat} {l : Nat → Nat} (z : (rd1 n l p).2 = false) : p + 2 ≤ (rd1 n l p).1 ∧ knw (hr n l p) = true := by
  unfold rd1 at z ⊢
  unfold knw
  split at z
  · rename_i e
    rw [if_pos e]
    have := (rdM_ok z).2.2.2
    exact ⟨by show p + 2 ≤ (rdM n l (p + 1)).2.2.2.1; omega, decide_eq_true (Or.inl e)⟩
  · rename_i e
    rw [if_neg e]
    split at z
    · rename_i e
      rw [if_pos e]
      have a := dg4_ok z
      have b := dg5_ok z
      exact ⟨by show p + 2 ≤ (dg5 n l (p + 1)).2; omega, decide_eq_true (Or.inr (Or.inl e))⟩
    · rename_i e
      rw [if_neg e]
      split at z
      · rename_i e
        rw [if_pos e]
        have := (rdD_ok n l (p + 1) false).2.2 z
        exact ⟨by show p + 2 ≤ (rdD n l (p + 1) false).2.1; omega, decide_eq_true (Or.inr (Or.inr e))⟩
      · cases z
theorem rdS_p {n p : Nat} {l : Nat → Nat} (z : (rdS n l p).2 = false) : p + 3 ≤ (rdS n l p).1 ∧ (rd1 n l p).2 = false ∧ hr n l (rd1 n l p).1 = some 59 ∧ (rdS n l p).1 = (rd1 n l p).1 + 1 ∧ knw (hr n l p) = true := by
  unfold rdS clz at z ⊢
  split at z
  · cases z
  · rename_i e
    rw [if_neg e]
    have b : (rd1 n l p).2 = false := bnt (fun y => e (Or.inl y))
    have := rd1_p b
    exact ⟨by show p + 3 ≤ (rd1 n l p).1 + 1; omega, b, Classical.byContradiction (fun y => e (Or.inr y)), rfl, this.2⟩
