/-! THE REFERENCE: what a statement does to the world -/
def mooW (w : Wo) (R C H : Nat) : Wo := fun i j => if i = 0 then (if j = 0 then R else if j = 1 then C else if j = 2 then H else if j = 3 ∨ j = 5 then 0 else w 0 j) else w i j
def prsW (w : Wo) (kd fg m : Nat) (q : Nat → Nat) (c : Nat) : Wo := fun i j => if i = 0 then (if j = 3 then w 0 3 + 1 else w 0 j) else if i = 10 + w 0 3 then q j else if i = 20 + w 0 3 then c else if i < 5 ∧ j = w 0 3 then (if i = 1 then kd else if i = 2 then fg else if i = 3 then m else w 0 5) else w i j
def plQ (n : Nat) (l : Nat → Nat) (p i : Nat) : Nat := (stO (hr n l (p + i))).getD 0
/-- the statement at p is told -/
def cmF (n : Nat) (l : Nat → Nat) (p : Nat) (w : Wo) : Option Wo :=
  if hr n l p = some 109 then some (mooW w (rdM n l (p + 1)).1 (rdM n l (p + 1)).2.1 (rdM n l (p + 1)).2.2.1)
  else if hr n l p = some 100 then (if (rdD n l (p + 1) false).1 < 4 then some (upw w 0 4 (rdD n l (p + 1) false).1) else none)
  else if 5 < (dg1 n l (p + 1)).1 ∨ fre w (dg4 n l (p + 1)).1 = false ∨ w 0 3 = 5 then none
  else some (prsW w (dg1 n l (p + 1)).1 (dg2 n l (p + 1)).1 (dg5 n l (p + 1)).1 (plQ n l (dg4 n l (p + 1)).2.1) (dg4 n l (p + 1)).1)
theorem WOK_moo {w : Wo} {R C H : Nat} (hk : WOK 60 w) (hR : 2 ≤ R ∧ R ≤ 5) (hC : 2 ≤ C ∧ C ≤ 6) (hH : H < 2 ^ (R * C)) : WOK 60 (mooW w R C H) := ⟨hR, hC, hH, Nat.zero_le _, hk.2.2.2.2.1, Nat.zero_le _, fun p hp => absurd hp (by show ¬ p < 0; omega)⟩
theorem prs_f (w : Wo) (kd fg m : Nat) (q : Nat → Nat) (c x : Nat) : fre (prsW w kd fg m q c) x = fre w x := rfl
theorem prs_n {w : Wo} {kd fg m : Nat} {q : Nat → Nat} {c : Nat} (k3 : w 0 3 < 5) : prsW w kd fg m q c 0 3 = w 0 3 + 1 ∧ (∀ j, j ≠ 3 → prsW w kd fg m q c 0 j = w 0 j) ∧ prsW w kd fg m q c 1 (w 0 3) = kd ∧ prsW w kd fg m q c 2 (w 0 3) = fg ∧ prsW w kd fg m q c 3 (w 0 3) = m ∧ prsW w kd fg m q c 4 (w 0 3) = w 0 5 ∧ (∀ j, prsW w kd fg m q c (10 + w 0 3) j = q j) ∧ (∀ j, prsW w kd fg m q c (20 + w 0 3) j = c) ∧ ∀ i j, i ≠ 0 → i ≠ 10 + w 0 3 → i ≠ 20 + w 0 3 → (i < 5 → j ≠ w 0 3) → prsW w kd fg m q c i j = w i j := by
  refine ⟨rfl, fun j hj => ?_, ?_, ?_, ?_, ?_, fun j => ?_, fun j => ?_, fun i j h0 h1 h2 h3 => ?_⟩
  all_goals unfold prsW
  · rw [if_pos rfl, if_neg hj]
  · rw [if_neg (by omega), if_neg (by omega), if_neg (by omega), if_pos (by omega), if_pos rfl]
  · rw [if_neg (by omega), if_neg (by omega), if_neg (by omega), if_pos (by omega), if_neg (by omega), if_pos rfl]
  · rw [if_neg (by omega), if_neg (by omega), if_neg (by omega), if_pos (by omega), if_neg (by omega), if_neg (by omega), if_pos rfl]
  · rw [if_neg (by omega), if_neg (by omega), if_neg (by omega), if_pos (by omega), if_neg (by omega), if_neg (by omega), if_neg (by omega)]
  · rw [if_neg (by omega), if_pos rfl]
  · rw [if_neg (by omega), if_neg (by omega), if_pos rfl]
  · rw [if_neg h0, if_neg h1, if_neg h2, if_neg (by omega)]
theorem WOK_prs {w : Wo} {kd fg m : Nat} {q : Nat → Nat} {c : Nat} (hk : WOK 60 w) (k3 : w 0 3 < 5) (h1 : kd ≤ 5) (h2 : fg ≤ 9) (h3 : m ≤ 6) (h4 : ∀ i, i < m → q i ≤ 4) (h5 : fre w c = true) : WOK 60 (prsW w kd fg m q c) := by
  obtain ⟨z3, z0, z1, z2, z4, z5, z6, z7, z8⟩ := prs_n (kd := kd) (fg := fg) (m := m) (q := q) (c := c) k3
  obtain ⟨k0, k1, k2, k33, k4, k5, kp⟩ := hk
  have e5 := z0 5 (by decide)
  refine ⟨k0, k1, k2, by rw [z3]; omega, k4, k5, fun p hp => ?_⟩
  rw [z3] at hp
  by_cases e : p = w 0 3
  · subst e
    rw [z1, z2, z4, z5]
    refine ⟨h1, h2, h3, by rw [e5]; omega, fun k hk => by rw [z6]; exact h4 k hk, fun j _ => by rw [z7, prs_f]; exact h5, fun j _ => by rw [z7, z7]⟩
  · obtain ⟨g1, g2, g3, g4, g5, g6, g7⟩ := kp p (by omega)
    rw [e5]
    simp (disch := omega) only [z8, prs_f]
    exact ⟨g1, g2, g3, g4, g5, g6, g7⟩
def cS (i j : Nat) : Prop := (i = 44 ∧ j ≤ 5) ∨ (45 ≤ i ∧ i ≤ 50)
def cS2 (q i j : Nat) : Prop := i = 48 ∧ 6 * q ≤ j ∧ j < 6 * q + 6
theorem m_cm_l {h : Hp} {k q : Nat} (hW : MW h) (hk : k < 28) (hq : q < 5) (f3 : hI h 44 3 = nI q) : ∀ (f i : Nat) (hh : Hp), i + f = 6 → kp (cS2 q) h hh → (∀ t, t < i → hI hh 48 (6 * q + t) = hI h 61 (6 * k + t)) → ∃ h2, run 2 1232 134 [some (vo (some (44, 12, 0))), some (vi (nI k)), some (vi (nI i))] [] hh = run 2 1232 171 [some (vo (some (44, 12, 0))), some (vi (nI k)), some (vi (nI 6))] [] h2 ∧ kp (cS2 q) h h2 ∧ ∀ t, t < 6 → hI h2 48 (6 * q + t) = hI h 61 (6 * k + t) := by
  intro f
  induction f with
  | zero =>
    intro i hh hi K U
    obtain rfl : i = 6 := by omega
    refine ⟨hh, ?_, K, U⟩
    rw [x_1232_134]
    generalize hX : run 2 1232 171 _ _ _ = X
    simp (disch := omega) only [x_1232, xs, ↓reduceIte, cz_6, Nat.le_refl, ↓hX]
  | succ f ih =>
    intro i hh hi K U
    have WH := MW_k K hW
    have w9 : hR hh 44 9 = some (48, 13, 30) := WH.2.2.2.1
    have w31 : hR hh 44 31 = some (61, 13, 168) := WH.2.2.2.2.2.2.2.2.2.2.2.2.2.2.2.2.1
    have f3' : hI hh 44 3 = nI q := (K.2.2 _ _ (by unfold cS2; omega)).trans f3
    have e1 : hI hh 61 (6 * k + i) = hI h 61 (6 * k + i) := K.2.2 _ _ (by unfold cS2; omega)
    obtain ⟨h2, u1, u2, u3⟩ := ih (i + 1) (hsI hh 48 (6 * q + i) (hI h 61 (6 * k + i))) (by omega) (kp_t K (kp_I ⟨rfl, by omega, by omega⟩)) (fun t ht => by
      rw [hI_s]
      by_cases e : t = i
      · subst e; simp
      · rw [if_neg (by omega)]; exact U t (by omega))
    refine ⟨h2, ?_, u2, u3⟩
    rw [x_1232_134]
    refine Eq.trans ?_ u1
    have n6 : ¬ 6 ≤ i := by omega
    have s6 : (6 : Int32) = nI 6 := rfl
    simp (disch := omega) only [x_1232, xs, ↓reduceIte, nl_le, n6, w9, w31, f3', s6, pk_mul, nI_add, ↓ib_n, cl_n, e1, nl_inc]
