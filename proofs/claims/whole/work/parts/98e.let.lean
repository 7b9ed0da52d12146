/-! THE CLASS: the first bad place -/
theorem au_b {q : AS} {c B : Nat} (h : AB q B) (h6 : 6 ≤ B) : AB (au q c).1 (B + 1) := by
  obtain ⟨b1, b2, b3, b4, b5⟩ := h
  have bC : AB (auC q c).1 (B + 1) := ⟨by show 0 ≤ 8; omega, by show q.2.1 ≤ _; omega, by show q.2.2.1 ≤ _; omega, by show q.2.2.2.1 ≤ _; omega, by show q.2.2.2.2 ≤ _; omega⟩
  have bQ : AB q (B + 1) := ⟨b1, by omega, by omega, by omega, by omega⟩
  have bD : ∀ t, t ≤ 8 → AB (auD q c t).1 (B + 1) := fun t ht => by
    unfold auD
    split
    · exact ⟨ht, by show q.2.1 ≤ _; omega, by show q.2.2.1 ≤ _; omega, by show q.2.2.2.1 ≤ _; omega, by show q.2.2.2.2 ≤ _; omega⟩
    · exact bQ
  have bP : AB (auP q c).1 (B + 1) := by
    unfold auP
    split
    · exact bC
    · exact ⟨by show 6 ≤ 8; omega, by show q.2.1 ≤ _; omega, by show q.2.2.1 ≤ _; omega, by show q.2.2.2.1 ≤ _; omega, by show q.2.2.2.2 + 1 ≤ _; omega⟩
  have bO : ∀ t, t ≤ 8 → AB (t, 0, 6, 0, 0) (B + 1) := fun t ht => ⟨ht, by show 0 ≤ _; omega, by show 6 ≤ _; omega, by show 0 ≤ _; omega, by show 0 ≤ _; omega⟩
  unfold au
  split
  · unfold auO
    split
    · exact bO _ (by omega)
    · split
      · exact bO _ (by omega)
      · split
        · exact bO _ (by omega)
        · exact bO _ (by omega)
  · split
    · unfold auR
      split
      · exact ⟨b1, by show q.2.1 ≤ _; omega, by show q.2.2.1 ≤ _; omega, by show q.2.2.2.1 + 1 ≤ _; omega, by show q.2.2.2.2 ≤ _; omega⟩
      · split
        · exact ⟨b1, by show q.2.1 + 1 ≤ _; omega, by show q.2.2.2.1 ≤ _; omega, by show 0 ≤ _; omega, by show q.2.2.2.2 ≤ _; omega⟩
        · split
          · exact bC
          · exact bQ
    · split
      · exact bD _ (by omega)
      · split
        · exact bD _ (by omega)
        · split
          · exact bD _ (by omega)
          · split
            · split
              · exact bD _ (by omega)
              · exact bP
            · split
              · exact bP
              · split
                · exact bD _ (by omega)
                · exact bC
theorem c_au {h : Hp} {q : AS} {c B : Nat} (hz : LZ h q) (hb : AB q B) (hB : B ≤ 1000) (hc : c ≤ 255) : ∃ h2, call 405 [vo (some (31, 4, 0)), vi (nI c)] h = some (some (vi (bI (au q c).2)), h2) ∧ LA h2 (au q c).1 ∧ ck lS h h2 := by
  have a1 := hz.1
  have b1 := hb.1
  have zz : ∀ k, k < 9 → (nI q.1 = nI k) = (q.1 = k) := fun k hk => nl_eq (by omega) (by omega)
  have z0 : (nI q.1 = 0) = (q.1 = 0) := zz 0 (by decide)
  have z1 : (nI q.1 = 1) = (q.1 = 1) := zz 1 (by decide)
  have z2 : (nI q.1 = 2) = (q.1 = 2) := zz 2 (by decide)
  have z3 : (nI q.1 = 3) = (q.1 = 3) := zz 3 (by decide)
  have z4 : (nI q.1 = 4) = (q.1 = 4) := zz 4 (by decide)
  have z5 : (nI q.1 = 5) = (q.1 = 5) := zz 5 (by decide)
  have z6 : (nI q.1 = 6) = (q.1 = 6) := zz 6 (by decide)
  have z7 : (nI q.1 = 7) = (q.1 = 7) := zz 7 (by decide)
  unfold au
  by_cases e0 : q.1 = 0
  · rw [if_pos e0]
    obtain ⟨h2, r1, r2⟩ := c_auO a1 e0 hc
    refine ⟨h2, ?_, r2⟩
    simp (disch := omega) only [e_405, x_405, xs, ↓reduceIte, a1, z0, eq_true e0, r1, bI_d]
  rw [if_neg e0]
  have hq := hz.2 e0
  by_cases e1 : q.1 = 1
  · rw [if_pos e1]
    obtain ⟨h2, r1, r2⟩ := c_auR hq hb hB hc
    refine ⟨h2, ?_, r2⟩
    simp (disch := omega) only [e_405, x_405, xs, ↓reduceIte, a1, z0, z1, e0, eq_true e1, r1, bI_d]
  rw [if_neg e1]
  by_cases e2 : q.1 = 2
  · rw [if_pos e2]
    obtain ⟨h2, r1, r2⟩ := c_auD (t := 3) hq hc
    have r1' : call 410 [vo (some (31, 4, 0)), vi (nI c), vi 3] h = some (some (vi (bI (auD q c 3).2)), h2) := r1
    refine ⟨h2, ?_, r2⟩
    simp (disch := omega) only [e_405, x_405, xs, ↓reduceIte, a1, z0, z1, z2, e0, e1, eq_true e2, r1', bI_d]
  rw [if_neg e2]
  by_cases e3 : q.1 = 3
  · rw [if_pos e3]
    obtain ⟨h2, r1, r2⟩ := c_auD (t := 4) hq hc
    have r1' : call 410 [vo (some (31, 4, 0)), vi (nI c), vi 4] h = some (some (vi (bI (auD q c 4).2)), h2) := r1
    refine ⟨h2, ?_, r2⟩
    simp (disch := omega) only [e_405, x_405, xs, ↓reduceIte, a1, z0, z1, z2, z3, e0, e1, e2, eq_true e3, r1', bI_d]
  rw [if_neg e3]
  by_cases e4 : q.1 = 4
  · rw [if_pos e4]
    obtain ⟨h2, r1, r2⟩ := c_auD (t := 5) hq hc
    have r1' : call 410 [vo (some (31, 4, 0)), vi (nI c), vi 5] h = some (some (vi (bI (auD q c 5).2)), h2) := r1
    refine ⟨h2, ?_, r2⟩
    simp (disch := omega) only [e_405, x_405, xs, ↓reduceIte, a1, z0, z1, z2, z3, z4, e0, e1, e2, e3, eq_true e4, r1', bI_d]
  rw [if_neg e4]
  by_cases e5 : q.1 = 5
  · rw [if_pos e5]
    obtain ⟨h2, r1, r2⟩ := c_auD (t := 6) hq hc
    have r1' : call 410 [vo (some (31, 4, 0)), vi (nI c), vi 6] h = some (some (vi (bI (auD q c 6).2)), h2) := r1
    cases ed : isD (some c) with
    | true =>
      rw [if_pos rfl]
      refine ⟨h2, ?_, r2⟩
      have e7 : (auD q c 6).2 = true := by unfold auD; rw [if_pos ed]
      rw [e7] at r1' ⊢
      simp (disch := omega) only [e_405, x_405, xs, ↓reduceIte, a1, z0, z1, z2, z3, z4, z5, e0, e1, e2, e3, e4, eq_true e5, r1', bI_t, i10]
    | false =>
      rw [if_neg (by decide)]
      have e7 : auD q c 6 = (q, false) := by unfold auD; rw [ed]; rfl
      rw [e7] at r1' r2
      obtain ⟨h3, s1, s2, s3⟩ := c_auP r2.1 hb hB hc
      refine ⟨h3, ?_, s2, ck_t r2.2 s3⟩
      cases eb : (auP q c).2 with
      | true =>
        rw [eb] at s1
        simp (disch := omega) only [e_405, x_405, xs, ↓reduceIte, a1, z0, z1, z2, z3, z4, z5, e0, e1, e2, e3, e4, eq_true e5, r1', bI_f, i00, s1, bI_t, i10]
      | false =>
        rw [eb] at s1
        simp (disch := omega) only [e_405, x_405, xs, ↓reduceIte, a1, z0, z1, z2, z3, z4, z5, e0, e1, e2, e3, e4, eq_true e5, r1', bI_f, i00, s1]
  rw [if_neg e5]
  by_cases e6 : q.1 = 6
  · rw [if_pos e6]
    obtain ⟨h2, r1, r2⟩ := c_auP hq hb hB hc
    refine ⟨h2, ?_, r2⟩
    simp (disch := omega) only [e_405, x_405, xs, ↓reduceIte, a1, z0, z1, z2, z3, z4, z5, z6, e0, e1, e2, e3, e4, e5, eq_true e6, r1, bI_d]
  rw [if_neg e6]
  by_cases e7 : q.1 = 7
  · rw [if_pos e7]
    obtain ⟨h2, r1, r2⟩ := c_auD (t := 8) hq hc
    have r1' : call 410 [vo (some (31, 4, 0)), vi (nI c), vi 8] h = some (some (vi (bI (auD q c 8).2)), h2) := r1
    refine ⟨h2, ?_, r2⟩
    simp (disch := omega) only [e_405, x_405, xs, ↓reduceIte, a1, z0, z1, z2, z3, z4, z5, z6, z7, e0, e1, e2, e3, e4, e5, e6, eq_true e7, r1', bI_d]
  rw [if_neg e7]
  obtain ⟨h2, r1, r2⟩ := c_auC hq hc
  refine ⟨h2, ?_, r2⟩
  simp (disch := omega) only [e_405, x_405, xs, ↓reduceIte, a1, z0, z1, z2, z3, z4, z5, z6, z7, e0, e1, e2, e3, e4, e5, e6, e7, r1, bI_d]
/-- the letters -/
def LT (h : Hp) (n : Nat) (l : Nat → Nat) : Prop := n ≤ 80 ∧ hI h 31 0 = nI n ∧ hR h 31 1 = some (32, 13, 80) ∧ ∀ i, i < n → hI h 32 i = nI (l i) ∧ l i ≤ 255
theorem LT_k {S : Nat → Nat → Prop} {h h2 : Hp} {n : Nat} {l : Nat → Nat} (a : ck S h h2) (s1 : ¬ S 31 0) (s2 : ∀ j, ¬ S 32 j) (c : LT h n l) : LT h2 n l := ⟨c.1, (a.2.2 _ _ s1).trans c.2.1, (a.2.1 _ _).trans c.2.2.1, fun i hi => ⟨(a.2.2 _ _ (s2 _)).trans (c.2.2.2 i hi).1, (c.2.2.2 i hi).2⟩⟩
theorem LT_l {h h2 : Hp} {n : Nat} {l : Nat → Nat} (a : ck lS h h2) (c : LT h n l) : LT h2 n l := LT_k a (by unfold lS; omega) (fun j => by unfold lS; omega) c
theorem c_go {h : Hp} {n : Nat} {l : Nat → Nat} {q2 : AS} (g : LT h n l) : ∀ (m p : Nat) (q : AS) (hh : Hp), p + m ≤ n → aR l m p q = some q2 → LZ hh q → AB q (6 + p) → ck lS h hh → ∃ h2, run 3 404 7 [some (vo (some (31, 4, 0))), some (vi (nI p))] [] hh = run 3 404 7 [some (vo (some (31, 4, 0))), some (vi (nI (p + m)))] [] h2 ∧ LZ h2 q2 ∧ AB q2 (6 + (p + m)) ∧ ck lS h h2 := by
  intro m
  induction m with
  | zero => intro p q hh _ ha hq hb K; cases ha; exact ⟨hh, rfl, hq, hb, K⟩
  | succ m ih =>
    intro p q hh hp ha hq hb K
    obtain ⟨n80, t0, t1, t2⟩ := LT_l K g
    obtain ⟨v, vb⟩ := t2 p (by omega)
    obtain ⟨h1, s1, s2, s3⟩ := c_au hq hb (by omega) vb
    unfold aR at ha
    split at ha
    · rename_i e
      rw [e] at s1
      obtain ⟨h2, r1, r2, r3, r4⟩ := ih (p + 1) _ h1 (by omega) ha (LZ_A s2) (au_b hb (Nat.le_add_right 6 p)) (ck_t K s3)
      rw [show p + 1 + m = p + (m + 1) by omega] at r1 r3
      refine ⟨h2, ?_, r2, r3, r4⟩
      have ne : ¬ n ≤ p := by omega
      rw [x_404_7]
      refine Eq.trans ?_ r1
      simp (disch := omega) only [x_404, xs, ↓reduceIte, t0, nl_le, ne, t1, ↓ib_n, cl_n, v, s1, bI_t, i10, nl_inc]
    · cases ha
theorem c_stop {h : Hp} {n p : Nat} {l : Nat → Nat} {q : AS} (g : LT h n l) (hp : p ≤ n) (hq : LZ h q) (hb : AB q (6 + p)) (x : aX n l p q) : ∃ h2, run 3 404 7 [some (vo (some (31, 4, 0))), some (vi (nI p))] [] h = some (some (vi (nI p)), h2) ∧ ck lS h h2 := by
  obtain ⟨n80, t0, t1, t2⟩ := id g
  by_cases e : p < n
  · obtain ⟨v, vb⟩ := t2 p e
    obtain ⟨h1, s1, s2, s3⟩ := c_au hq hb (by omega) vb
    rw [x.1 e] at s1
    refine ⟨h1, ?_, s3⟩
    have ne : ¬ n ≤ p := by omega
    rw [x_404_7]
    simp (disch := omega) only [x_404, xs, ↓reduceIte, t0, nl_le, ne, t1, ↓ib_n, cl_n, v, s1, bI_f, i00]
  · have en : p = n := by omega
    subst en
    have ph := x.2 (Nat.le_refl _)
    have b1 := hb.1
    have a1 := hq.1
    have z0 : (nI q.1 = 0) = False := by rw [nl_e0 (by omega)]; exact eq_false ph
    refine ⟨h, ?_, ck_r _ _⟩
    rw [x_404_7]
    by_cases p0 : p = 0
    · have zl : (nI p ≤ 0) = True := by rw [p0]; exact eq_true (by decide)
      simp (disch := omega) only [x_404, xs, ↓reduceIte, t0, nl_le, Nat.le_refl, zl]
    · have zl : (nI p ≤ 0) = False := by rw [show (0 : Int32) = nI 0 from rfl, nl_le (by omega) (by decide)]; exact eq_false (by omega)
      simp (disch := omega) only [x_404, xs, ↓reduceIte, t0, nl_le, Nat.le_refl, zl, a1, z0]
theorem c_pF {h : Hp} {n : Nat} {l : Nat → Nat} (g : LT h n l) : ∀ (f k p : Nat) (q : AS) (hh : Hp), k + f = 28 → 3 * k ≤ p → p ≤ n → (p = n → k ≠ 0) → q.1 = 0 → LZ hh q → AB q (6 + p) → ck lS h hh → ∃ h2, run 3 404 7 [some (vo (some (31, 4, 0))), some (vi (nI p))] [] hh = some (some (vi (if (pF n l f k p).2.2 = true then nI (pF n l f k p).2.1 else -1)), h2) ∧ ck lS h h2 := by
  intro f
  induction f with
  | zero => intro k p q hh hk h3 hp; have := g.1; omega
  | succ f ih =>
    intro k p q hh hk h3 hp hz q0 hq hb K
    have g2 := LT_l K g
    obtain ⟨n80, t0, t1, t2⟩ := id g2
    unfold pF
    by_cases e : k ≠ 0 ∧ n ≤ p
    · rw [if_pos e]
      have en : p = n := by omega
      subst en
      have a1 := hq.1
      rw [q0] at a1
      have z0 : (nI 0 = 0) = True := eq_true rfl
      have zl : (nI p ≤ 0) = False := by rw [show (0 : Int32) = nI 0 from rfl, nl_le (by omega) (by decide)]; exact eq_false (by omega)
      refine ⟨hh, ?_, K⟩
      rw [x_404_7]
      simp (disch := omega) only [x_404, xs, ↓reduceIte, t0, nl_le, Nat.le_refl, zl, a1, z0, Bool.false_eq_true]
    · rw [if_neg e]
      have pn : p < n := by
        rcases Nat.lt_or_ge p n with z | z
        · exact z
        · exact absurd ⟨hz (by omega), z⟩ e
      obtain ⟨s0, s1, s2⟩ := a_stm (n := n) (p := p) (l := l) q0 pn
      by_cases b : (rdS n l p).2 = true
      · rw [if_pos b]
        obtain ⟨q2, x1, x2⟩ := s2 b
        have x0 := x1.1
        obtain ⟨h1, r1, r2, r3, r4⟩ := c_go g ((rdS n l p).1 - p) p q hh (by omega) x1.2 hq hb K
        rw [show p + ((rdS n l p).1 - p) = (rdS n l p).1 by omega] at r1 r3
        obtain ⟨h2, u1, u2⟩ := c_stop (LT_l r4 g) s0 r2 r3 x2
        exact ⟨h2, by rw [r1, u1]; rfl, ck_t r4 u2⟩
      · rw [if_neg b]
        have b := bnt b
        obtain ⟨q2, x1, x2⟩ := s1 b
        have x0 := x1.1
        have x3 := rdS_p b
        obtain ⟨h1, r1, r2, r3, r4⟩ := c_go g ((rdS n l p).1 - p) p q hh (by omega) x1.2 hq hb K
        rw [show p + ((rdS n l p).1 - p) = (rdS n l p).1 by omega] at r1 r3
        obtain ⟨h2, u1, u2⟩ := ih (k + 1) (rdS n l p).1 q2 h1 (by omega) (by omega) s0 (fun _ => by omega) x2 r2 r3 r4
        exact ⟨h2, by rw [r1, u1], u2⟩
theorem c_badPlace {h : Hp} {n : Nat} {l : Nat → Nat} (g : LT h n l) : ∃ h2, call 404 [vo (some (31, 4, 0))] h = some (some (vi (if (pF n l 28 0 0).2.2 = true then nI (pF n l 28 0 0).2.1 else -1)), h2) ∧ ck lS h h2 := by
  have K : ck lS h (hsI h 31 2 0) := ck_I (by unfold lS; omega)
  have z : LZ (hsI h 31 2 0) (0, 0, 6, 0, 0) := ⟨hI_e _ _ _ _, fun y => absurd rfl y⟩
  have ab : AB (0, 0, 6, 0, 0) (6 + 0) := ⟨by decide, by decide, by decide, by decide, by decide⟩
  have s0 : call 404 [vo (some (31, 4, 0))] h = run 3 404 7 [some (vo (some (31, 4, 0))), some (vi (nI 0))] [] (hsI h 31 2 0) := by
    simp only [e_404, x_404, xs]
    rfl
  rw [s0]
  by_cases e : n = 0
  · subst e
    obtain ⟨n80, t0, -⟩ := LT_l K g
    have e1 : pF 0 l 28 0 0 = (1, 0, true) := by
      have : rdS 0 l 0 = (0, true) := by unfold rdS rd1 clz hr; simp
      unfold pF
      rw [if_neg (fun y => y.1 rfl), this]
      rfl
    refine ⟨hsI h 31 2 0, ?_, K⟩
    have zl : (nI 0 ≤ 0) = True := eq_true (by decide)
    rw [x_404_7, e1]
    simp (disch := omega) only [x_404, xs, ↓reduceIte, t0, nl_le, Nat.le_refl, zl]
  · exact c_pF g 28 0 0 (0, 0, 6, 0, 0) (hsI h 31 2 0) rfl (by omega) (by omega) (fun y => by omega) rfl z ab K
