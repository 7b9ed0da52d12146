/-! THE CLASS: a new moor -/
/-- its wiring and its fields -/
def CN (h : Hp) (mo : Nat) (w : Wo) : Prop := (hR h mo 4 = some (mo + 1, 13, 30) ∧ hR h mo 5 = some (mo + 2, 13, 30) ∧ hR h mo 6 = some (mo + 3, 13, 150) ∧ hR h mo 7 = some (mo + 4, 13, 30) ∧ hR h mo 8 = some (mo + 5, 13, 30)) ∧ hI h mo 0 = nI (w 0 0) ∧ hI h mo 1 = nI (w 0 1) ∧ hI h mo 2 = nI (w 0 0 * w 0 1) ∧ hI h mo 3 = nI (frB w)
def nS (mo i _ : Nat) : Prop := mo + 1 ≤ i ∧ i ≤ mo + 4
theorem CN_k {h h2 : Hp} {mo : Nat} {w : Wo} (a : ck (nS mo) h h2) (c : CN h mo w) : CN h2 mo w := by
  obtain ⟨⟨r1, r2, r3, r4, r5⟩, f0, f1, f2, f3⟩ := c
  have e : ∀ j, hI h2 mo j = hI h mo j := fun j => a.2.2 mo j (by unfold nS; omega)
  exact ⟨⟨(a.2.1 _ _).trans r1, (a.2.1 _ _).trans r2, (a.2.1 _ _).trans r3, (a.2.1 _ _).trans r4, (a.2.1 _ _).trans r5⟩, (e _).trans f0, (e _).trans f1, (e _).trans f2, (e _).trans f3⟩
theorem n_isFree {h : Hp} {mo d : Nat} {w : Wo} (x : Int32) (hk : WOK d w) (g : CN h mo w) : call 504 [vo (some (mo, 5, 0)), vi x] h = some (some (vi (bI (freI w x))), h) := by
  obtain ⟨-, -, -, f2, f3⟩ := g
  have hh := cells_le hk
  by_cases h0 : x < 0
  · have e : freI w x = false := by
      cases z : freI w x with
      | false => rfl
      | true =>
        obtain ⟨k, rfl, -, hk3⟩ := freI_of hk z
        rw [nl_l0 (by omega)] at h0
        exact absurd h0 (by simp)
    simp (disch := omega) only [e_504, x_504, xs, ↓reduceIte, eq_true h0, e]
    rfl
  · obtain ⟨k, hk3, rfl⟩ := nI_of h0
    rw [freI_n hk hk3]
    by_cases e : k < w 0 0 * w 0 1
    · have e2 : ¬ w 0 0 * w 0 1 ≤ k := by omega
      have hb := frB_lt hk
      cases z : fre w k with
      | true =>
        simp (disch := omega) only [e_504, x_504, xs, ↓reduceIte, nl_l0, f2, f3, nl_le, e2, nl_bit, frB_t, z]
        rfl
      | false =>
        simp (disch := omega) only [e_504, x_504, xs, ↓reduceIte, nl_l0, f2, f3, nl_le, e2, nl_bit, frB_t, z, Bool.false_eq_true]
        rfl
    · have e2 : w 0 0 * w 0 1 ≤ k := by omega
      have z : fre w k = false := by unfold fre; rw [decide_eq_false e]; rfl
      simp (disch := omega) only [e_504, x_504, xs, ↓reduceIte, nl_l0, f2, nl_le, eq_true e2, z]
      rfl
def frO (w : Wo) (o : Option Nat) : Bool := match o with
  | none => false
  | some t => fre w t
theorem n_fre {h : Hp} {mo d : Nat} {w : Wo} (o : Option Nat) (ho : ∀ t, o = some t → t < 2 ^ 31) (hk : WOK d w) (g : CN h mo w) : call 504 [vo (some (mo, 5, 0)), vi (oN o)] h = some (some (vi (bI (frO w o))), h) := by
  rw [n_isFree _ hk g]
  cases o with
  | none =>
    have : freI w (oN none) = false := by
      cases z : freI w (oN none) with
      | false => rfl
      | true =>
        obtain ⟨k, e, -, hk3⟩ := freI_of hk z
        exact absurd e.symm (by rw [oN_n]; exact of_eq_false (oN_b (b := k) (by omega)))
    rw [this]
    rfl
  | some t => rw [oN_s, freI_n hk (ho t rfl)]; rfl
theorem n_neigh {h : Hp} {mo d c s : Nat} {w : Wo} (hk : WOK d w) (g : CN h mo w) (hc : c < w 0 0 * w 0 1) (hs : s < 5) (v1 : hI h (mo + 1) c = nI (c / w 0 1)) (v2 : hI h (mo + 2) c = nI (c % w 0 1)) : call 502 [vo (some (mo, 5, 0)), vi (nI c), vi (nI s)] h = some (some (vi (oN (sq (w 0 0) (w 0 1) c s))), h) := by
  obtain ⟨⟨r1, r2, -⟩, f0, f1, -⟩ := g
  have cc := cells_le hk
  obtain ⟨⟨k1, k2⟩, ⟨k3, k4⟩, -⟩ := hk
  have q1 : c / w 0 1 < w 0 0 := Nat.div_lt_of_lt_mul (by rw [Nat.mul_comm]; exact hc)
  have q3 : c % w 0 1 < w 0 1 := Nat.mod_lt _ (by omega)
  have dm := Nat.div_add_mod c (w 0 1)
  have zz : ∀ k, k < 5 → (nI s = nI k) = (s = k) := fun k hk => nl_eq (by omega) (by omega)
  have z0 : (nI s = 0) = (s = 0) := zz 0 (by decide)
  have z1 : (nI s = 1) = (s = 1) := zz 1 (by decide)
  have z2 : (nI s = 2) = (s = 2) := zz 2 (by decide)
  have z3 : (nI s = 3) = (s = 3) := zz 3 (by decide)
  have l0 : ∀ x, x < 100 → (nI x ≤ 0) = (x = 0) := fun x hx => by
    rw [show (0 : Int32) = nI 0 from rfl, nl_le (by omega) (by decide)]
    exact propext Nat.le_zero
  have em : ∀ x, 1 ≤ x → nI x - 1 = nI (x - 1) := fun x hx => by rw [show (1 : Int32) = nI 1 from rfl, pk_sub hx]
  rcases (by omega : s = 0 ∨ s = 1 ∨ s = 2 ∨ s = 3 ∨ s = 4) with rfl | rfl | rfl | rfl | rfl
  · have i0 : (nI 0 = 0) = True := eq_true rfl
    by_cases e : w 0 1 ≤ c
    · have e1 : ¬ c / w 0 1 = 0 := by
        have := Nat.div_pos e (by omega)
        omega
      have es : sq (w 0 0) (w 0 1) c 0 = some (c - w 0 1) := by show (if w 0 1 ≤ c then _ else _) = _; rw [if_pos e]
      rw [es]
      simp (disch := omega) only [e_502, x_502, xs, ↓reduceIte, r1, r2, ↓ib_n, cl_n, v1, v2, i0, l0, e1, f1, pk_sub]
      rfl
    · have e1 : c / w 0 1 = 0 := Nat.div_eq_of_lt (by omega)
      have es : sq (w 0 0) (w 0 1) c 0 = none := by show (if w 0 1 ≤ c then _ else _) = _; rw [if_neg e]
      rw [es]
      simp (disch := omega) only [e_502, x_502, xs, ↓reduceIte, r1, r2, ↓ib_n, cl_n, v1, v2, i0, l0, eq_true e1]
      rfl
  · have n0 : ¬ (1 : Nat) = 0 := by decide
    have i1 : (nI 1 = 1) = True := eq_true rfl
    have i10' : (nI 1 = 0) = False := eq_false (by decide)
    by_cases e : c % w 0 1 + 1 < w 0 1
    · have e1 : ¬ w 0 1 - 1 ≤ c % w 0 1 := by omega
      have es : sq (w 0 0) (w 0 1) c 1 = some (c + 1) := by show (if c % w 0 1 + 1 < w 0 1 then _ else _) = _; rw [if_pos e]
      rw [es]
      simp (disch := omega) only [e_502, x_502, xs, ↓reduceIte, r1, r2, ↓ib_n, cl_n, v1, v2, i1, i10', f1, em, nl_le, e1, nl_inc]
      rfl
    · have e1 : w 0 1 - 1 ≤ c % w 0 1 := by omega
      have es : sq (w 0 0) (w 0 1) c 1 = none := by show (if c % w 0 1 + 1 < w 0 1 then _ else _) = _; rw [if_neg e]
      rw [es]
      simp (disch := omega) only [e_502, x_502, xs, ↓reduceIte, r1, r2, ↓ib_n, cl_n, v1, v2, i1, i10', f1, em, nl_le, eq_true e1]
      rfl
  · have i2 : (nI 2 = 2) = True := eq_true rfl
    have i20 : (nI 2 = 0) = False := eq_false (by decide)
    have i21 : (nI 2 = 1) = False := eq_false (by decide)
    have key : (c + w 0 1 < w 0 0 * w 0 1) ↔ c / w 0 1 < w 0 0 - 1 := by
      rw [← Nat.div_lt_iff_lt_mul (by omega : 0 < w 0 1), Nat.add_div_right c (by omega : 0 < w 0 1)]
      generalize c / w 0 1 = y
      omega
    by_cases e : c + w 0 1 < w 0 0 * w 0 1
    · have e1 : ¬ w 0 0 - 1 ≤ c / w 0 1 := by have := key.mp e; omega
      have es : sq (w 0 0) (w 0 1) c 2 = some (c + w 0 1) := by show (if c + w 0 1 < w 0 0 * w 0 1 then _ else _) = _; rw [if_pos e]
      rw [es]
      simp (disch := omega) only [e_502, x_502, xs, ↓reduceIte, r1, r2, ↓ib_n, cl_n, v1, v2, i2, i20, i21, f0, f1, em, nl_le, e1, nI_add]
      rfl
    · have e1 : w 0 0 - 1 ≤ c / w 0 1 := Nat.le_of_not_lt (fun z => e (key.mpr z))
      have es : sq (w 0 0) (w 0 1) c 2 = none := by show (if c + w 0 1 < w 0 0 * w 0 1 then _ else _) = _; rw [if_neg e]
      rw [es]
      simp (disch := omega) only [e_502, x_502, xs, ↓reduceIte, r1, r2, ↓ib_n, cl_n, v1, v2, i2, i20, i21, f0, em, nl_le, eq_true e1]
      rfl
  · have i3 : (nI 3 = 3) = True := eq_true rfl
    have i30 : (nI 3 = 0) = False := eq_false (by decide)
    have i31 : (nI 3 = 1) = False := eq_false (by decide)
    have i32 : (nI 3 = 2) = False := eq_false (by decide)
    by_cases e : 0 < c % w 0 1
    · have e1 : ¬ c % w 0 1 = 0 := by omega
      have e2 : 1 ≤ c := by have := Nat.mod_le c (w 0 1); omega
      have es : sq (w 0 0) (w 0 1) c 3 = some (c - 1) := by show (if 0 < c % w 0 1 then _ else _) = _; rw [if_pos e]
      rw [es]
      simp (disch := omega) only [e_502, x_502, xs, ↓reduceIte, r1, r2, ↓ib_n, cl_n, v1, v2, i3, i30, i31, i32, l0, e1, em]
      rfl
    · have e1 : c % w 0 1 = 0 := by omega
      have es : sq (w 0 0) (w 0 1) c 3 = none := by show (if 0 < c % w 0 1 then _ else _) = _; rw [if_neg e]
      rw [es]
      simp (disch := omega) only [e_502, x_502, xs, ↓reduceIte, r1, r2, ↓ib_n, cl_n, v1, v2, i3, i30, i31, i32, l0, eq_true e1]
      rfl
  · have i40 : (nI 4 = 0) = False := eq_false (by decide)
    have i41 : (nI 4 = 1) = False := eq_false (by decide)
    have i42 : (nI 4 = 2) = False := eq_false (by decide)
    have i43 : (nI 4 = 3) = False := eq_false (by decide)
    simp (disch := omega) only [e_502, x_502, xs, ↓reduceIte, r1, r2, ↓ib_n, cl_n, v1, v2, i40, i41, i42, i43]
    rfl
/-- the steps of one cell laid out -/
theorem n_lay_l {h : Hp} {mo d c : Nat} {w : Wo} (hk : WOK d w) (g : CN h mo w) (hc : c < w 0 0 * w 0 1) (fc : fre w c = true) (v1 : hI h (mo + 1) c = nI (c / w 0 1)) (v2 : hI h (mo + 2) c = nI (c % w 0 1)) (v3 : ∀ s, s < 5 → hI h (mo + 3) (5 * c + s) = -9) : ∀ (n s a : Nat) (hh : Hp) (l3 : Option AV), s + n = 5 → a < 2 ^ 30 → ck (fun i j => (i = mo + 3 ∧ 5 * c ≤ j ∧ j < 5 * c + 5) ∨ (i = mo + 4 ∧ j = c)) h hh → hI hh (mo + 4) c = nI a → (∀ t, t < s → hI hh (mo + 3) (5 * c + t) = nxV w c t) → (∀ t, s ≤ t → t < 5 → hI hh (mo + 3) (5 * c + t) = -9) → ∃ h2, run 1 501 2 [some (vo (some (mo, 5, 0))), some (vi (nI c)), some (vi (nI s)), l3] [] hh = some (none, h2) ∧ ck (fun i j => (i = mo + 3 ∧ 5 * c ≤ j ∧ j < 5 * c + 5) ∨ (i = mo + 4 ∧ j = c)) h h2 ∧ hI h2 (mo + 4) c = nI (arF w c n s a) ∧ ∀ t, t < 5 → hI h2 (mo + 3) (5 * c + t) = nxV w c t := by
  have cc := cells_le hk
  intro n
  induction n with
  | zero =>
    intro s a hh l3 hs ha K va vn vr
    obtain rfl : s = 5 := by omega
    refine ⟨hh, ?_, K, va, vn⟩
    rw [x_501_2]
    simp (disch := omega) only [x_501, xs, ↓reduceIte, cz_5, Nat.le_refl]
  | succ n ih =>
    intro s a hh l3 hs ha K va vn vr
    have e : ¬ 5 ≤ s := by omega
    have g2 : CN hh mo w := CN_k (ck_m K (fun i j z => by unfold nS; omega)) g
    have u1 : hI hh (mo + 1) c = nI (c / w 0 1) := (K.2.2 _ _ (by omega)).trans v1
    have u2 : hI hh (mo + 2) c = nI (c % w 0 1) := (K.2.2 _ _ (by omega)).trans v2
    obtain ⟨⟨-, -, r6, r7, -⟩, -⟩ := id g2
    have h1 := n_isFree (nI c) hk g2
    rw [freI_n hk (by omega), fc] at h1
    have h2 := n_neigh hk g2 hc (by omega : s < 5) u1 u2
    have sb : ∀ t, sq (w 0 0) (w 0 1) c s = some t → t < 2 ^ 31 := fun t z => by
      have := sq_c z
      have := hk.2.1.2
      omega
    have h3 := n_fre _ sb hk g2
    rw [x_501_2]
    unfold arF
    have nx : nxV w c s = oN (stp w c s) := by unfold nxV; rw [if_pos fc]
    cases q : sq (w 0 0) (w 0 1) c s with
    | none =>
      rw [q] at h2 h3
      have sn : stp w c s = none := by unfold stp; rw [q]
      obtain ⟨hz, x1, x2⟩ := ih (s + 1) a hh (some (vi (-9))) (by omega) ha K va (fun t ht => by
        by_cases et : t = s
        · subst et; rw [vr t (by omega) (by omega), nx, sn]; rfl
        · exact vn t (by omega)) (fun t a b => vr t (by omega) b)
      refine ⟨hz, ?_, by rw [sn]; exact x2⟩
      rw [← x1]
      have h2' : call 502 [vo (some (mo, 5, 0)), vi (nI c), vi (nI s)] hh = some (some (vi (-9)), hh) := h2
      have h3' : call 504 [vo (some (mo, 5, 0)), vi (-9)] hh = some (some (vi (bI false)), hh) := h3
      simp (disch := omega) only [x_501, xs, ↓reduceIte, cz_5, e, h1, bI_t, i10, h2', h3', bI_f, i00, nl_inc]
    | some t0 =>
      rw [q] at h2 h3
      have h2' : call 502 [vo (some (mo, 5, 0)), vi (nI c), vi (nI s)] hh = some (some (vi (nI t0)), hh) := h2
      have h3' : call 504 [vo (some (mo, 5, 0)), vi (nI t0)] hh = some (some (vi (bI (fre w t0))), hh) := h3
      cases qf : fre w t0 with
      | false =>
        rw [qf] at h3'
        have sn : stp w c s = none := by unfold stp; rw [q]; simp [qf]
        obtain ⟨hz, x1, x2⟩ := ih (s + 1) a hh (some (vi (nI t0))) (by omega) ha K va (fun t ht => by
          by_cases et : t = s
          · subst et; rw [vr t (by omega) (by omega), nx, sn]; rfl
          · exact vn t (by omega)) (fun t a b => vr t (by omega) b)
        refine ⟨hz, ?_, by rw [sn]; exact x2⟩
        rw [← x1]
        simp (disch := omega) only [x_501, xs, ↓reduceIte, cz_5, e, h1, bI_t, i10, h2', h3', bI_f, i00, nl_inc]
      | true =>
        rw [qf] at h3'
        have sn : stp w c s = some t0 := by unfold stp; rw [q]; simp [qf]
        have tl := fre_lt qf
        have p2 := p2_lt (c := t0) (by omega)
        have va2 : hI (hsI hh (mo + 3) (5 * c + s) (nI t0)) (mo + 4) c = nI a := by rw [hI_n (by omega)]; exact va
        obtain ⟨hz, x1, x2⟩ := ih (s + 1) (a ||| 2 ^ t0) (hsI (hsI hh (mo + 3) (5 * c + s) (nI t0)) (mo + 4) c (nI (a ||| 2 ^ t0))) (some (vi (nI t0))) (by omega) (or_lt ha (by omega)) (ck_t K (ck_t (ck_I (by omega)) (ck_I (by omega)))) (hI_e _ _ _ _) (fun t ht => by
          rw [hI_n (by omega)]
          by_cases et : t = s
          · subst et; rw [hI_e, nx, sn]; rfl
          · rw [hI_n (by omega)]; exact vn t (by omega)) (fun t a b => by rw [hI_n (by omega), hI_n (by omega)]; exact vr t (by omega) b)
        refine ⟨hz, ?_, by rw [sn]; exact x2⟩
        rw [← x1]
        have s5 : nI c * (5 : Int32) + nI s = nI (5 * c + s) := by rw [show (5 : Int32) = nI 5 from rfl, pk_mul, nI_add, Nat.mul_comm]
        simp (disch := omega) only [x_501, xs, ↓reduceIte, cz_5, e, h1, bI_t, i10, h2', h3', r6, s5, ↓ib_n, cl_n, hR_s, r7, va2, nl_s1, nl_or, nl_inc]
theorem n_lay {h : Hp} {mo d c : Nat} {w : Wo} (hk : WOK d w) (g : CN h mo w) (hc : c < w 0 0 * w 0 1) (v1 : hI h (mo + 1) c = nI (c / w 0 1)) (v2 : hI h (mo + 2) c = nI (c % w 0 1)) (v3 : ∀ s, s < 5 → hI h (mo + 3) (5 * c + s) = -9) (v4 : hI h (mo + 4) c = nI 0) : ∃ h2, call 501 [vo (some (mo, 5, 0)), vi (nI c)] h = some (none, h2) ∧ ck (fun i j => (i = mo + 3 ∧ 5 * c ≤ j ∧ j < 5 * c + 5) ∨ (i = mo + 4 ∧ j = c)) h h2 ∧ hI h2 (mo + 4) c = nI (arB w c) ∧ ∀ t, t < 5 → hI h2 (mo + 3) (5 * c + t) = nxV w c t := by
  have cc := cells_le hk
  cases q : fre w c with
  | true =>
    obtain ⟨h2, x1, x2, x3, x4⟩ := n_lay_l hk g hc q v1 v2 v3 5 0 0 h none rfl (by decide) (ck_r _ _) v4 (fun t ht => absurd ht (by omega)) (fun t _ ht => v3 t ht)
    refine ⟨h2, ?_, x2, by unfold arB; rw [if_pos q]; exact x3, x4⟩
    rw [← x1]
    simp only [e_501, x_501, xs]
    exact rfl
  | false =>
    have h1 := n_isFree (nI c) hk g
    rw [freI_n hk (by omega), q] at h1
    refine ⟨h, ?_, ck_r _ _, by unfold arB; rw [q]; exact v4, fun t ht => by rw [v3 t ht]; unfold nxV; rw [q]; rfl⟩
    have s0 : call 501 [vo (some (mo, 5, 0)), vi (nI c)] h = run 1 501 2 [some (vo (some (mo, 5, 0))), some (vi (nI c)), some (vi (nI 0)), none] [] h := by
      simp only [e_501, x_501, xs]
      rfl
    have e : ¬ 5 ≤ 0 := by decide
    rw [s0, x_501_2]
    simp (disch := omega) only [x_501, xs, ↓reduceIte, cz_5, e, h1, bI_f, i00]
