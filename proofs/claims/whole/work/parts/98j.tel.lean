/-! THE CLASS: a person told -/
theorem kc_s {k : Nat} (h : k ≤ 5) : am_sub (kc k) 9 = true := by
  rcases (by omega : k = 0 ∨ k = 1 ∨ k = 2 ∨ k = 3 ∨ k = 4 ∨ k = 5) with rfl | rfl | rfl | rfl | rfl | rfl <;> rfl
theorem c_recv {L : Nat → Prop} {h : Hp} {sp pid k c : Nat} {w : Wo} (hs : sp = 7 ∨ sp = 15) (cw : CW L h sp w) (hk : WOK 60 w) (h5 : k ≤ 5) (hc : c < 1000) : (w 0 3 = 5 ∨ fre w c = false → call 1003 [vo (some (sp, 10, 0)), vo (some (pid, kc k, 0)), vi (nI c)] h = some (some (vi 0), h)) ∧ (¬ (w 0 3 = 5 ∨ fre w c = false) → ∃ h2, call 1003 [vo (some (sp, 10, 0)), vo (some (pid, kc k, 0)), vi (nI c)] h = some (some (vi 1), h2) ∧ h2.1 = h.1 ∧ (∀ i j, ¬ (i = sp + 1 ∧ j = w 0 3) → hR h2 i j = hR h i j) ∧ hR h2 (sp + 1) (w 0 3) = some (pid, kc k, 0) ∧ (∀ i j, ¬ (i = sp ∧ j = 3) → ¬ i = sp + 3 + w 0 3 → hI h2 i j = hI h i j) ∧ hI h2 sp 3 = nI (w 0 3 + 1) ∧ ∀ j, j < 121 → hI h2 (sp + 3 + w 0 3) j = nI c) := by
  have k3 := hk.2.2.2.1
  obtain ⟨mo, m1, m2, m3, -, m5, -⟩ := cw.1
  have f3 := cw.2.1.2
  obtain ⟨v4, v5, vr⟩ := cw.2.2.1
  have hfr := c_free (c := c) hk m2 (by omega)
  have q5 : ((5 : Int32) ≤ nI (w 0 3)) = (5 ≤ w 0 3) := (cz_5 (by omega)).1
  constructor
  · intro z
    by_cases e : w 0 3 = 5
    · have e5 : 5 ≤ w 0 3 := by omega
      simp (disch := omega) only [e_1003, x_1003, xs, ↓reduceIte, f3, q5, eq_true e5]
    · have e5 : ¬ 5 ≤ w 0 3 := by omega
      rw [z.resolve_left e] at hfr
      simp (disch := omega) only [e_1003, x_1003, xs, ↓reduceIte, f3, q5, e5, m1, hfr, bI_f, i00]
  · intro z
    have e : ¬ w 0 3 = 5 := fun y => z (Or.inl y)
    have e5 : ¬ 5 ≤ w 0 3 := by omega
    have ef : fre w c = true := by
      cases q : fre w c with
      | true => rfl
      | false => exact absurd (Or.inr q) z
    rw [ef] at hfr
    generalize hq : w 0 3 = q at *
    obtain ⟨h1, r1, r2, r3⟩ := c_fill (r := sp + 3 + q) (n := 121) (nI c) (by decide) (hsR h (sp + 1) q (some (pid, kc k, 0)))
    have f3' : hI h1 sp 3 = nI q := by rw [r2.2.2 _ _ (by omega)]; exact f3
    refine ⟨hsI h1 sp 3 (nI (q + 1)), ?_, r2.1, fun i j nn => ?_, ?_, fun i j n1 n2 => ?_, hI_e _ _ _ _, fun j hj => ?_⟩
    · have c2 : (nI q < 0 ∨ 5 ≤ (nI q).toNatClampNeg ∨ am_sub (kc k) 9 = false) = False := by
        rw [kc_s h5, cl_n (by omega), nl_l0 (by omega)]
        simp only [eq_iff_iff, iff_false, false_or, Bool.true_eq_false, or_false]
        omega
      have v5' : hR (hsR h (sp + 1) q (some (pid, kc k, 0))) sp 5 = some (sp + 2, 15, 5) := by rw [hR_hsR, if_neg (by omega)]; exact v5
      have vr' : hR (hsR h (sp + 1) q (some (pid, kc k, 0))) (sp + 2) q = some (sp + 3 + q, 13, 121) := by rw [hR_hsR, if_neg (by omega)]; exact vr q (by omega)
      simp (disch := omega) only [e_1003, x_1003, xs, ↓reduceIte, f3, q5, e5, m1, hfr, bI_t, i10, v4, ↓c2, ↓ib_n, cl_n, hI_r, v5', vr', r1, f3', nl_inc]
    · rw [hR_s, r2.2.1, hR_hsR, if_neg nn]
    · rw [hR_s, r2.2.1, hR_hsR, if_pos ⟨rfl, rfl⟩]
    · rw [hI_n n1, r2.2.2 _ _ (by omega)]; rfl
    · rw [hI_n (by omega)]; exact r3 j hj
theorem spF_a {n : Nat} {l : Nat → Nat} : ∀ f j p i, j + i < (spF n l f j p).1 → ∃ s, stO (hr n l (p + i)) = some s := by
  intro f
  induction f with
  | zero => intro j p i h; have : j + i < j := h; omega
  | succ f ih =>
    intro j p i h
    unfold spF at h
    cases e : stO (hr n l p) with
    | none => rw [e] at h; have : j + i < j := h; omega
    | some s =>
      rw [e] at h
      cases i with
      | zero => exact ⟨s, e⟩
      | succ i =>
        have := ih (j + 1) (p + 1) i (by simp only at h; omega)
        rw [show p + 1 + i = p + (i + 1) by omega] at this
        exact this
theorem c_plan {H : Hp} {n m at' pla : Nat} {l : Nat → Nat} (g : LT H n l) (hpla : 70 ≤ pla) (hm : m ≤ 6) (hat : at' + m ≤ n) (hst : ∀ i, i < m → ∃ s, stO (hr n l (at' + i)) = some s) (l1 l2 l3 l4 : Option AV) : ∀ (k i : Nat) (hh : Hp), i + k = m → ck (fun a _ => a = pla) H hh → (∀ j, j < i → hI hh pla j = nI (plQ n l at' j)) → ∃ h2, run 4 417 58 [some (vo (some (31, 4, 0))), l1, l2, l3, l4, some (vi (nI at')), some (vo (some (pla, 13, m))), some (vi (nI i))] [] hh = run 4 417 89 [some (vo (some (31, 4, 0))), l1, l2, l3, l4, some (vi (nI at')), some (vo (some (pla, 13, m))), some (vi (nI m))] [] h2 ∧ ck (fun a _ => a = pla) H h2 ∧ ∀ j, j < m → hI h2 pla j = nI (plQ n l at' j) := by
  intro k
  induction k with
  | zero =>
    intro i hh hi K U
    obtain rfl : i = m := by omega
    refine ⟨hh, ?_, K, U⟩
    rw [x_417_58]
    generalize hX : run 4 417 89 _ _ _ = X
    simp (disch := omega) only [x_417, xs, al_n, ↓reduceIte, nl_le, Nat.le_refl, ↓hX]
  | succ k ih =>
    intro i hh hi K U
    have e : ¬ m ≤ i := by omega
    have g2 := LT_k K (by omega) (fun j => by omega) g
    have n80 := g.1
    have sg := c_sign g2 (p := at' + i) (by omega)
    obtain ⟨s, es⟩ := hst i (by omega)
    have sl := (stO_l es).2
    have so := so_n (g.2.2.2 (at' + i) (by omega)).2
    rw [sl] at so
    have so' : am_so (nI (l (at' + i))) = nI s := so
    have pq : plQ n l at' i = s := by unfold plQ; rw [es]; rfl
    obtain ⟨h2, r1, r2, r3⟩ := ih (i + 1) (hsI hh pla i (nI s)) (by omega) (ck_t K (ck_I rfl)) (fun j hj => by
      by_cases ej : j = i
      · subst ej; rw [hI_e, pq]
      · rw [hI_n (by omega)]; exact U j (by omega))
    refine ⟨h2, ?_, r2, r3⟩
    rw [x_417_58, ← r1]
    simp (disch := omega) only [x_417, xs, al_n, ↓reduceIte, nl_le, e, nI_add, sg, so', ↓ib_n, cl_n, nl_inc]
theorem c_tellPerson {L : Nat → Prop} {h : Hp} {n p sp : Nat} {l : Nat → Nat} {w : Wo} (hs : sp = 7 ∨ sp = 15) (g : LT h n l) (T : TT L h sp w) (hk : WOK 60 w) (z : (dg4 n l (p + 1)).2.2 = false) (he : (dg5 n l (p + 1)).2 < n) : ∃ h2, call 417 [vo (some (31, 4, 0)), vo (some (sp, 10, 0)), vi (nI p), vi (nI (dg5 n l (p + 1)).2)] h = some (some (vi (bI (!decide (5 < (dg1 n l (p + 1)).1 ∨ fre w (dg4 n l (p + 1)).1 = false ∨ w 0 3 = 5)))), h2) ∧ tlR L sp h (if 5 < (dg1 n l (p + 1)).1 ∨ fre w (dg4 n l (p + 1)).1 = false ∨ w 0 3 = 5 then none else some (prsW w (dg1 n l (p + 1)).1 (dg2 n l (p + 1)).1 (dg5 n l (p + 1)).1 (plQ n l (dg4 n l (p + 1)).2.1) (dg4 n l (p + 1)).1)) h2 := by
  obtain ⟨cw, ct, cu, cl, c70⟩ := id T
  have n80 := g.1
  have k3 := hk.2.2.2.1
  have k5 := hk.2.2.2.2.2.1
  obtain ⟨m6, m7⟩ := dg5_ok z
  obtain ⟨-, -, -, -, -, -, i1, i2, i3, v1, v2, -, i4⟩ := dg4_ok z
  have b1 := isD_l i1
  have b2 := isD_l i2
  have b3 := isD_l i3
  have e5 : dg5 n l (p + 1) = spF n l 6 0 (dg4 n l (p + 1)).2.1 := by unfold dg5; rw [if_neg (by rw [z]; decide)]
  have hst : ∀ i, i < (dg5 n l (p + 1)).1 → ∃ s, stO (hr n l ((dg4 n l (p + 1)).2.1 + i)) = some s := fun i hi => spF_a 6 0 _ i (by rw [← e5, Nat.zero_add]; exact hi)
  have d1 := c_digit g i1
  have d2 := c_digit g i2
  have d3 := c_digit g i3
  rw [v1, v2]
  have kd9 : l (p + 1) - 48 ≤ 9 := by omega
  -- the cell and the place behind the figures
  have st1 : ∃ c4 a4, (dg4 n l (p + 1)).1 = c4 ∧ (dg4 n l (p + 1)).2.1 = a4 ∧ c4 < 1000 ∧ a4 + (dg5 n l (p + 1)).1 < n ∧ call 417 [vo (some (31, 4, 0)), vo (some (sp, 10, 0)), vi (nI p), vi (nI (dg5 n l (p + 1)).2)] h = run 4 417 43 [some (vo (some (31, 4, 0))), some (vo (some (sp, 10, 0))), some (vi (nI p)), some (vi (nI (dg5 n l (p + 1)).2)), some (vi (nI c4)), some (vi (nI a4)), none, none] [] h := by
    have p3 : nI p + 3 = nI (p + 3) := by rw [show (3 : Int32) = nI 3 from rfl, nI_add]
    have p4 : nI p + 4 = nI (p + 4) := by rw [show (4 : Int32) = nI 4 from rfl, nI_add]
    have d3' : call 414 [vo (some (31, 4, 0)), vi (nI (p + 3))] h = some (some (vi (nI (l (p + 3) - 48))), h) := d3
    have a4n : p + 4 < n := by omega
    have sg := c_sign g a4n
    have lb := (g.2.2.2 (p + 4) a4n).2
    have dg := c_dig (h := h) lb
    rcases i4 with ⟨y1, y2, y3⟩ | ⟨y1, y2, y3⟩
    · have y1' : isD (some (l (p + 4))) = true := by rw [← hr_l (n := n) a4n]; exact y1
      rw [y1'] at dg
      have b4 := isD_l y1
      have b4' : 48 ≤ l (p + 4) ∧ l (p + 4) ≤ 57 := ⟨b4.2.1, b4.2.2.1⟩
      have b3' : 48 ≤ l (p + 3) ∧ l (p + 3) ≤ 57 := ⟨b3.2.1, b3.2.2.1⟩
      have d4 := c_digit g y1
      have d4' : call 414 [vo (some (31, 4, 0)), vi (nI (p + 4))] h = some (some (vi (nI (l (p + 4) - 48))), h) := d4
      have em : nI (l (p + 3) - 48) * (10 : Int32) + nI (l (p + 4) - 48) = nI (10 * (l (p + 3) - 48) + (l (p + 4) - 48)) := by rw [show (10 : Int32) = nI 10 from rfl, pk_mul, nI_add, Nat.mul_comm]
      refine ⟨10 * (l (p + 3) - 48) + (l (p + 4) - 48), p + 4 + 1, y3, y2.trans (by omega), by omega, by omega, ?_⟩
      generalize hX : run 4 417 43 _ _ _ = X
      have hX' : run 4 417 43 [some (vo (some (31, 4, 0))), some (vo (some (sp, 10, 0))), some (vi (nI p)), some (vi (nI (dg5 n l (p + 1)).2)), some (vi (nI (10 * (l (p + 3) - 48) + (l (p + 4) - 48)))), some (vi (nI (p + 4) + 1)), none, none] [] h = X := by rw [nl_inc]; exact hX
      simp (disch := omega) only [e_417, x_417, xs, ↓reduceIte, p3, p4, d3', sg, dg, bI_t, i10, d4', em, ↓hX']
    · have y1' : isD (some (l (p + 4))) = false := by rw [← hr_l (n := n) a4n]; exact y1
      rw [y1'] at dg
      have b3' : 48 ≤ l (p + 3) ∧ l (p + 3) ≤ 57 := ⟨b3.2.1, b3.2.2.1⟩
      refine ⟨l (p + 3) - 48, p + 4, y3, y2.trans (by omega), by omega, by omega, ?_⟩
      generalize hX : run 4 417 43 _ _ _ = X
      simp (disch := omega) only [e_417, x_417, xs, ↓reduceIte, p3, p4, d3', sg, dg, bI_f, i00, ↓hX]
  obtain ⟨c4, a4, ec, ea, c1000, an, r0⟩ := st1
  rw [ea] at m7 hst
  rw [ec, ea]
  clear i4
  generalize hm : (dg5 n l (p + 1)).1 = m at *
  rw [m7] at r0 ⊢
  rw [r0]
  clear r0
  -- the plan
  have hg : LT (hmk h m) n l := ⟨g.1, by rw [hI_hmk, if_neg (by omega)]; exact g.2.1, by rw [hR_hmk, if_neg (by omega)]; exact g.2.2.1, fun i hi => ⟨by rw [hI_hmk, if_neg (by omega)]; exact (g.2.2.2 i hi).1, (g.2.2.2 i hi).2⟩⟩
  obtain ⟨h1, s1, s2, s3⟩ := c_plan (pla := h.1.1) hg c70 m6 (by omega) hst (some (vo (some (sp, 10, 0)))) (some (vi (nI p))) (some (vi (nI (a4 + m)))) (some (vi (nI c4))) m 0 (hmk h m) (by omega) (ck_r _ _) (fun j hj => absurd hj (by omega))
  have t0 : run 4 417 43 [some (vo (some (31, 4, 0))), some (vo (some (sp, 10, 0))), some (vi (nI p)), some (vi (nI (a4 + m))), some (vi (nI c4)), some (vi (nI a4)), none, none] [] h = run 4 417 58 [some (vo (some (31, 4, 0))), some (vo (some (sp, 10, 0))), some (vi (nI p)), some (vi (nI (a4 + m))), some (vi (nI c4)), some (vi (nI a4)), some (vo (some (h.1.1, 13, m))), some (vi (nI 0))] [] (hmk h m) := by
    have es : nI (a4 + m) - nI a4 = nI m := by rw [pk_sub (by omega)]; congr 1; omega
    have mx : (if (0 : Int32) < nI m then nI m else 0) = nI m := by
      by_cases m0 : m = 0
      · subst m0; rfl
      · exact if_pos (by rw [show (0 : Int32) = nI 0 from rfl, nl_lt (by decide) (by omega)]; omega)
    simp (disch := omega) only [x_417, xs, ↓reduceIte, es, mx, ↓ib_n, cl_n]
    rfl
  rw [t0, s1]
  have g1 : LT h1 n l := LT_k s2 (by omega) (fun j => by omega) hg
  have e1 := c_digit g1 i1
  have e2 := c_digit g1 i2
  have p1 : nI p + 1 = nI (p + 1) := nl_inc p
  have p2 : nI p + 2 = nI (p + 2) := by rw [show (2 : Int32) = nI 2 from rfl, nI_add]
  have h1c : h1.1 = (h.1.1 + 1, h.1.2 + m) := s2.1
  have low1 : ∀ i j, i < h.1.1 → hI h1 i j = hI h i j ∧ hR h1 i j = hR h i j := fun i j hi => ⟨by rw [s2.2.2 _ _ (by omega), hI_hmk, if_neg (by omega)], by rw [s2.2.1, hR_hmk, if_neg (by omega)]⟩
  have ok := c_ofKind (h := h1) (k := l (p + 1) - 48) (f := nI (l (p + 1 + 1) - 48)) (r := some (h.1.1, 13, m)) kd9
  have e2' : call 414 [vo (some (31, 4, 0)), vi (nI (p + 2))] h1 = some (some (vi (nI (l (p + 1 + 1) - 48))), h1) := e2
  by_cases kd : l (p + 1) - 48 ≤ 5
  · -- a walker is made
    rw [if_pos kd, if_pos kd] at ok
    have lowW : ∀ i j, i < h.1.1 + 1 → hI (wH2 h1 (nI (l (p + 1 + 1) - 48)) (some (h.1.1, 13, m))) i j = hI h1 i j ∧ hR (wH2 h1 (nI (l (p + 1 + 1) - 48)) (some (h.1.1, 13, m))) i j = hR h1 i j := fun i j hi => by
      have hh : h1.1.1 = h.1.1 + 1 := by rw [h1c]
      refine ⟨?_, ?_⟩
      · show hI (hsI (hmk h1 2) h1.1.1 0 _) i j = _
        rw [hI_n (by omega), hI_hmk, if_neg (by omega)]
      · show hR (hsR (hsI (hmk h1 2) h1.1.1 0 _) h1.1.1 1 _) i j = _
        rw [hR_hsR, if_neg (by omega), hR_s, hR_hmk, if_neg (by omega)]
    generalize hW : wH2 h1 (nI (l (p + 1 + 1) - 48)) (some (h.1.1, 13, m)) = h2 at *
    have h2c : h2.1 = (h.1.1 + 2, h.1.2 + m + 2) := by rw [← hW]; show (h1.1.1 + 1, h1.1.2 + 2) = _; rw [h1c]
    have pid : h1.1.1 = h.1.1 + 1 := by rw [h1c]
    have w0 : hI h2 (h.1.1 + 1) 0 = nI (l (p + 1 + 1) - 48) := by rw [← hW, ← pid]; exact hI_e _ _ _ _
    have w1 : hR h2 (h.1.1 + 1) 1 = some (h.1.1, 13, m) := by
      rw [← hW, ← pid]
      show hR (hsR (hsI (hmk h1 2) h1.1.1 0 _) h1.1.1 1 _) h1.1.1 1 = _
      rw [hR_hsR, if_pos ⟨rfl, rfl⟩]
    have low2 : ∀ i j, i < h.1.1 → hI h2 i j = hI h i j ∧ hR h2 i j = hR h i j := fun i j hi => ⟨(lowW i j (by omega)).1.trans (low1 i j hi).1, (lowW i j (by omega)).2.trans (low1 i j hi).2⟩
    have iq2 : iq L h h2 := fun i y j => low2 i j (im_lt cl y)
    have cw2 : CW L h2 sp w := CW_q hk.2.2.2.1 iq2 (by rw [h2c]; show h.1.1 ≤ h.1.1 + 2; omega) (low2 _ _ (by omega)).2 (fun q hq => (low2 _ _ (by omega)).2) ⟨(low2 _ _ (by omega)).2.trans cw.2.2.1.1, (low2 _ _ (by omega)).2.trans cw.2.2.1.2.1, fun i hi => (low2 _ _ (by omega)).2.trans (cw.2.2.1.2.2 i hi)⟩ (low2 _ _ (by omega)).1 (low2 _ _ (by omega)).1 (fun q j hq hj => (low2 _ _ (by omega)).1) cw
    obtain ⟨rb, rg⟩ := c_recv (pid := h.1.1 + 1) (k := l (p + 1) - 48) (c := c4) hs cw2 hk kd c1000
    have Lx2 : ∀ h3 : Hp, h3.1 = h2.1 → Lx L (fun i => L i ∧ ¬ (i = h.1.1 ∨ i = h.1.1 + 1)) h h3 := fun h3 e3 => ⟨fun i y => y.1, fun i hi y => ⟨y, by omega⟩, fun i hi => by
      rw [e3, h2c] at hi
      have hi : h.1.1 + 2 ≤ i := hi
      exact ⟨cl i (by omega), by omega⟩⟩
    by_cases bad : w 0 3 = 5 ∨ fre w c4 = false
    · have bd : 5 < l (p + 1) - 48 ∨ fre w c4 = false ∨ w 0 3 = 5 := by
        rcases bad with y | y
        · exact Or.inr (Or.inr y)
        · exact Or.inr (Or.inl y)
      rw [if_pos bd, decide_eq_true bd]
      have r1 := rb bad
      refine ⟨h2, ?_, _, Lx2 h2 rfl, ⟨by rw [h2c]; show h.1.1 ≤ h.1.1 + 2; omega, by rw [h2c]; show h.1.1 + 2 ≤ h.1.1 + 6; omega, by rw [h2c]; show h.1.2 + m + 2 ≤ h.1.2 + 290; omega, fun i hi _ j => low2 i j hi⟩, (fun w2 ew => by cases ew), cw2.2.2.1, fun i hi => by rw [(low2 _ _ (by omega)).2]; exact cu i hi⟩
      rw [← pid] at r1
      simp (disch := omega) only [x_417, xs, p1, p2, e1, e2', ok, r1]
      rfl
    · have bd : ¬ (5 < l (p + 1) - 48 ∨ fre w c4 = false ∨ w 0 3 = 5) := by
        rintro (y | y | y)
        · omega
        · exact bad (Or.inr y)
        · exact bad (Or.inl y)
      rw [if_neg bd, decide_eq_false bd]
      obtain ⟨h3, r1, r2, r3, r4, r5, r6, r7⟩ := rg bad
      have k35 : w 0 3 < 5 := by omega
      have cv3 : CV h3 sp := ⟨(r3 _ _ (by omega)).trans cw2.2.2.1.1, (r3 _ _ (by omega)).trans cw2.2.2.1.2.1, fun i hi => (r3 _ _ (by omega)).trans (cw2.2.2.1.2.2 i hi)⟩
      have po3 : ∀ i, i < 5 → pO (hR h3 (sp + 1) i) := fun i hi => by
        by_cases ei : i = w 0 3
        · rw [ei, r4]; exact kc_s kd
        · rw [r3 _ _ (by omega), (low2 _ _ (by omega)).2]; exact cu i hi
      refine ⟨h3, ?_, _, Lx2 h3 r2, ⟨by rw [r2, h2c]; show h.1.1 ≤ h.1.1 + 2; omega, by rw [r2, h2c]; show h.1.1 + 2 ≤ h.1.1 + 6; omega, by rw [r2, h2c]; show h.1.2 + m + 2 ≤ h.1.2 + 290; omega, fun i hi nn j => ⟨(r5 i j (by omega) (by omega)).trans (low2 i j hi).1, (r3 i j (by omega)).trans (low2 i j hi).2⟩⟩, fun w2 ew => ?_, cv3, po3⟩
      · rw [← pid] at r1
        simp (disch := omega) only [x_417, xs, p1, p2, e1, e2', ok, r1]
        rfl
      · cases ew
        obtain ⟨z3, z0, z1, z2, z4, z5, z6, z7, z8⟩ := prs_n (w := w) (kd := l (p + 1) - 48) (fg := l (p + 1 + 1) - 48) (m := m) (q := plQ n l a4) (c := c4) k35
        have iq3 : iq L h2 h3 := fun i y j => ⟨r5 i j (fun x => im_n (by omega) y) (fun x => im_n (by omega) y), r3 i j (fun x => im_n (by omega) y)⟩
        have imx : ∀ i, im L i → im (fun i => L i ∧ ¬ (i = h.1.1 ∨ i = h.1.1 + 1)) i := fun i y => ⟨y.1, fun x => y.2 x.1⟩
        obtain ⟨c1, ⟨c2, c3⟩, c4', c5, c6⟩ := cw2
        have cg : CG L h3 sp w := CG_q iq3 (r3 _ _ (by omega)) (by rw [r2]; exact Nat.le_refl _) c1
        refine ⟨⟨?_, ⟨by rw [z0 4 (by decide), r5 _ _ (by omega) (by omega)]; exact c2, by rw [z3]; exact r6⟩, cv3, fun q hq => ?_, fun q hq j hj => ?_⟩, ?_, po3, (Lx2 h3 r2).2.2, by rw [r2, h2c]; show 70 ≤ h.1.1 + 2; omega⟩
        · obtain ⟨mo, x1, x2, x3, x4, x5, x6⟩ := CG_w (v := prsW w (l (p + 1) - 48) (l (p + 1 + 1) - 48) m (plQ n l a4) c4) (z0 0 (by decide)) (z0 1 (by decide)) (z0 2 (by decide)) cg
          have xo : mo + 5 < h.1.1 := by
            obtain ⟨mo2, y1, -, -, -, -, y6⟩ := cw.1
            have : mo = mo2 := by
              have q1 : hR h3 sp 0 = hR h sp 0 := (r3 _ _ (by omega)).trans (low2 _ _ (by omega)).2
              rw [q1, y1] at x1
              cases x1; rfl
            rw [this]; exact y6
          exact ⟨mo, x1, x2, fun i a b => imx i (x3 i a b), ⟨x4, by omega⟩, x5, x6⟩
        · rw [z3] at hq
          by_cases eq : q = w 0 3
          · subst eq
            refine ⟨h.1.1 + 1, h.1.1, by rw [z1]; exact r4, ?_, ?_, fun i hi => ?_, ⟨by omega, fun x => x.2 (Or.inr rfl)⟩, ⟨by omega, fun x => x.2 (Or.inl rfl)⟩⟩
            · rw [z2, r5 _ _ (by omega) (by omega)]; exact w0
            · rw [z4, r3 _ _ (by omega)]; exact w1
            · rw [z4] at hi
              rw [z6, r5 _ _ (by omega) (by omega), (lowW _ _ (by omega)).1]
              exact s3 i hi
          · have cp := CP_q iq3 (r3 (sp + 1) q (by omega)) (c5 q (by omega))
            obtain ⟨pd, pl', y1, y2, y3, y4, y5, y6⟩ := cp
            refine ⟨pd, pl', ?_, ?_, ?_, fun i hi => ?_, imx _ y5, imx _ y6⟩
            · rw [z8 _ _ (by omega) (by omega) (by omega) (by omega)]; exact y1
            · rw [z8 _ _ (by omega) (by omega) (by omega) (by omega)]; exact y2
            · rw [z8 _ _ (by omega) (by omega) (by omega) (by omega)]; exact y3
            · rw [z8 _ _ (by omega) (by omega) (by omega) (by omega)] at hi
              rw [z8 _ _ (by omega) (by omega) (by omega) (by omega)]
              exact y4 i hi
        · rw [z3] at hq
          rw [z0 5 (by decide)] at hj
          by_cases eq : q = w 0 3
          · subst eq
            rw [z7]
            exact r7 j (by omega)
          · rw [z8 _ _ (by omega) (by omega) (by omega) (by omega), r5 _ _ (by omega) (by omega)]
            exact c6 q (by omega) j hj
        · rw [z0 5 (by decide), r5 _ _ (by omega) (by omega), (low2 _ _ (by omega)).1]
          exact ct
  · -- nobody is made
    rw [if_neg kd, if_neg kd] at ok
    have bd : 5 < l (p + 1) - 48 ∨ fre w c4 = false ∨ w 0 3 = 5 := Or.inl (by omega)
    rw [if_pos bd, decide_eq_true bd]
    have rv : call 1003 [vo (some (sp, 10, 0)), vo none, vi (nI c4)] h1 = some (some (vi 0), h1) := by
      simp (disch := omega) only [e_1003, x_1003, xs, ↓reduceIte]
    refine ⟨h1, ?_, fun i => L i ∧ ¬ (i = h.1.1), ⟨fun i y => y.1, fun i hi y => ⟨y, by omega⟩, fun i hi => ?_⟩, ⟨by rw [h1c]; show h.1.1 ≤ h.1.1 + 1; omega, by rw [h1c]; show h.1.1 + 1 ≤ h.1.1 + 6; omega, by rw [h1c]; show h.1.2 + m ≤ h.1.2 + 290; omega, fun i hi _ j => low1 i j hi⟩, (fun w2 ew => by cases ew), ⟨(low1 _ _ (by omega)).2.trans cw.2.2.1.1, (low1 _ _ (by omega)).2.trans cw.2.2.1.2.1, fun i hi => (low1 _ _ (by omega)).2.trans (cw.2.2.1.2.2 i hi)⟩, fun i hi => by rw [(low1 _ _ (by omega)).2]; exact cu i hi⟩
    · simp (disch := omega) only [x_417, xs, p1, p2, e1, e2', ok, rv]
      rfl
    · rw [h1c] at hi
      have hi : h.1.1 + 1 ≤ i := hi
      exact ⟨cl i (by omega), by omega⟩
