/-! THE CLASS: the form of letters -/
def LA (h : Hp) (q : AS) : Prop := hI h 31 2 = nI q.1 ∧ hI h 31 3 = nI q.2.1 ∧ hI h 31 4 = nI q.2.2.1 ∧ hI h 31 5 = nI q.2.2.2.1 ∧ hI h 31 6 = nI q.2.2.2.2
/-- in an open place the phase alone counts -/
def LZ (h : Hp) (q : AS) : Prop := hI h 31 2 = nI q.1 ∧ (q.1 ≠ 0 → LA h q)
theorem LZ_A {h : Hp} {q : AS} (a : LA h q) : LZ h q := ⟨a.1, fun _ => a⟩
def lS (i j : Nat) : Prop := i = 31 ∧ 2 ≤ j ∧ j ≤ 6
def AB (q : AS) (B : Nat) : Prop := q.1 ≤ 8 ∧ q.2.1 ≤ B ∧ q.2.2.1 ≤ B ∧ q.2.2.2.1 ≤ B ∧ q.2.2.2.2 ≤ B
theorem so_n {c : Nat} (h : c ≤ 255) : am_so (nI c) = oI (stL c) := by
  have : ∀ c ∈ List.range 256, am_so (nI c) = oI (stL c) := by decide +kernel
  exact this c (List.mem_range.mpr (by omega))
theorem c_dig {h : Hp} {c : Nat} (hc : c ≤ 255) : call 411 [vi (nI c)] h = some (some (vi (bI (isD (some c)))), h) := by
  have q1 : (nI c < 48) = (c < 48) := by rw [show (48 : Int32) = nI 48 from rfl, nl_lt (by omega) (by decide)]
  have q2 : ((57 : Int32) < nI c) = (57 < c) := by rw [show (57 : Int32) = nI 57 from rfl, nl_lt (by decide) (by omega)]
  unfold isD
  by_cases e1 : c < 48
  · simp (disch := omega) only [e_411, x_411, xs, ↓reduceIte, q1, eq_true e1, decide_eq_false (show ¬ 48 ≤ c by omega), Bool.false_and]
    rfl
  · by_cases e2 : 57 < c
    · simp (disch := omega) only [e_411, x_411, xs, ↓reduceIte, q1, e1, q2, eq_true e2, decide_eq_false (show ¬ c ≤ 57 by omega), Bool.and_false]
      rfl
    · simp (disch := omega) only [e_411, x_411, xs, ↓reduceIte, q1, e1, q2, e2, decide_eq_true (show 48 ≤ c by omega), decide_eq_true (show c ≤ 57 by omega), Bool.and_true]
      rfl
theorem c_auC {h : Hp} {q : AS} {c : Nat} (hq : LA h q) (hc : c ≤ 255) : ∃ h2, call 407 [vo (some (31, 4, 0)), vi (nI c)] h = some (some (vi (bI (auC q c).2)), h2) ∧ LA h2 (auC q c).1 ∧ ck lS h h2 := by
  obtain ⟨a1, a2, a3, a4, a5⟩ := hq
  refine ⟨hsI h 31 2 0, ?_, ⟨by rw [hI_e]; rfl, by rw [hI_n (by omega)]; exact a2, by rw [hI_n (by omega)]; exact a3, by rw [hI_n (by omega)]; exact a4, by rw [hI_n (by omega)]; exact a5⟩, ck_I (by unfold lS; omega)⟩
  have q1 : (nI c = 59) = (c = 59) := by rw [show (59 : Int32) = nI 59 from rfl, nl_eq (by omega) (by decide)]
  unfold auC
  by_cases e : c = 59
  · simp (disch := omega) only [e_407, x_407, xs, ↓reduceIte, q1, eq_true e, decide_eq_true e]
    rfl
  · simp (disch := omega) only [e_407, x_407, xs, ↓reduceIte, q1, e, decide_eq_false e]
    rfl
theorem c_auD {h : Hp} {q : AS} {c t : Nat} (hq : LA h q) (hc : c ≤ 255) : ∃ h2, call 410 [vo (some (31, 4, 0)), vi (nI c), vi (nI t)] h = some (some (vi (bI (auD q c t).2)), h2) ∧ LA h2 (auD q c t).1 ∧ ck lS h h2 := by
  obtain ⟨a1, a2, a3, a4, a5⟩ := id hq
  have hd := c_dig (h := h) hc
  unfold auD
  cases e : isD (some c) with
  | false =>
    rw [e] at hd
    rw [if_neg (by decide)]
    refine ⟨h, ?_, hq, ck_r _ _⟩
    simp (disch := omega) only [e_410, x_410, xs, ↓reduceIte, hd, bI_f, i00]
  | true =>
    rw [e] at hd
    rw [if_pos rfl]
    refine ⟨hsI h 31 2 (nI t), ?_, ⟨by rw [hI_e], by rw [hI_n (by omega)]; exact a2, by rw [hI_n (by omega)]; exact a3, by rw [hI_n (by omega)]; exact a4, by rw [hI_n (by omega)]; exact a5⟩, ck_I (by unfold lS; omega)⟩
    simp (disch := omega) only [e_410, x_410, xs, ↓reduceIte, hd, bI_t, i10]
theorem c_auP {h : Hp} {q : AS} {c B : Nat} (hq : LA h q) (hb : AB q B) (hB : B ≤ 1000) (hc : c ≤ 255) : ∃ h2, call 409 [vo (some (31, 4, 0)), vi (nI c)] h = some (some (vi (bI (auP q c).2)), h2) ∧ LA h2 (auP q c).1 ∧ ck lS h h2 := by
  obtain ⟨a1, a2, a3, a4, a5⟩ := id hq
  obtain ⟨-, -, -, -, b5⟩ := hb
  have so := so_n hc
  unfold auP
  cases e : stL c with
  | none =>
    rw [e] at so
    rw [if_pos rfl]
    obtain ⟨h2, r1, r2⟩ := c_auC hq hc
    refine ⟨h2, ?_, r2⟩
    have z : ((0 : Int32) ≤ oI none) = False := eq_false (by decide)
    simp (disch := omega) only [e_409, x_409, xs, ↓reduceIte, so, z, r1, bI_d]
  | some s =>
    rw [e] at so
    rw [if_neg (by simp)]
    have s4 : s ≤ 4 := stO_lt (o := some c) e
    have z : ((0 : Int32) ≤ oI (some s)) = True := nl_g0 (by omega)
    refine ⟨hsI (hsI h 31 2 6) 31 6 (nI (q.2.2.2.2 + 1)), ?_, ⟨by rw [hI_n (by omega), hI_e]; rfl, by rw [hI_n (by omega), hI_n (by omega)]; exact a2, by rw [hI_n (by omega), hI_n (by omega)]; exact a3, by rw [hI_n (by omega), hI_n (by omega)]; exact a4, by rw [hI_e]⟩, ck_t (ck_I (by unfold lS; omega)) (ck_I (by unfold lS; omega))⟩
    have v : hI (hsI h 31 2 6) 31 6 = nI q.2.2.2.2 := by rw [hI_n (by omega)]; exact a5
    by_cases e6 : q.2.2.2.2 + 1 ≤ 6
    · have n6 : ¬ 6 < q.2.2.2.2 + 1 := by omega
      simp (disch := omega) only [e_409, x_409, xs, ↓reduceIte, so, z, v, nl_inc, hI_e, cz_6, n6, decide_eq_true e6]
      rfl
    · have n6 : 6 < q.2.2.2.2 + 1 := by omega
      simp (disch := omega) only [e_409, x_409, xs, ↓reduceIte, so, z, v, nl_inc, hI_e, cz_6, eq_true n6, decide_eq_false e6]
      rfl
theorem c_auO {h : Hp} {q : AS} {c : Nat} (a1 : hI h 31 2 = nI q.1) (h0 : q.1 = 0) (hc : c ≤ 255) : ∃ h2, call 406 [vo (some (31, 4, 0)), vi (nI c)] h = some (some (vi (bI (auO q c).2)), h2) ∧ LA h2 (auO q c).1 ∧ ck lS h h2 := by
  have q1 : (nI c = 109) = (c = 109) := by rw [show (109 : Int32) = nI 109 from rfl, nl_eq (by omega) (by decide)]
  have q2 : (nI c = 112) = (c = 112) := by rw [show (112 : Int32) = nI 112 from rfl, nl_eq (by omega) (by decide)]
  have q3 : (nI c = 100) = (c = 100) := by rw [show (100 : Int32) = nI 100 from rfl, nl_eq (by omega) (by decide)]
  have ck4 : ck lS h (hsI (hsI (hsI (hsI h 31 3 0) 31 4 6) 31 5 0) 31 6 0) := ck_t (ck_t (ck_t (ck_I (by unfold lS; omega)) (ck_I (by unfold lS; omega))) (ck_I (by unfold lS; omega))) (ck_I (by unfold lS; omega))
  have la : ∀ (t : Nat), LA (hsI (hsI (hsI (hsI (hsI h 31 3 0) 31 4 6) 31 5 0) 31 6 0) 31 2 (nI t)) (t, 0, 6, 0, 0) := fun t => ⟨by rw [hI_e], by rw [hI_n (by omega), hI_n (by omega), hI_n (by omega), hI_n (by omega), hI_e]; rfl, by rw [hI_n (by omega), hI_n (by omega), hI_n (by omega), hI_e]; rfl, by rw [hI_n (by omega), hI_n (by omega), hI_e]; rfl, by rw [hI_n (by omega), hI_e]; rfl⟩
  unfold auO
  by_cases e1 : c = 109
  · rw [if_pos e1]
    refine ⟨_, ?_, la 1, ck_t ck4 (ck_I (by unfold lS; omega))⟩
    have n3 : ¬ c = 100 := by omega
    simp (disch := omega) only [e_406, x_406, xs, ↓reduceIte, q1, q3, n3, eq_true e1]
    rfl
  · rw [if_neg e1]
    by_cases e2 : c = 112
    · rw [if_pos e2]
      refine ⟨_, ?_, la 2, ck_t ck4 (ck_I (by unfold lS; omega))⟩
      have n3 : ¬ c = 100 := by omega
      simp (disch := omega) only [e_406, x_406, xs, ↓reduceIte, q1, q2, q3, n3, e1, eq_true e2]
      rfl
    · rw [if_neg e2]
      by_cases e3 : c = 100
      · rw [if_pos e3]
        refine ⟨_, ?_, la 7, ck_t ck4 (ck_I (by unfold lS; omega))⟩
        simp (disch := omega) only [e_406, x_406, xs, ↓reduceIte, q1, q2, q3, e1, e2, eq_true e3]
        rfl
      · rw [if_neg e3]
        refine ⟨hsI (hsI (hsI (hsI h 31 3 0) 31 4 6) 31 5 0) 31 6 0, ?_, ⟨by rw [hI_n (by omega), hI_n (by omega), hI_n (by omega), hI_n (by omega), a1, h0], by rw [hI_n (by omega), hI_n (by omega), hI_n (by omega), hI_e]; rfl, by rw [hI_n (by omega), hI_n (by omega), hI_e]; rfl, by rw [hI_n (by omega), hI_e]; rfl, by rw [hI_e]; rfl⟩, ck4⟩
        simp (disch := omega) only [e_406, x_406, xs, ↓reduceIte, q1, q2, q3, e1, e2, e3]
        rfl
theorem c_auR {h : Hp} {q : AS} {c B : Nat} (hq : LA h q) (hb : AB q B) (hB : B ≤ 1000) (hc : c ≤ 255) : ∃ h2, call 408 [vo (some (31, 4, 0)), vi (nI c)] h = some (some (vi (bI (auR q c).2)), h2) ∧ LA h2 (auR q c).1 ∧ ck lS h h2 := by
  obtain ⟨a1, a2, a3, a4, a5⟩ := id hq
  obtain ⟨-, b2, b3, b4, -⟩ := hb
  have q1 : (nI c = 46) = (c = 46) := by rw [show (46 : Int32) = nI 46 from rfl, nl_eq (by omega) (by decide)]
  have q2 : (nI c = 35) = (c = 35) := by rw [show (35 : Int32) = nI 35 from rfl, nl_eq (by omega) (by decide)]
  have q3 : (nI c = 47) = (c = 47) := by rw [show (47 : Int32) = nI 47 from rfl, nl_eq (by omega) (by decide)]
  unfold auR
  by_cases eg : c = 46 ∨ c = 35
  · rw [if_pos eg]
    have v4 : hI (hsI h 31 5 (nI (q.2.2.2.1 + 1))) 31 4 = nI q.2.2.1 := by rw [hI_n (by omega)]; exact a3
    refine ⟨hsI h 31 5 (nI (q.2.2.2.1 + 1)), ?_, ⟨by rw [hI_n (by omega)]; exact a1, by rw [hI_n (by omega)]; exact a2, by rw [hI_n (by omega)]; exact a3, by rw [hI_e], by rw [hI_n (by omega)]; exact a5⟩, ck_I (by unfold lS; omega)⟩
    have fin : ∀ b : Bool, decide (q.2.2.2.1 + 1 ≤ q.2.2.1) = b → run 1 408 12 [some (vo (some (31, 4, 0))), some (vi (nI c)), none] [] h = some (some (vi (bI b)), hsI h 31 5 (nI (q.2.2.2.1 + 1))) := fun b eb => by
      by_cases e : q.2.2.2.1 + 1 ≤ q.2.2.1
      · have n : ¬ q.2.2.1 < q.2.2.2.1 + 1 := by omega
        rw [decide_eq_true e] at eb
        subst eb
        simp (disch := omega) only [x_408, xs, ↓reduceIte, a4, nl_inc, hI_e, v4, nl_lt, n]
        rfl
      · have n : q.2.2.1 < q.2.2.2.1 + 1 := by omega
        rw [decide_eq_false e] at eb
        subst eb
        simp (disch := omega) only [x_408, xs, ↓reduceIte, a4, nl_inc, hI_e, v4, nl_lt, eq_true n]
        rfl
    have f2 := fin _ rfl
    by_cases e1 : c = 46
    · rw [← f2]
      generalize hX : run 1 408 12 _ _ _ = X
      simp (disch := omega) only [e_408, x_408, xs, ↓reduceIte, q1, eq_true e1, ↓hX]
    · have e2 : c = 35 := eg.resolve_left e1
      rw [← f2]
      generalize hX : run 1 408 12 _ _ _ = X
      simp (disch := omega) only [e_408, x_408, xs, ↓reduceIte, q1, q2, e1, eq_true e2, ↓hX]
  · rw [if_neg eg]
    have e1 : ¬ c = 46 := fun z => eg (Or.inl z)
    have e2 : ¬ c = 35 := fun z => eg (Or.inr z)
    by_cases e7 : c = 47
    · rw [if_pos e7]
      have v5 : hI (hsI h 31 4 (nI q.2.2.2.1)) 31 3 = nI q.2.1 := by rw [hI_n (by omega)]; exact a2
      have v6 : hI (hsI (hsI h 31 4 (nI q.2.2.2.1)) 31 5 0) 31 3 = nI q.2.1 := by rw [hI_n (by omega)]; exact v5
      refine ⟨hsI (hsI (hsI h 31 4 (nI q.2.2.2.1)) 31 5 0) 31 3 (nI (q.2.1 + 1)), ?_, ⟨by rw [hI_n (by omega), hI_n (by omega), hI_n (by omega)]; exact a1, by rw [hI_e], by rw [hI_n (by omega), hI_n (by omega), hI_e], by rw [hI_n (by omega), hI_e]; rfl, by rw [hI_n (by omega), hI_n (by omega), hI_n (by omega)]; exact a5⟩, ck_t (ck_t (ck_I (by unfold lS; omega)) (ck_I (by unfold lS; omega))) (ck_I (by unfold lS; omega))⟩
      have z2 : ∀ x : Nat, x < 2 ^ 31 → (nI x < 2) = (x < 2) := fun x hx => (cz_2 hx).2.2.2.1
      have z5 : ∀ x : Nat, x < 2 ^ 31 → ((5 : Int32) ≤ nI x) = (5 ≤ x) := fun x hx => (cz_5 hx).1
      by_cases r0 : q.2.1 = 0
      · by_cases c2 : 2 ≤ q.2.2.2.1
        · have n2 : ¬ q.2.2.2.1 < 2 := by omega
          have n5 : ¬ 5 ≤ q.2.1 + 1 := by omega
          simp (disch := omega) only [e_408, x_408, xs, ↓reduceIte, q1, q2, q3, e1, e2, eq_true e7, a2, nl_e0, eq_true r0, a4, z2, n2, v5, v6, nl_inc, i10, hI_e, z5, n5]
          rw [decide_eq_true c2, decide_eq_true (show q.2.1 + 1 < 5 by omega)]
          rfl
        · have n2 : q.2.2.2.1 < 2 := by omega
          simp (disch := omega) only [e_408, x_408, xs, ↓reduceIte, q1, q2, q3, e1, e2, eq_true e7, a2, nl_e0, eq_true r0, a4, z2, eq_true n2, v5, v6, nl_inc, i00]
          rw [decide_eq_false c2]
          rfl
      · by_cases cw : q.2.2.2.1 = q.2.2.1
        · by_cases n5 : 5 ≤ q.2.1 + 1
          · simp (disch := omega) only [e_408, x_408, xs, ↓reduceIte, q1, q2, q3, e1, e2, eq_true e7, a2, nl_e0, r0, a3, a4, nl_eq, eq_true cw, v5, v6, nl_inc, i10, hI_e, z5, eq_true n5]
            rw [decide_eq_false (show ¬ q.2.1 + 1 < 5 by omega), Bool.and_false]
            rfl
          · simp (disch := omega) only [e_408, x_408, xs, ↓reduceIte, q1, q2, q3, e1, e2, eq_true e7, a2, nl_e0, r0, a3, a4, nl_eq, eq_true cw, v5, v6, nl_inc, i10, hI_e, z5, n5]
            rw [decide_eq_true (show q.2.1 + 1 < 5 by omega)]
            first | rfl | (rw [decide_eq_true cw]; rfl)
        · simp (disch := omega) only [e_408, x_408, xs, ↓reduceIte, q1, q2, q3, e1, e2, eq_true e7, a2, nl_e0, r0, a3, a4, nl_eq, cw, v5, v6, nl_inc, i00]
          first | rfl | (rw [decide_eq_false cw]; rfl)
    · rw [if_neg e7]
      have zl : (nI q.2.1 ≤ 0) = (q.2.1 = 0) := by
        rw [show (0 : Int32) = nI 0 from rfl, nl_le (by omega) (by decide)]
        exact propext Nat.le_zero
      by_cases ee : 0 < q.2.1 ∧ q.2.2.2.1 = q.2.2.1
      · rw [if_pos ee]
        obtain ⟨h2, r1, r2⟩ := c_auC hq hc
        refine ⟨h2, ?_, r2⟩
        have r0 : ¬ q.2.1 = 0 := by omega
        cases eb : (auC q c).2 with
        | true =>
          rw [eb] at r1
          simp (disch := omega) only [e_408, x_408, xs, ↓reduceIte, q1, q2, q3, e1, e2, e7, a2, zl, r0, a3, a4, nl_eq, eq_true ee.2, r1, bI_t, i10]
        | false =>
          rw [eb] at r1
          simp (disch := omega) only [e_408, x_408, xs, ↓reduceIte, q1, q2, q3, e1, e2, e7, a2, zl, r0, a3, a4, nl_eq, eq_true ee.2, r1, bI_f, i00]
      · rw [if_neg ee]
        refine ⟨h, ?_, hq, ck_r _ _⟩
        by_cases r0 : q.2.1 = 0
        · simp (disch := omega) only [e_408, x_408, xs, ↓reduceIte, q1, q2, q3, e1, e2, e7, a2, zl, eq_true r0]
          rfl
        · have cw : ¬ q.2.2.2.1 = q.2.2.1 := fun z => ee ⟨by omega, z⟩
          simp (disch := omega) only [e_408, x_408, xs, ↓reduceIte, q1, q2, q3, e1, e2, e7, a2, zl, r0, a3, a4, nl_eq, cw]
          rfl
