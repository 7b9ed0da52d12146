/-! THE REFERENCE: a statement read -/
/-- what stands behind the letter at p: the place after it, is it bad -/
def rd1 (n : Nat) (l : Nat → Nat) (p : Nat) : Nat × Bool :=
  if hr n l p = some 109 then ((rdM n l (p + 1)).2.2.2.1, (rdM n l (p + 1)).2.2.2.2)
  else if hr n l p = some 112 then ((dg5 n l (p + 1)).2, (dg4 n l (p + 1)).2.2)
  else if hr n l p = some 100 then (rdD n l (p + 1) false).2
  else (p, true)
def clz (n : Nat) (l : Nat → Nat) (q : Nat) (b : Bool) : Nat × Bool := if b = true ∨ hr n l q ≠ some 59 then (q, true) else (q + 1, false)
def rdS (n : Nat) (l : Nat → Nat) (p : Nat) : Nat × Bool := clz n l (rd1 n l p).1 (rd1 n l p).2
/-- statement k, read from p on, is put away -/
def SK (h : Hp) (n : Nat) (l : Nat → Nat) (k p : Nat) : Prop := hI h 55 k = nI p ∧ hI h 56 k = oI (hr n l p) ∧ (hr n l p = some 109 → hI h 57 k = nI (rdM n l (p + 1)).1 ∧ hI h 58 k = nI (rdM n l (p + 1)).2.1 ∧ hI h 59 k = nI (rdM n l (p + 1)).2.2.1) ∧ (hr n l p = some 112 → hI h 57 k = nI (dg1 n l (p + 1)).1 ∧ hI h 58 k = nI (dg2 n l (p + 1)).1 ∧ hI h 59 k = nI (dg4 n l (p + 1)).1 ∧ hI h 60 k = nI (dg5 n l (p + 1)).1 ∧ ∀ i, i < (dg5 n l (p + 1)).1 → ∃ s, stO (hr n l ((dg4 n l (p + 1)).2.1 + i)) = some s ∧ hI h 61 (6 * k + i) = nI s) ∧ (hr n l p = some 100 → hI h 57 k = nI (rdD n l (p + 1) false).1)
def rS6 (k i j : Nat) : Prop := (i = 44 ∧ (j = 22 ∨ j = 23 ∨ j = 24)) ∨ ((55 ≤ i ∧ i ≤ 60) ∧ j = k) ∨ (i = 61 ∧ 6 * k ≤ j ∧ j < 6 * k + 6)
def rS7 (i j : Nat) : Prop := i = 44 ∧ (j = 22 ∨ j = 23 ∨ j = 24)
theorem m_rs_t {h : Hp} {n q k : Nat} {l : Nat → Nat} {b : Bool} (l1 l2 : Option AV) (hW : MW h) (R : RS h n l q b) (hk : hI h 44 24 = nI k) : ∃ h2, run 3 1230 141 [some (vo (some (44, 12, 0))), l1, l2] [] h = some (none, h2) ∧ RS h2 n l (clz n l q b).1 (clz n l q b).2 ∧ kp rS7 h h2 ∧ hI h2 44 24 = nI (k + 1) := by
  have hh := m_here hW R
  have ho : ∀ c, hr n l q = some c → c ≤ 255 := fun c e => (hr_lt R e).1
  have e1 : (oI (hr n l q) = 59) = (hr n l q = some 59) := oI_e ho (by decide)
  obtain ⟨r1, r2, r3, r4, r5, r6⟩ := id R
  unfold clz
  by_cases hb : b = true ∨ hr n l q ≠ some 59
  · rw [if_pos hb]
    have q1 : hI (hsI h 44 23 1) 44 22 = nI q := by rw [hI_n (by decide)]; exact r5
    have q2 : hI (hsI (hsI h 44 23 1) 44 22 (nI q)) 44 24 = nI k := by rw [hI_n (by decide), hI_n (by decide)]; exact hk
    have z0 : nI q + 0 = nI q := by simp
    refine ⟨hsI (hsI (hsI h 44 23 1) 44 22 (nI q)) 44 24 (nI (k + 1)), ?_, RS_k R (by rw [hI_n (by decide), hI_n (by decide), hI_n (by decide)]) (fun i => by rw [hI_n (by omega), hI_n (by omega), hI_n (by omega)]) (by rw [hI_n (by decide), hI_e]) (by rw [hI_n (by decide), hI_n (by decide), hI_e]; rfl) r2, kp_t (kp_t (kp_I ⟨rfl, by omega⟩) (kp_I ⟨rfl, by omega⟩)) (kp_I ⟨rfl, by omega⟩), hI_e _ _ _ _⟩
    cases b with
    | true => simp (disch := omega) only [x_1230, xs, ↓reduceIte, hR_s, r6, bI_t, i10, hI_e, q1, z0, q2, nl_inc]
    | false =>
      have e2 : (hr n l q = some 59) = False := eq_false (hb.resolve_left (by decide))
      simp (disch := omega) only [x_1230, xs, ↓reduceIte, hR_s, r6, bI_f, i00, i10, hh, e1, e2, hI_e, q1, z0, q2, nl_inc]
  · rw [if_neg hb]
    have hbf : b = false := bnt (fun z => hb (Or.inl z))
    have hq : hr n l q = some 59 := Classical.byContradiction (fun z => hb (Or.inr z))
    subst hbf
    have qn := (hr_lt R hq).2.1
    have q1 : hI (hsI h 44 23 0) 44 22 = nI q := by rw [hI_n (by decide)]; exact r5
    have q2 : hI (hsI (hsI h 44 23 0) 44 22 (nI (q + 1))) 44 24 = nI k := by rw [hI_n (by decide), hI_n (by decide)]; exact hk
    refine ⟨hsI (hsI (hsI h 44 23 0) 44 22 (nI (q + 1))) 44 24 (nI (k + 1)), ?_, RS_k R (by rw [hI_n (by decide), hI_n (by decide), hI_n (by decide)]) (fun i => by rw [hI_n (by omega), hI_n (by omega), hI_n (by omega)]) (by rw [hI_n (by decide), hI_e]) (by rw [hI_n (by decide), hI_n (by decide), hI_e]; rfl) (show q + 1 ≤ n by omega), kp_t (kp_t (kp_I ⟨rfl, by omega⟩) (kp_I ⟨rfl, by omega⟩)) (kp_I ⟨rfl, by omega⟩), hI_e _ _ _ _⟩
    simp (disch := omega) only [x_1230, xs, ↓reduceIte, hR_s, r6, bI_f, i00, i10, hh, e1, eq_true hq, hI_e, q1, q2, nl_inc]
def knw (o : Option Nat) : Bool := decide (o = some 109 ∨ o = some 112 ∨ o = some 100)
theorem m_rs_b {h : Hp} {n p k : Nat} {l : Nat → Nat} (hW : MW h) (R : RS h n l p false) (hk : hI h 44 24 = nI k) (k28 : k < 28) : ∃ h2, call 1230 [vo (some (44, 12, 0))] h = run 3 1230 82 [some (vo (some (44, 12, 0))), some (vi (nI k)), some (vi (oI (hr n l p)))] [] h2 ∧ RS h2 n l (if knw (hr n l p) = true then p + 1 else p) (!knw (hr n l p)) ∧ kp (rS6 k) h h2 ∧ hI h2 44 24 = nI k ∧ hI h2 55 k = nI p ∧ hI h2 56 k = oI (hr n l p) := by
  have hh := m_here hW R
  have ho : ∀ c, hr n l p = some c → c ≤ 255 := fun c e => (hr_lt R e).1
  have e1 : (oI (hr n l p) = 109) = (hr n l p = some 109) := oI_e ho (by decide)
  have e2 : (oI (hr n l p) = 112) = (hr n l p = some 112) := oI_e ho (by decide)
  have e3 : (oI (hr n l p) = 100) = (hr n l p = some 100) := oI_e ho (by decide)
  have w25 : hR h 44 25 = some (55, 13, 28) := hW.2.2.2.2.2.2.2.2.2.2.1
  have w26 : hR h 44 26 = some (56, 13, 28) := hW.2.2.2.2.2.2.2.2.2.2.2.1
  have R1 := RS_o (RS_o R 55 k (nI p) (by omega)) 56 k (oI (hr n l p)) (by omega)
  obtain ⟨r1, r2, r3, r4, r5, r6⟩ := id R
  obtain ⟨-, -, -, -, t5, t6⟩ := id R1
  have s0 : call 1230 [vo (some (44, 12, 0))] h = run 3 1230 26 [some (vo (some (44, 12, 0))), some (vi (nI k)), some (vi (oI (hr n l p)))] [vi (oI (hr n l p)), vi (nI k), vo (some (56, 13, 28))] (hsI h 55 k (nI p)) := by
    generalize hX : run 3 1230 26 _ _ _ = X
    simp (disch := omega) only [e_1230, x_1230, xs, ↓reduceIte, hR_s, hk, hh, w25, w26, ↓ib_n, cl_n, r5, ↓hX]
  generalize hA : hsI (hsI h 55 k (nI p)) 56 k (oI (hr n l p)) = h1 at *
  have K1 : kp (rS6 k) h h1 := by
    rw [← hA]
    exact kp_t (kp_I (by unfold rS6; omega)) (kp_I (by unfold rS6; omega))
  have v24 : hI h1 44 24 = nI k := by rw [← hA, hI_n (by omega), hI_n (by omega)]; exact hk
  have v55 : hI h1 55 k = nI p := by rw [← hA, hI_n (by omega), hI_e]
  have v56 : hI h1 56 k = oI (hr n l p) := by rw [← hA, hI_e]
  by_cases hb : knw (hr n l p) = true
  · rw [if_pos hb, hb]
    have hb2 := of_decide_eq_true hb
    have pn : p < n := by
      rcases hb2 with z | z | z <;> exact (hr_lt R z).2.1
    have q1 : hI (hsI h1 44 23 0) 44 22 = nI p := by rw [hI_n (by decide)]; exact t5
    refine ⟨hsI (hsI h1 44 23 0) 44 22 (nI (p + 1)), ?_, RS_k R1 (by rw [hI_n (by decide), hI_n (by decide)]) (fun i => by rw [hI_n (by omega), hI_n (by omega)]) (hI_e _ _ _ _) (by rw [hI_n (by decide), hI_e]; rfl) (show p + 1 ≤ n by omega), kp_t K1 (kp_t (kp_I (by unfold rS6; omega)) (kp_I (by unfold rS6; omega))), by rw [hI_n (by decide), hI_n (by decide)]; exact v24, by rw [hI_n (by omega), hI_n (by omega)]; exact v55, by rw [hI_n (by omega), hI_n (by omega)]; exact v56⟩
    rw [s0]
    generalize hX : run 3 1230 82 _ _ _ = X
    rcases hb2 with z | z | z
    · simp (disch := omega) only [x_1230, xs, ↓reduceIte, hR_s, ↓ib_n, cl_n, hA, t6, bI_f, i00, i10, e1, eq_true z, hI_e, q1, nl_inc, ↓hX]
    · have z1 : (hr n l p = some 109) = False := by rw [z]; simp
      simp (disch := omega) only [x_1230, xs, ↓reduceIte, hR_s, ↓ib_n, cl_n, hA, t6, bI_f, i00, i10, e1, e2, z1, eq_true z, hI_e, q1, nl_inc, ↓hX]
    · have z1 : (hr n l p = some 109) = False := by rw [z]; simp
      have z2 : (hr n l p = some 112) = False := by rw [z]; simp
      simp (disch := omega) only [x_1230, xs, ↓reduceIte, hR_s, ↓ib_n, cl_n, hA, t6, bI_f, i00, i10, e1, e2, e3, z1, z2, eq_true z, hI_e, q1, nl_inc, ↓hX]
  · rw [if_neg hb, bnt hb]
    have hb2 := of_decide_eq_false (bnt hb)
    have z1 : (hr n l p = some 109) = False := eq_false (fun z => hb2 (Or.inl z))
    have z2 : (hr n l p = some 112) = False := eq_false (fun z => hb2 (Or.inr (Or.inl z)))
    have z3 : (hr n l p = some 100) = False := eq_false (fun z => hb2 (Or.inr (Or.inr z)))
    have q1 : hI (hsI h1 44 23 1) 44 22 = nI p := by rw [hI_n (by decide)]; exact t5
    have z0 : nI p + 0 = nI p := by simp
    refine ⟨hsI (hsI h1 44 23 1) 44 22 (nI p), ?_, RS_k R1 (by rw [hI_n (by decide), hI_n (by decide)]) (fun i => by rw [hI_n (by omega), hI_n (by omega)]) (hI_e _ _ _ _) (by rw [hI_n (by decide), hI_e]; rfl) r2, kp_t K1 (kp_t (kp_I (by unfold rS6; omega)) (kp_I (by unfold rS6; omega))), by rw [hI_n (by decide), hI_n (by decide)]; exact v24, by rw [hI_n (by omega), hI_n (by omega)]; exact v55, by rw [hI_n (by omega), hI_n (by omega)]; exact v56⟩
    rw [s0]
    generalize hX : run 3 1230 82 _ _ _ = X
    simp (disch := omega) only [x_1230, xs, ↓reduceIte, hR_s, ↓ib_n, cl_n, hA, t6, bI_f, i00, i10, e1, e2, e3, z1, z2, z3, hI_e, q1, z0, ↓hX]
theorem m_readStatement {h : Hp} {n p k : Nat} {l : Nat → Nat} (hW : MW h) (R : RS h n l p false) (hk : hI h 44 24 = nI k) (k28 : k < 28) : ∃ h2, call 1230 [vo (some (44, 12, 0))] h = some (none, h2) ∧ RS h2 n l (rdS n l p).1 (rdS n l p).2 ∧ kp (rS6 k) h h2 ∧ SK h2 n l k p ∧ hI h2 44 24 = nI (k + 1) := by
  obtain ⟨h1, t1, R1, K1, v24, v55, v56⟩ := m_rs_b hW R hk k28
  have W1 := MW_k K1 hW
  have ho : ∀ c, hr n l p = some c → c ≤ 255 := fun c e => (hr_lt R e).1
  have e1 : (oI (hr n l p) = 109) = (hr n l p = some 109) := oI_e ho (by decide)
  have e2 : (oI (hr n l p) = 112) = (hr n l p = some 112) := oI_e ho (by decide)
  have e3 : (oI (hr n l p) = 100) = (hr n l p = some 100) := oI_e ho (by decide)
  rw [t1]
  have fin : ∀ (h2 : Hp) (b : Bool) (q : Nat), rd1 n l p = (q, b) → RS h2 n l q b → kp (rS6 k) h h2 → hI h2 44 24 = nI k → SK h2 n l k p → run 3 1230 82 [some (vo (some (44, 12, 0))), some (vi (nI k)), some (vi (oI (hr n l p)))] [] h1 = run 3 1230 141 [some (vo (some (44, 12, 0))), some (vi (nI k)), some (vi (oI (hr n l p)))] [] h2 → ∃ h3, run 3 1230 82 [some (vo (some (44, 12, 0))), some (vi (nI k)), some (vi (oI (hr n l p)))] [] h1 = some (none, h3) ∧ RS h3 n l (rdS n l p).1 (rdS n l p).2 ∧ kp (rS6 k) h h3 ∧ SK h3 n l k p ∧ hI h3 44 24 = nI (k + 1) := by
    intro h2 b q er R2 K2 v2 S2 s2
    obtain ⟨h3, u1, u2, u3, u4⟩ := m_rs_t (some (vi (nI k))) (some (vi (oI (hr n l p)))) (MW_k K2 hW) R2 v2
    have un : ∀ i j, i ≠ 44 → hI h3 i j = hI h2 i j := fun i j z => u3.2.2 i j (by unfold rS7; omega)
    refine ⟨h3, s2.trans u1, ?_, kp_t K2 (kp_m u3 (fun i j z => ?_)), ?_, u4⟩
    · unfold rdS; rw [er]; exact u2
    · unfold rS7 at z; unfold rS6; omega
    · unfold SK
      simp (disch := omega) only [un]
      exact S2
  by_cases c1 : hr n l p = some 109
  · have hb : knw (hr n l p) = true := decide_eq_true (Or.inl c1)
    rw [hb] at R1
    simp only [if_true, Bool.not_true] at R1
    obtain ⟨h2, u1, u2, u3, u4, u5, u6⟩ := m_readMoor W1 R1 k28
    have r6 := R1.2.2.2.2.2
    have r62 := u2.2.2.2.2.2
    have un : ∀ i j, i ≠ 44 ∨ j = 24 → (i < 57 ∨ 59 < i) → hI h2 i j = hI h1 i j := fun i j z1 z2 => u3.2.2 i j (by unfold rS3 rS2; omega)
    refine fin h2 _ _ (by unfold rd1; rw [if_pos c1]) u2 (kp_t K1 (kp_m u3 (fun i j z => ?_))) (by rw [un _ _ (by omega) (by omega)]; exact v24) ⟨by rw [un _ _ (by omega) (by omega)]; exact v55, by rw [un _ _ (by omega) (by omega)]; exact v56, fun _ => ⟨u4, u5, u6⟩, fun z => by rw [c1] at z; simp at z, fun z => by rw [c1] at z; simp at z⟩ ?_
    · unfold rS3 rS2 at z; unfold rS6; omega
    · have z2 : (hr n l p = some 112) = False := by rw [c1]; simp
      have z3 : (hr n l p = some 100) = False := by rw [c1]; simp
      cases hb2 : (rdM n l (p + 1)).2.2.2.2 with
      | true =>
        rw [hb2] at r62
        simp (disch := omega) only [x_1230, xs, ↓reduceIte, hR_s, r6, r62, bI_f, bI_t, i00, i10, e1, e2, e3, eq_true c1, z2, z3, u1]
      | false =>
        rw [hb2] at r62
        simp (disch := omega) only [x_1230, xs, ↓reduceIte, hR_s, r6, r62, bI_f, bI_t, i00, i10, e1, e2, e3, eq_true c1, z2, z3, u1]
  · by_cases c2 : hr n l p = some 112
    · have hb : knw (hr n l p) = true := decide_eq_true (Or.inr (Or.inl c2))
      rw [hb] at R1
      simp only [if_true, Bool.not_true] at R1
      obtain ⟨h2, u1, u2, u3, u4, u5, u6, u7, u8⟩ := m_readPerson W1 R1 k28
      have r6 := R1.2.2.2.2.2
      have r62 := u2.2.2.2.2.2
      have un : ∀ i j, i ≠ 44 ∨ j = 24 → (i < 57 ∨ 61 < i) → hI h2 i j = hI h1 i j := fun i j z1 z2 => u3.2.2 i j (by unfold rS5 rS2; omega)
      refine fin h2 _ _ (by unfold rd1; rw [if_neg c1, if_pos c2]) u2 (kp_t K1 (kp_m u3 (fun i j z => ?_))) (by rw [un _ _ (by omega) (by omega)]; exact v24) ⟨by rw [un _ _ (by omega) (by omega)]; exact v55, by rw [un _ _ (by omega) (by omega)]; exact v56, fun z => absurd z c1, fun _ => ⟨u4, u5, u6, u7, u8⟩, fun z => by rw [c2] at z; simp at z⟩ ?_
      · unfold rS5 rS2 at z; unfold rS6; omega
      · have z3 : (hr n l p = some 100) = False := by rw [c2]; simp
        cases hb2 : (dg4 n l (p + 1)).2.2 with
        | true =>
          rw [hb2] at r62
          simp (disch := omega) only [x_1230, xs, ↓reduceIte, hR_s, r6, r62, bI_f, bI_t, i00, i10, e1, e2, e3, c1, eq_true c2, z3, u1]
        | false =>
          rw [hb2] at r62
          simp (disch := omega) only [x_1230, xs, ↓reduceIte, hR_s, r6, r62, bI_f, bI_t, i00, i10, e1, e2, e3, c1, eq_true c2, z3, u1]
    · by_cases c3 : hr n l p = some 100
      · have hb : knw (hr n l p) = true := decide_eq_true (Or.inr (Or.inr c3))
        rw [hb] at R1
        simp only [if_true, Bool.not_true] at R1
        obtain ⟨h2, u1, u2, u3⟩ := m_readDigit W1 R1
        have r6 := R1.2.2.2.2.2
        have w27 : hR h1 44 27 = some (57, 13, 28) := W1.2.2.2.2.2.2.2.2.2.2.2.2.1
        have un : ∀ i j, i ≠ 44 ∨ j = 24 → hI h2 i j = hI h1 i j := fun i j z1 => u3.2.2 i j (by unfold rS2; omega)
        refine fin (hsI h2 57 k (nI (rdD n l (p + 1) false).1)) _ _ (by unfold rd1; rw [if_neg c1, if_neg c2, if_pos c3]) (RS_o u2 57 k _ (by omega)) (kp_t K1 (kp_t (kp_m u3 (fun i j z => ?_)) (kp_I (by unfold rS6; omega)))) (by rw [hI_n (by omega), un _ _ (by omega)]; exact v24) ⟨by rw [hI_n (by omega), un _ _ (by omega)]; exact v55, by rw [hI_n (by omega), un _ _ (by omega)]; exact v56, fun z => absurd z c1, fun z => absurd z c2, fun _ => hI_e _ _ _ _⟩ ?_
        · unfold rS2 at z; unfold rS6; omega
        · simp (disch := omega) only [x_1230, xs, ↓reduceIte, hR_s, r6, bI_f, i00, i10, e1, e2, e3, c1, c2, eq_true c3, u1, w27, ↓ib_n, cl_n]
      · have hb : knw (hr n l p) = false := decide_eq_false (by rintro (z | z | z) <;> contradiction)
        rw [hb] at R1
        simp only [Bool.not_false] at R1
        have r6 := R1.2.2.2.2.2
        refine fin h1 true p (by unfold rd1; rw [if_neg c1, if_neg c2, if_neg c3]) R1 K1 v24 ⟨v55, v56, fun z => absurd z c1, fun z => absurd z c2, fun z => absurd z c3⟩ ?_
        simp (disch := omega) only [x_1230, xs, ↓reduceIte, hR_s, r6, bI_t, i10]
