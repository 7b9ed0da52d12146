/-! THE CLASS: what it holds; refusals -/
def CX (h : Hp) (nw sp : Nat) : Prop := (hR h 0 0 = some (nw, 10, 0) ∧ hR h 0 1 = some (sp, 10, 0) ∧ hR h 0 2 = some (23, 10, 0) ∧ hR h 0 4 = some (31, 4, 0) ∧ hR h 0 5 = some (33, 7, 0) ∧ hR h 0 6 = some (39, 0, 0) ∧ hR h 0 7 = some (42, 13, 12) ∧ hR h 0 9 = some (43, 13, 7)) ∧ hR h 31 1 = some (32, 13, 80) ∧ (hR h 33 1 = some (34, 13, 6) ∧ hR h 33 2 = some (35, 13, 6) ∧ hR h 33 3 = some (36, 13, 30) ∧ hR h 33 4 = some (37, 13, 30) ∧ hR h 33 5 = some (38, 13, 30)) ∧ hR h 39 0 = some (40, 13, 30) ∧ hR h 39 1 = some (41, 13, 30)
def XG (h : Hp) (m : Wo) : Prop := hI h 0 3 = nI (m 0 0) ∧ (hI h 31 0 = nI (m 0 1) ∧ ∀ i, i < m 0 1 → hI h 32 i = nI (m 1 i)) ∧ (hI h 33 0 = nI (m 0 2) ∧ ∀ i, i < m 0 2 → hI h 34 i = nI (m 2 i) ∧ hI h 35 i = nI (m 3 i)) ∧ (hI h 0 8 = nI (m 0 3) ∧ ∀ i, i < m 0 3 → hI h 42 i = nI (m 4 i)) ∧ ∀ i, i < 7 → hI h 43 i = nI (m 5 i)
/-- whatever lies in the rows of people is somebody -/
def pO (r : Option Rf) : Prop := match r with
  | none => True
  | some (_, k, _) => am_sub k 9 = true
def CU (h : Hp) : Prop := ∀ i, i < 5 → pO (hR h 8 i) ∧ pO (hR h 16 i) ∧ pO (hR h 24 i)
theorem CU_k {S : Nat → Nat → Prop} {h h2 : Hp} (a : ck S h h2) (c : CU h) : CU h2 := fun i hi => by
  rw [a.2.1, a.2.1, a.2.1]
  exact c i hi
def ICn (L : Nat → Prop) (nw sp : Nat) (σ : St) (h : Hp) : Prop := ((nw = 7 ∧ sp = 15) ∨ (nw = 15 ∧ sp = 7)) ∧ CX h nw sp ∧ (CV h sp ∧ CV h 23 ∧ CU h) ∧ (CW L h nw σ.1 ∧ hI h nw 2 = nI (σ.1 0 5)) ∧ (σ.2.2 0 0 = 1 → CW L h 23 σ.2.1 ∧ hI h 23 2 = nI (σ.2.1 0 5)) ∧ GOK σ ∧ XG h σ.2.2 ∧ (∀ i, h.1.1 ≤ i → L i) ∧ 70 ≤ h.1.1
/-- the class holds σ -/
def IC (σ : St) (h : Hp) : Prop := ∃ L nw sp, ICn L nw sp σ h
def xS (L : Nat → Prop) (nw t i j : Nat) : Prop := (i = 31 ∧ 2 ≤ j) ∨ (36 ≤ i ∧ i ≤ 38) ∨ i = 40 ∨ i = 41 ∨ dyS nw t i j ∨ (L i ∧ (i = 6 ∨ 70 ≤ i))
theorem xS_n {L : Nat → Prop} {nw t i j : Nat} (h : (i ≠ 31 ∨ j < 2) ∧ (i < 36 ∨ 38 < i) ∧ i ≠ 40 ∧ i ≠ 41 ∧ (i < nw + 3 ∨ nw + 7 < i ∨ j ≤ t) ∧ (i ≠ 6 ∧ i < 70)) : ¬ xS L nw t i j := by unfold xS dyS; omega
theorem xS_i {L : Nat → Prop} {nw t i j : Nat} (hn : nw = 7 ∨ nw = 15) (z : im L i) : ¬ xS L nw t i j := fun y => by
  unfold im at z
  unfold xS dyS at y
  rcases y with y | y | y | y | y | y
  · omega
  · omega
  · omega
  · omega
  · omega
  · exact z.2 y.1
theorem CX_k {S : Nat → Nat → Prop} {h h2 : Hp} {nw sp : Nat} (a : ck S h h2) (c : CX h nw sp) : CX h2 nw sp := by
  have e := a.2.1
  unfold CX at c ⊢
  simp only [e]
  exact c
theorem IC_k {L : Nat → Prop} {nw sp : Nat} {σ : St} {h h2 : Hp} (a : ck (xS L nw (σ.1 0 5)) h h2) (I : ICn L nw sp σ h) : ICn L nw sp σ h2 := by
  obtain ⟨hn, hX, ⟨v1, v2⟩, ⟨hw, ht⟩, hi, hG, ⟨g1, ⟨g2, g3⟩, ⟨g4, g5⟩, ⟨g6, g7⟩, g8⟩, hL, h70⟩ := I
  have nn : nw = 7 ∨ nw = 15 := by omega
  refine ⟨hn, CX_k a hX, ⟨CV_k a v1, CV_k a v2.1, CU_k a v2.2⟩, ⟨CW_k a (fun i j z => xS_i nn z) (xS_n (by omega)) (xS_n (by omega)) hG.1.2.2.2.1 (fun p j hp hj => xS_n (by omega)) hw, (a.2.2 _ _ (xS_n (by omega))).trans ht⟩, fun z => ?_, hG, ?_, by rw [a.1]; exact hL, by rw [a.1]; exact h70⟩
  · obtain ⟨x1, x2⟩ := hi z
    exact ⟨CW_k a (fun i j z => xS_i nn z) (xS_n (by omega)) (xS_n (by omega)) (hG.2.2.1 z).2.2.2.1 (fun p j hp hj => xS_n (by omega)) x1, (a.2.2 _ _ (xS_n (by omega))).trans x2⟩
  · exact ⟨(a.2.2 _ _ (xS_n (by omega))).trans g1, ⟨(a.2.2 _ _ (xS_n (by omega))).trans g2, fun i hi => (a.2.2 _ _ (xS_n (by omega))).trans (g3 i hi)⟩, ⟨(a.2.2 _ _ (xS_n (by omega))).trans g4, fun i hi => ⟨(a.2.2 _ _ (xS_n (by omega))).trans (g5 i hi).1, (a.2.2 _ _ (xS_n (by omega))).trans (g5 i hi).2⟩⟩, ⟨(a.2.2 _ _ (xS_n (by omega))).trans g6, fun i hi => (a.2.2 _ _ (xS_n (by omega))).trans (g7 i hi)⟩, fun i hi => (a.2.2 _ _ (xS_n (by omega))).trans (g8 i hi)⟩
/-- the rest changes -/
def yS (i j : Nat) : Prop := (i = 0 ∧ (j = 3 ∨ j = 8)) ∨ i = 31 ∨ i = 32 ∨ i = 33 ∨ i = 34 ∨ i = 35 ∨ i = 42 ∨ i = 43
theorem IC_g {L : Nat → Prop} {nw sp : Nat} {σ : St} {h h2 : Hp} {m : Wo} (a : ck yS h h2) (I : ICn L nw sp σ h) (G : GOK (σ.1, σ.2.1, m)) (e : m 0 0 = σ.2.2 0 0) (g : XG h2 m) : ICn L nw sp (σ.1, σ.2.1, m) h2 := by
  obtain ⟨hn, hX, ⟨v1, v2⟩, ⟨hw, ht⟩, hi, hG, -, hL, h70⟩ := I
  have ni : ∀ i j, im L i → ¬ yS i j := fun i j z y => by unfold im at z; unfold yS at y; omega
  have ny : ∀ i j, (1 ≤ i ∧ i ≤ 30) → ¬ yS i j := fun i j z y => by unfold yS at y; omega
  refine ⟨hn, CX_k a hX, ⟨CV_k a v1, CV_k a v2.1, CU_k a v2.2⟩, ⟨CW_k a ni (ny _ _ (by omega)) (ny _ _ (by omega)) hG.1.2.2.2.1 (fun p j hp hj => ny _ _ (by omega)) hw, (a.2.2 _ _ (ny _ _ (by omega))).trans ht⟩, fun z => ?_, G, g, by rw [a.1]; exact hL, by rw [a.1]; exact h70⟩
  have z2 : σ.2.2 0 0 = 1 := by rw [← e]; exact z
  obtain ⟨x1, x2⟩ := hi z2
  exact ⟨CW_k a ni (ny _ _ (by omega)) (ny _ _ (by omega)) (hG.2.2.1 z2).2.2.2.1 (fun p j hp hj => ny _ _ (by omega)) x1, (a.2.2 _ _ (ny _ _ (by omega))).trans x2⟩
def rc (h : Hp) (k : Nat) : Hp := hsI h 43 k (hI h 43 k + 1)
theorem IC_rz {L : Nat → Prop} {nw sp : Nat} {σ : St} {h : Hp} {k : Nat} (hk : k < 7) (I : ICn L nw sp σ h) : ICn L nw sp (rz σ k) (rc h k) := by
  obtain ⟨-, -, -, -, -, hG, ⟨g1, ⟨g2, g3⟩, ⟨g4, g5⟩, ⟨g6, g7⟩, g8⟩, -⟩ := id I
  have ne : ∀ i j, i ≠ 43 → hI (rc h k) i j = hI h i j := fun i j n => hI_n (fun z => n z.1)
  have un : ∀ a b, a ≠ 5 → upw σ.2.2 5 k (σ.2.2 5 k + 1) a b = σ.2.2 a b := fun a b n => upw_n (fun z => n z.1)
  refine IC_g (ck_I (by unfold yS; omega)) I (GOK_rz hG) (un _ _ (by decide)) ?_
  unfold XG
  simp (disch := omega) only [un, ne]
  refine ⟨g1, ⟨g2, g3⟩, ⟨g4, g5⟩, ⟨g6, g7⟩, fun i hi => ?_⟩
  unfold rc upw
  rw [hI_s]
  by_cases e : i = k
  · subst e; simp only [and_self, if_true, g8 i hi, nl_inc]
  · simp only [e, and_false, if_false]; exact g8 i hi
def cB (h h2 : Hp) : Prop := h.1.1 ≤ h2.1.1 ∧ h2.1.1 ≤ h.1.1 + 162 ∧ h2.1.2 ≤ h.1.2 + 7830
theorem cB_e {h h2 : Hp} (e : h2.1 = h.1) : cB h h2 := by unfold cB; rw [e]; omega
def Cok (xm : Nat) (as : List Int32) (s : St → Int32 × St) : Prop := ∀ σ h, IC σ h → ∃ h2, call xm (vo (some (0, 11, 0)) :: as.map vi) h = some (some (vi (s σ).1), h2) ∧ IC (s σ).2 h2 ∧ cB h h2
theorem c_rf {h : Hp} {nw sp : Nat} (hX : CX h nw sp) {k : Nat} (hk : 1 ≤ k ∧ k ≤ 6) : call 1128 [vo (some (0, 11, 0)), vi (-nI k)] h = some (some (vi (-nI k)), rc h k) := by
  have w9 := hX.1.2.2.2.2.2.2.2
  have key : ∀ k ∈ List.range 7, 1 ≤ k → (0 ≤ -nI k) = False ∧ (-nI k < -6) = False ∧ - -nI k = nI k := by
    simp only [eq_iff_iff, iff_false]
    decide +kernel
  obtain ⟨q1, q2, q3⟩ := key k (List.mem_range.mpr (by omega)) hk.1
  simp (disch := omega) only [e_1128, x_1128, xs, ↓reduceIte, q1, q2, q3, w9, ↓ib_n, cl_n]
  rfl
theorem c_rf1 {h : Hp} {nw sp : Nat} (hX : CX h nw sp) : call 1128 [vo (some (0, 11, 0)), vi (-1)] h = some (some (vi (-1)), rc h 1) := c_rf hX (k := 1) (by decide)
theorem c_rf2 {h : Hp} {nw sp : Nat} (hX : CX h nw sp) : call 1128 [vo (some (0, 11, 0)), vi (-2)] h = some (some (vi (-2)), rc h 2) := c_rf hX (k := 2) (by decide)
theorem c_rf3 {h : Hp} {nw sp : Nat} (hX : CX h nw sp) : call 1128 [vo (some (0, 11, 0)), vi (-3)] h = some (some (vi (-3)), rc h 3) := c_rf hX (k := 3) (by decide)
theorem c_rf4 {h : Hp} {nw sp : Nat} (hX : CX h nw sp) : call 1128 [vo (some (0, 11, 0)), vi (-4)] h = some (some (vi (-4)), rc h 4) := c_rf hX (k := 4) (by decide)
theorem c_rf6 {h : Hp} {nw sp : Nat} (hX : CX h nw sp) : call 1128 [vo (some (0, 11, 0)), vi (-6)] h = some (some (vi (-6)), rc h 6) := c_rf hX (k := 6) (by decide)
theorem c_out (n lo hi : Int32) (h : Hp) : call 1129 [vi n, vi lo, vi hi] h = some (some (vi (wdI n lo hi)), h) := by
  unfold wdI
  by_cases e1 : lo ≤ n
  · rw [if_pos e1]
    by_cases e2 : n ≤ hi
    · rw [if_pos e2]
      simp only [e_1129, x_1129, xs, ↓reduceIte, eq_true e1, eq_true e2]
    · rw [if_neg e2]
      simp only [e_1129, x_1129, xs, ↓reduceIte, eq_true e1, e2]
  · rw [if_neg e1]
    simp only [e_1129, x_1129, xs, ↓reduceIte, e1]
theorem c_ask (x hi : Int32) (h : Hp) : call 1130 [vi x, vi hi] h = some (some (vi (if x < 0 ∨ hi < x then -2 else 0)), h) := by
  have e3 : ∀ a b : Int32, ¬ a < b → b ≤ a := fun a b z => Int32.not_lt.mp z
  by_cases e1 : x < 0
  · rw [if_pos (Or.inl e1)]
    simp only [e_1130, x_1130, xs, ↓reduceIte, eq_true e1]
  · by_cases e2 : hi < x
    · rw [if_pos (Or.inr e2)]
      have e4 : ¬ x ≤ hi := Int32.not_le.mpr e2
      simp only [e_1130, x_1130, xs, ↓reduceIte, e1, e4]
    · rw [if_neg (by rintro (z | z) <;> contradiction)]
      have e4 := e3 _ _ e2
      simp only [e_1130, x_1130, xs, ↓reduceIte, e1, eq_true e4]
theorem c_here {L : Nat → Prop} {nw sp : Nat} {σ : St} {h : Hp} (p : Int32) (I : ICn L nw sp σ h) : call 1131 [vo (some (0, 11, 0)), vi p] h = some (some (vi (if isP σ.1 p = true then 0 else -1)), h) := by
  obtain ⟨-, hX, -, ⟨hw, -⟩, -, hG, -⟩ := I
  have w0 := hX.1.1
  have f3 := hw.2.1.2
  have v4 := hw.2.2.1.1
  have k3 := hG.1.2.2.2.1
  by_cases e : isP σ.1 p = true
  · rw [if_pos e]
    obtain ⟨k, rfl, hk⟩ := isP_of k3 e
    obtain ⟨pid, pla, c1, -⟩ := hw.2.2.2.1 k hk
    have n1 : ¬ σ.1 0 3 ≤ k := by omega
    have h1 : call 1004 [vo (some (nw, 10, 0)), vi (nI k)] h = some (some (vo (some (pid, kc (σ.1 1 k), 0))), h) := by
      simp (disch := omega) only [e_1004, x_1004, xs, ↓reduceIte, nl_l0, f3, nl_le, n1, v4, ↓ib_n, cl_n, c1]
    simp (disch := omega) only [e_1131, x_1131, xs, ↓reduceIte, w0, h1]
  · rw [if_neg e]
    have h1 : call 1004 [vo (some (nw, 10, 0)), vi p] h = some (some (vo none), h) := by
      by_cases e0 : p < 0
      · simp (disch := omega) only [e_1004, x_1004, xs, ↓reduceIte, eq_true e0]
      · obtain ⟨k, hk, rfl⟩ := nI_of e0
        have n1 : σ.1 0 3 ≤ k := Nat.le_of_not_lt (fun z => e (isP_n k3 z))
        simp (disch := omega) only [e_1004, x_1004, xs, ↓reduceIte, nl_l0, f3, nl_le, eq_true n1]
    simp (disch := omega) only [e_1131, x_1131, xs, ↓reduceIte, w0, h1]
theorem c_two {L : Nat → Prop} {nw sp : Nat} {σ : St} {h : Hp} (a b : Int32) (I : ICn L nw sp σ h) : call 1132 [vo (some (0, 11, 0)), vi a, vi b] h = some (some (vi (if isT σ.1 a b = true then 0 else -1)), h) := by
  have h1 := c_here a I
  have h2 := c_here b I
  unfold isT
  by_cases e : a = b
  · simp (disch := omega) only [e_1132, x_1132, xs, ↓reduceIte, eq_true e]
    simp [e]
  · cases ea : isP σ.1 a with
    | false =>
      rw [ea] at h1
      simp (disch := omega) only [e_1132, x_1132, xs, ↓reduceIte, e, h1, ltm, Bool.false_eq_true]
      simp
    | true =>
      cases eb : isP σ.1 b with
      | false =>
        rw [ea] at h1; rw [eb] at h2
        simp (disch := omega) only [e_1132, x_1132, xs, ↓reduceIte, e, h1, h2, ltm, Bool.false_eq_true]
        simp
      | true =>
        rw [ea] at h1; rw [eb] at h2
        simp (disch := omega) only [e_1132, x_1132, xs, ↓reduceIte, e, h1, h2, ltm, Bool.false_eq_true]
        simp
theorem c_nfree {L : Nat → Prop} {nw sp : Nat} {σ : St} {h : Hp} (c : Int32) (I : ICn L nw sp σ h) : call 1133 [vo (some (0, 11, 0)), vi c] h = some (some (vi (if freI σ.1 c = true then 0 else -1)), h) := by
  obtain ⟨-, hX, -, ⟨hw, -⟩, -, hG, -⟩ := I
  have w0 := hX.1.1
  obtain ⟨mo, m1, m2, -⟩ := hw.1
  have h1 := c_isFree c hG.1 m2
  cases e : freI σ.1 c with
  | true =>
    rw [e] at h1
    simp (disch := omega) only [e_1133, x_1133, xs, ↓reduceIte, w0, m1, h1, bI_t, i10]
  | false =>
    rw [e] at h1
    simp (disch := omega) only [e_1133, x_1133, xs, ↓reduceIte, w0, m1, h1, bI_f, i00, Bool.false_eq_true]
