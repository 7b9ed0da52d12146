/-! WHAT BOTH HOLD: the world, the image, and the rest (0: has image, letters, sights, row; 1 letters; 2 and 3 sights; 4 row; 5 refusals) -/
theorem cz_1 {a : Nat} (ha : a < 2 ^ 31) : ((1 : Int32) ≤ nI a) = (1 ≤ a) ∧ (nI a ≤ 1) = (a ≤ 1) ∧ ((1 : Int32) < nI a) = (1 < a) ∧ (nI a < 1) = (a < 1) ∧ (nI a = 1) = (a = 1) := ⟨nl_le (by decide) ha, nl_le ha (by decide), nl_lt (by decide) ha, nl_lt ha (by decide), nl_eq ha (by decide)⟩
theorem cz_2 {a : Nat} (ha : a < 2 ^ 31) : ((2 : Int32) ≤ nI a) = (2 ≤ a) ∧ (nI a ≤ 2) = (a ≤ 2) ∧ ((2 : Int32) < nI a) = (2 < a) ∧ (nI a < 2) = (a < 2) ∧ (nI a = 2) = (a = 2) := ⟨nl_le (by decide) ha, nl_le ha (by decide), nl_lt (by decide) ha, nl_lt ha (by decide), nl_eq ha (by decide)⟩
theorem cz_3 {a : Nat} (ha : a < 2 ^ 31) : ((3 : Int32) ≤ nI a) = (3 ≤ a) ∧ (nI a ≤ 3) = (a ≤ 3) ∧ ((3 : Int32) < nI a) = (3 < a) ∧ (nI a < 3) = (a < 3) ∧ (nI a = 3) = (a = 3) := ⟨nl_le (by decide) ha, nl_le ha (by decide), nl_lt (by decide) ha, nl_lt ha (by decide), nl_eq ha (by decide)⟩
theorem cz_4 {a : Nat} (ha : a < 2 ^ 31) : ((4 : Int32) ≤ nI a) = (4 ≤ a) ∧ (nI a ≤ 4) = (a ≤ 4) ∧ ((4 : Int32) < nI a) = (4 < a) ∧ (nI a < 4) = (a < 4) ∧ (nI a = 4) = (a = 4) := ⟨nl_le (by decide) ha, nl_le ha (by decide), nl_lt (by decide) ha, nl_lt ha (by decide), nl_eq ha (by decide)⟩
theorem cz_5 {a : Nat} (ha : a < 2 ^ 31) : ((5 : Int32) ≤ nI a) = (5 ≤ a) ∧ (nI a ≤ 5) = (a ≤ 5) ∧ ((5 : Int32) < nI a) = (5 < a) ∧ (nI a < 5) = (a < 5) ∧ (nI a = 5) = (a = 5) := ⟨nl_le (by decide) ha, nl_le ha (by decide), nl_lt (by decide) ha, nl_lt ha (by decide), nl_eq ha (by decide)⟩
theorem cz_6 {a : Nat} (ha : a < 2 ^ 31) : ((6 : Int32) ≤ nI a) = (6 ≤ a) ∧ (nI a ≤ 6) = (a ≤ 6) ∧ ((6 : Int32) < nI a) = (6 < a) ∧ (nI a < 6) = (a < 6) ∧ (nI a = 6) = (a = 6) := ⟨nl_le (by decide) ha, nl_le ha (by decide), nl_lt (by decide) ha, nl_lt ha (by decide), nl_eq ha (by decide)⟩
theorem cz_8 {a : Nat} (ha : a < 2 ^ 31) : ((8 : Int32) ≤ nI a) = (8 ≤ a) ∧ (nI a ≤ 8) = (a ≤ 8) ∧ ((8 : Int32) < nI a) = (8 < a) ∧ (nI a < 8) = (a < 8) ∧ (nI a = 8) = (a = 8) := ⟨nl_le (by decide) ha, nl_le ha (by decide), nl_lt (by decide) ha, nl_lt ha (by decide), nl_eq ha (by decide)⟩
theorem cz_9 {a : Nat} (ha : a < 2 ^ 31) : ((9 : Int32) ≤ nI a) = (9 ≤ a) ∧ (nI a ≤ 9) = (a ≤ 9) ∧ ((9 : Int32) < nI a) = (9 < a) ∧ (nI a < 9) = (a < 9) ∧ (nI a = 9) = (a = 9) := ⟨nl_le (by decide) ha, nl_le ha (by decide), nl_lt (by decide) ha, nl_lt ha (by decide), nl_eq ha (by decide)⟩
theorem cz_10 {a : Nat} (ha : a < 2 ^ 31) : ((10 : Int32) ≤ nI a) = (10 ≤ a) ∧ (nI a ≤ 10) = (a ≤ 10) ∧ ((10 : Int32) < nI a) = (10 < a) ∧ (nI a < 10) = (a < 10) ∧ (nI a = 10) = (a = 10) := ⟨nl_le (by decide) ha, nl_le ha (by decide), nl_lt (by decide) ha, nl_lt ha (by decide), nl_eq ha (by decide)⟩
theorem cz_11 {a : Nat} (ha : a < 2 ^ 31) : ((11 : Int32) ≤ nI a) = (11 ≤ a) ∧ (nI a ≤ 11) = (a ≤ 11) ∧ ((11 : Int32) < nI a) = (11 < a) ∧ (nI a < 11) = (a < 11) ∧ (nI a = 11) = (a = 11) := ⟨nl_le (by decide) ha, nl_le ha (by decide), nl_lt (by decide) ha, nl_lt ha (by decide), nl_eq ha (by decide)⟩
theorem cz_12 {a : Nat} (ha : a < 2 ^ 31) : ((12 : Int32) ≤ nI a) = (12 ≤ a) ∧ (nI a ≤ 12) = (a ≤ 12) ∧ ((12 : Int32) < nI a) = (12 < a) ∧ (nI a < 12) = (a < 12) ∧ (nI a = 12) = (a = 12) := ⟨nl_le (by decide) ha, nl_le ha (by decide), nl_lt (by decide) ha, nl_lt ha (by decide), nl_eq ha (by decide)⟩
theorem cz_16 {a : Nat} (ha : a < 2 ^ 31) : ((16 : Int32) ≤ nI a) = (16 ≤ a) ∧ (nI a ≤ 16) = (a ≤ 16) ∧ ((16 : Int32) < nI a) = (16 < a) ∧ (nI a < 16) = (a < 16) ∧ (nI a = 16) = (a = 16) := ⟨nl_le (by decide) ha, nl_le ha (by decide), nl_lt (by decide) ha, nl_lt ha (by decide), nl_eq ha (by decide)⟩
theorem cz_29 {a : Nat} (ha : a < 2 ^ 31) : ((29 : Int32) ≤ nI a) = (29 ≤ a) ∧ (nI a ≤ 29) = (a ≤ 29) ∧ ((29 : Int32) < nI a) = (29 < a) ∧ (nI a < 29) = (a < 29) ∧ (nI a = 29) = (a = 29) := ⟨nl_le (by decide) ha, nl_le ha (by decide), nl_lt (by decide) ha, nl_lt ha (by decide), nl_eq ha (by decide)⟩
theorem cz_30 {a : Nat} (ha : a < 2 ^ 31) : ((30 : Int32) ≤ nI a) = (30 ≤ a) ∧ (nI a ≤ 30) = (a ≤ 30) ∧ ((30 : Int32) < nI a) = (30 < a) ∧ (nI a < 30) = (a < 30) ∧ (nI a = 30) = (a = 30) := ⟨nl_le (by decide) ha, nl_le ha (by decide), nl_lt (by decide) ha, nl_lt ha (by decide), nl_eq ha (by decide)⟩
theorem cz_31 {a : Nat} (ha : a < 2 ^ 31) : ((31 : Int32) ≤ nI a) = (31 ≤ a) ∧ (nI a ≤ 31) = (a ≤ 31) ∧ ((31 : Int32) < nI a) = (31 < a) ∧ (nI a < 31) = (a < 31) ∧ (nI a = 31) = (a = 31) := ⟨nl_le (by decide) ha, nl_le ha (by decide), nl_lt (by decide) ha, nl_lt ha (by decide), nl_eq ha (by decide)⟩
theorem cz_60 {a : Nat} (ha : a < 2 ^ 31) : ((60 : Int32) ≤ nI a) = (60 ≤ a) ∧ (nI a ≤ 60) = (a ≤ 60) ∧ ((60 : Int32) < nI a) = (60 < a) ∧ (nI a < 60) = (a < 60) ∧ (nI a = 60) = (a = 60) := ⟨nl_le (by decide) ha, nl_le ha (by decide), nl_lt (by decide) ha, nl_lt ha (by decide), nl_eq ha (by decide)⟩
theorem cz_80 {a : Nat} (ha : a < 2 ^ 31) : ((80 : Int32) ≤ nI a) = (80 ≤ a) ∧ (nI a ≤ 80) = (a ≤ 80) ∧ ((80 : Int32) < nI a) = (80 < a) ∧ (nI a < 80) = (a < 80) ∧ (nI a = 80) = (a = 80) := ⟨nl_le (by decide) ha, nl_le ha (by decide), nl_lt (by decide) ha, nl_lt ha (by decide), nl_eq ha (by decide)⟩
theorem cz_255 {a : Nat} (ha : a < 2 ^ 31) : ((255 : Int32) ≤ nI a) = (255 ≤ a) ∧ (nI a ≤ 255) = (a ≤ 255) ∧ ((255 : Int32) < nI a) = (255 < a) ∧ (nI a < 255) = (a < 255) ∧ (nI a = 255) = (a = 255) := ⟨nl_le (by decide) ha, nl_le ha (by decide), nl_lt (by decide) ha, nl_lt ha (by decide), nl_eq ha (by decide)⟩
theorem cz_900 {a : Nat} (ha : a < 2 ^ 31) : ((900 : Int32) ≤ nI a) = (900 ≤ a) ∧ (nI a ≤ 900) = (a ≤ 900) ∧ ((900 : Int32) < nI a) = (900 < a) ∧ (nI a < 900) = (a < 900) ∧ (nI a = 900) = (a = 900) := ⟨nl_le (by decide) ha, nl_le ha (by decide), nl_lt (by decide) ha, nl_lt ha (by decide), nl_eq ha (by decide)⟩
theorem cn {x : Int32} (h : x < 0) {k : Nat} (hk : k < 2 ^ 31) : (nI k ≤ x) = False ∧ (x ≤ nI k) = True ∧ (nI k < x) = False ∧ (x < nI k) = True ∧ (x = nI k) = False := by
  have h0 : x.toInt < 0 := by rw [Int32.lt_iff_toInt_lt] at h; simpa using h
  have h1 := nI_toInt hk
  refine ⟨?_, ?_, ?_, ?_, ?_⟩
  · simp only [eq_iff_iff, iff_false, Int32.le_iff_toInt_le, h1]; omega
  · simp only [eq_iff_iff, iff_true, Int32.le_iff_toInt_le, h1]; omega
  · simp only [eq_iff_iff, iff_false, Int32.lt_iff_toInt_lt, h1]; omega
  · simp only [eq_iff_iff, iff_true, Int32.lt_iff_toInt_lt, h1]; omega
  · simp only [eq_iff_iff, iff_false]; intro z; rw [z, h1] at h0; omega
theorem cn_0 {x : Int32} (h : x < 0) : (0 ≤ x) = False ∧ (x ≤ 0) = True ∧ (0 < x) = False ∧ (x < 0) = True ∧ (x = 0) = False := cn h (k := 0) (by decide)
theorem cn_1 {x : Int32} (h : x < 0) : (1 ≤ x) = False ∧ (x ≤ 1) = True ∧ (1 < x) = False ∧ (x < 1) = True ∧ (x = 1) = False := cn h (k := 1) (by decide)
theorem cn_2 {x : Int32} (h : x < 0) : (2 ≤ x) = False ∧ (x ≤ 2) = True ∧ (2 < x) = False ∧ (x < 2) = True ∧ (x = 2) = False := cn h (k := 2) (by decide)
theorem cn_3 {x : Int32} (h : x < 0) : (3 ≤ x) = False ∧ (x ≤ 3) = True ∧ (3 < x) = False ∧ (x < 3) = True ∧ (x = 3) = False := cn h (k := 3) (by decide)
theorem cn_4 {x : Int32} (h : x < 0) : (4 ≤ x) = False ∧ (x ≤ 4) = True ∧ (4 < x) = False ∧ (x < 4) = True ∧ (x = 4) = False := cn h (k := 4) (by decide)
theorem cn_9 {x : Int32} (h : x < 0) : (9 ≤ x) = False ∧ (x ≤ 9) = True ∧ (9 < x) = False ∧ (x < 9) = True ∧ (x = 9) = False := cn h (k := 9) (by decide)
theorem cn_10 {x : Int32} (h : x < 0) : (10 ≤ x) = False ∧ (x ≤ 10) = True ∧ (10 < x) = False ∧ (x < 10) = True ∧ (x = 10) = False := cn h (k := 10) (by decide)
theorem cn_11 {x : Int32} (h : x < 0) : (11 ≤ x) = False ∧ (x ≤ 11) = True ∧ (11 < x) = False ∧ (x < 11) = True ∧ (x = 11) = False := cn h (k := 11) (by decide)
theorem cn_16 {x : Int32} (h : x < 0) : (16 ≤ x) = False ∧ (x ≤ 16) = True ∧ (16 < x) = False ∧ (x < 16) = True ∧ (x = 16) = False := cn h (k := 16) (by decide)
theorem cn_29 {x : Int32} (h : x < 0) : (29 ≤ x) = False ∧ (x ≤ 29) = True ∧ (29 < x) = False ∧ (x < 29) = True ∧ (x = 29) = False := cn h (k := 29) (by decide)
theorem cn_30 {x : Int32} (h : x < 0) : (30 ≤ x) = False ∧ (x ≤ 30) = True ∧ (30 < x) = False ∧ (x < 30) = True ∧ (x = 30) = False := cn h (k := 30) (by decide)
theorem cn_60 {x : Int32} (h : x < 0) : (60 ≤ x) = False ∧ (x ≤ 60) = True ∧ (60 < x) = False ∧ (x < 60) = True ∧ (x = 60) = False := cn h (k := 60) (by decide)
theorem cn_255 {x : Int32} (h : x < 0) : (255 ≤ x) = False ∧ (x ≤ 255) = True ∧ (255 < x) = False ∧ (x < 255) = True ∧ (x = 255) = False := cn h (k := 255) (by decide)
abbrev St : Type := Wo × Wo × Wo
def upw (m : Wo) (i j v : Nat) : Wo := fun a b => if a = i ∧ b = j then v else m a b
theorem upw_e (m : Wo) (i j v : Nat) : upw m i j v i j = v := if_pos ⟨rfl, rfl⟩
theorem upw_n {m : Wo} {i j v a b : Nat} (h : ¬ (a = i ∧ b = j)) : upw m i j v a b = m a b := if_neg h
def rz (σ : St) (k : Nat) : St := (σ.1, σ.2.1, upw σ.2.2 5 k (σ.2.2 5 k + 1))
def MSi (h : Hp) (a : Nat) (v : Wo) : Prop := MSg (hI h a) (fun p => hI h a (6 + 4 * p)) (fun p => hI h a (7 + 4 * p)) (fun p => hI h a (8 + 4 * p)) (fun i => hI h a (26 + i)) (fun p => hI h a (9 + 4 * p)) (fun i => hI h a (56 + i)) v
/-- the rest, as rules of numbers -/
def GOK (σ : St) : Prop := WOK 60 σ.1 ∧ σ.2.2 0 0 ≤ 1 ∧ (σ.2.2 0 0 = 1 → WOK 60 σ.2.1) ∧ (σ.2.2 0 1 ≤ 80 ∧ ∀ i, i < σ.2.2 0 1 → σ.2.2 1 i ≤ 255) ∧ (σ.2.2 0 2 ≤ 6 ∧ ∀ i, i < σ.2.2 0 2 → σ.2.2 2 i ≤ 10 ∧ σ.2.2 3 i < 30) ∧ (σ.2.2 0 3 ≤ 12 ∧ ∀ i, i < σ.2.2 0 3 → σ.2.2 4 i < 30)
def MG (h : Hp) (m : Wo) : Prop := hI h 44 16 = nI (m 0 0) ∧ (hI h 44 21 = nI (m 0 1) ∧ ∀ i, i < m 0 1 → hI h 54 i = nI (m 1 i)) ∧ (hI h 44 36 = nI (m 0 2) ∧ ∀ i, i < m 0 2 → hI h 64 i = nI (m 2 i) ∧ hI h 65 i = nI (m 3 i)) ∧ (hI h 44 42 = nI (m 0 3) ∧ ∀ i, i < m 0 3 → hI h 69 i = nI (m 4 i)) ∧ ∀ i, i < 7 → hI h 51 i = nI (m 5 i)
def IM (σ : St) (h : Hp) : Prop := MW h ∧ MS h σ.1 ∧ GOK σ ∧ (σ.2.2 0 0 = 1 → MSi h 53 σ.2.1) ∧ MG h σ.2.2
/-- what the reference writes without a trace, on day t -/
def sc (t i j : Nat) : Prop := (i = 44 ∧ (j = 12 ∨ j = 17 ∨ j = 18 ∨ j = 22 ∨ j = 23 ∨ j = 24 ∨ j = 39)) ∨ i = 52 ∨ (55 ≤ i ∧ i ≤ 63) ∨ (66 ≤ i ∧ i ≤ 68) ∨ (i = 50 ∧ t < j % 130)
theorem sc_n {t i j : Nat} (h : (i ≠ 44 ∨ (j ≠ 12 ∧ j ≠ 17 ∧ j ≠ 18 ∧ j ≠ 22 ∧ j ≠ 23 ∧ j ≠ 24 ∧ j ≠ 39)) ∧ i ≠ 52 ∧ (i < 55 ∨ 63 < i) ∧ (i < 66 ∨ 68 < i) ∧ (i ≠ 50 ∨ j % 130 ≤ t)) : ¬ sc t i j := by unfold sc; omega
theorem MSg_c {f k g m q c t f2 k2 g2 m2 q2 c2 t2 : Nat → Int32} {w : Wo} (h : MSg f k g m q c t w) (h5 : w 0 5 ≤ 129) (hf : ∀ j, j < 6 → f2 j = f j) (hp : ∀ p, p < w 0 3 → k2 p = k p ∧ g2 p = g p ∧ m2 p = m p ∧ c2 p = c p) (hq : ∀ i, q2 i = q i) (ht : ∀ p j, j ≤ w 0 5 → t2 (130 * p + j) = t (130 * p + j)) : MSg f2 k2 g2 m2 q2 c2 t2 w := by
  obtain ⟨⟨f0, f1, f2, f3, f4, f5⟩, hpp⟩ := h
  refine ⟨⟨by rw [hf 0 (by decide)]; exact f0, by rw [hf 1 (by decide)]; exact f1, by rw [hf 2 (by decide)]; exact f2, by rw [hf 3 (by decide)]; exact f3, by rw [hf 4 (by decide)]; exact f4, by rw [hf 5 (by decide)]; exact f5⟩, fun p h3 => ?_⟩
  obtain ⟨g1, g2, g3, g4, g5, g6⟩ := hpp p h3
  obtain ⟨e1, e2, e3, e4⟩ := hp p h3
  exact ⟨e1.trans g1, e2.trans g2, e3.trans g3, e4.trans g4, fun i hi => (hq _).trans (g5 i hi), fun j a b => (ht p j b).trans (g6 j a b)⟩
theorem IM_k {σ : St} {h h2 : Hp} (a : kp (sc (σ.1 0 5)) h h2) (I : IM σ h) : IM σ h2 := by
  obtain ⟨hW, hS, hG, hi, g1, ⟨g2, g3⟩, ⟨g4, g5⟩, ⟨g6, g7⟩, g8⟩ := I
  have k5 := hG.1.2.2.2.2.2.1
  refine ⟨MW_k a hW, MSg_c hS (by omega) (fun j hj => a.2.2 _ _ (sc_n (by omega))) (fun p _ => ⟨a.2.2 _ _ (sc_n (by omega)), a.2.2 _ _ (sc_n (by omega)), a.2.2 _ _ (sc_n (by omega)), a.2.2 _ _ (sc_n (by omega))⟩) (fun i => a.2.2 _ _ (sc_n (by omega))) (fun p j hj => a.2.2 _ _ (sc_n (by omega))), hG, fun h1 => ?_, ?_⟩
  · have := (hG.2.2.1 h1).2.2.2.2.2.1
    exact MSg_c (hi h1) (by omega) (fun j hj => a.2.2 _ _ (sc_n (by omega))) (fun p _ => ⟨a.2.2 _ _ (sc_n (by omega)), a.2.2 _ _ (sc_n (by omega)), a.2.2 _ _ (sc_n (by omega)), a.2.2 _ _ (sc_n (by omega))⟩) (fun i => a.2.2 _ _ (sc_n (by omega))) (fun p j hj => a.2.2 _ _ (sc_n (by omega)))
  · exact ⟨(a.2.2 _ _ (sc_n (by omega))).trans g1, ⟨(a.2.2 _ _ (sc_n (by omega))).trans g2, fun i hi => (a.2.2 _ _ (sc_n (by omega))).trans (g3 i hi)⟩, ⟨(a.2.2 _ _ (sc_n (by omega))).trans g4, fun i hi => ⟨(a.2.2 _ _ (sc_n (by omega))).trans (g5 i hi).1, (a.2.2 _ _ (sc_n (by omega))).trans (g5 i hi).2⟩⟩, ⟨(a.2.2 _ _ (sc_n (by omega))).trans g6, fun i hi => (a.2.2 _ _ (sc_n (by omega))).trans (g7 i hi)⟩, fun i hi => (a.2.2 _ _ (sc_n (by omega))).trans (g8 i hi)⟩
theorem IM_th {σ : St} {h : Hp} (I : IM σ h) : IM σ (hsI h 44 12 0) := IM_k (kp_I (Or.inl ⟨rfl, Or.inl rfl⟩)) I
def rh (h : Hp) (k : Nat) : Hp := hsI h 51 k (hI h 51 k + 1)
theorem GOK_rz {σ : St} {k : Nat} (G : GOK σ) : GOK (rz σ k) := by
  obtain ⟨a, b, c, d, e, f⟩ := G
  unfold GOK rz
  simp only [upw_n (m := σ.2.2) (i := 5) (j := k) (v := σ.2.2 5 k + 1) (a := 0) (by omega), upw_n (m := σ.2.2) (i := 5) (j := k) (v := σ.2.2 5 k + 1) (a := 1) (by omega), upw_n (m := σ.2.2) (i := 5) (j := k) (v := σ.2.2 5 k + 1) (a := 2) (by omega), upw_n (m := σ.2.2) (i := 5) (j := k) (v := σ.2.2 5 k + 1) (a := 3) (by omega), upw_n (m := σ.2.2) (i := 5) (j := k) (v := σ.2.2 5 k + 1) (a := 4) (by omega)]
  exact ⟨a, b, c, d, e, f⟩
theorem IM_rz {σ : St} {h : Hp} {k : Nat} (hk : k < 7) (I : IM σ h) : IM (rz σ k) (rh h k) := by
  obtain ⟨hW, hS, hG, hi, g1, ⟨g2, g3⟩, ⟨g4, g5⟩, ⟨g6, g7⟩, g8⟩ := I
  have ne : ∀ i j, i ≠ 51 → hI (rh h k) i j = hI h i j := fun i j n => hI_n (fun z => n z.1)
  have k5 := hG.1.2.2.2.2.2.1
  have un : ∀ a b, a ≠ 5 → (rz σ k).2.2 a b = σ.2.2 a b := fun a b n => upw_n (fun z => n z.1)
  refine ⟨MW_s hW, MSg_c hS (show σ.1 0 5 ≤ 129 by omega) (fun j hj => ne _ _ (by decide)) (fun p _ => ⟨ne _ _ (by decide), ne _ _ (by decide), ne _ _ (by decide), ne _ _ (by decide)⟩) (fun i => ne _ _ (by decide)) (fun p j hj => ne _ _ (by decide)), GOK_rz hG, fun h1 => ?_, ?_⟩
  · rw [un 0 0 (by decide)] at h1
    have := (hG.2.2.1 h1).2.2.2.2.2.1
    exact MSg_c (hi h1) (show σ.2.1 0 5 ≤ 129 by omega) (fun j hj => ne _ _ (by decide)) (fun p _ => ⟨ne _ _ (by decide), ne _ _ (by decide), ne _ _ (by decide), ne _ _ (by decide)⟩) (fun i => ne _ _ (by decide)) (fun p j hj => ne _ _ (by decide))
  · refine ⟨?_, ⟨?_, fun i hi => ?_⟩, ⟨?_, fun i hi => ⟨?_, ?_⟩⟩, ⟨?_, fun i hi => ?_⟩, fun i hi => ?_⟩
    · rw [ne _ _ (by decide), un _ _ (by decide)]; exact g1
    · rw [ne _ _ (by decide), un _ _ (by decide)]; exact g2
    · rw [un _ _ (by decide)] at hi; rw [ne _ _ (by decide), un _ _ (by decide)]; exact g3 i hi
    · rw [ne _ _ (by decide), un _ _ (by decide)]; exact g4
    · rw [un _ _ (by decide)] at hi; rw [ne _ _ (by decide), un _ _ (by decide)]; exact (g5 i hi).1
    · rw [un _ _ (by decide)] at hi; rw [ne _ _ (by decide), un _ _ (by decide)]; exact (g5 i hi).2
    · rw [ne _ _ (by decide), un _ _ (by decide)]; exact g6
    · rw [un _ _ (by decide)] at hi; rw [ne _ _ (by decide), un _ _ (by decide)]; exact g7 i hi
    · unfold rh rz upw
      rw [hI_s]
      by_cases e : i = k
      · subst e; simp only [and_self, if_true, g8 i hi, nl_inc]
      · simp only [e, and_false, if_false]; exact g8 i hi
theorem m_rf1 {h : Hp} (hW : MW h) : call 1202 [vo (some (44, 12, 0)), vi (-1)] h = some (some (vi (-1)), rh h 1) := by
  rw [m_refuse _ _ hW, if_neg (by decide)]
  rfl
theorem m_rf2 {h : Hp} (hW : MW h) : call 1202 [vo (some (44, 12, 0)), vi (-2)] h = some (some (vi (-2)), rh h 2) := by
  rw [m_refuse _ _ hW, if_neg (by decide)]
  rfl
theorem m_rf3 {h : Hp} (hW : MW h) : call 1202 [vo (some (44, 12, 0)), vi (-3)] h = some (some (vi (-3)), rh h 3) := by
  rw [m_refuse _ _ hW, if_neg (by decide)]
  rfl
theorem m_rf4 {h : Hp} (hW : MW h) : call 1202 [vo (some (44, 12, 0)), vi (-4)] h = some (some (vi (-4)), rh h 4) := by
  rw [m_refuse _ _ hW, if_neg (by decide)]
  rfl
theorem m_rf6 {h : Hp} (hW : MW h) : call 1202 [vo (some (44, 12, 0)), vi (-6)] h = some (some (vi (-6)), rh h 6) := by
  rw [m_refuse _ _ hW, if_neg (by decide)]
  rfl
def isP (w : Wo) (p : Int32) : Bool := decide (0 ≤ p ∧ p ≤ nI (w 0 3) - 1)
theorem isP_of {w : Wo} {p : Int32} (hk : w 0 3 ≤ 5) (h : isP w p = true) : ∃ k, p = nI k ∧ k < w 0 3 := by
  unfold isP at h
  have h1 := of_decide_eq_true h
  obtain ⟨j, hj, rfl⟩ := nI_of (x := p) (by rw [Int32.not_lt]; exact h1.1)
  refine ⟨j, rfl, ?_⟩
  have h2 := h1.2
  by_cases h0 : w 0 3 = 0
  · rw [h0] at h2
    have h3 := h1.1
    rw [Int32.le_iff_toInt_le] at h2 h3
    rw [show (nI 0 - 1 : Int32).toInt = -1 by decide] at h2
    rw [show (0 : Int32).toInt = 0 by decide] at h3
    omega
  · rw [show nI (w 0 3) - 1 = nI (w 0 3 - 1) by rw [show (1 : Int32) = nI 1 from rfl, pk_sub (by omega)], nl_le hj (by omega)] at h2
    omega
theorem isP_n {w : Wo} {k : Nat} (hk : w 0 3 ≤ 5) (h : k < w 0 3) : isP w (nI k) = true := by
  refine decide_eq_true ⟨nI_pos' (by omega), ?_⟩
  rw [show nI (w 0 3) - 1 = nI (w 0 3 - 1) by rw [show (1 : Int32) = nI 1 from rfl, pk_sub (by omega)], nl_le (by omega) (by omega)]
  omega
theorem m_isP (p : Int32) (h : Hp) (w : Wo) (hw : MS h w) : call 1204 [vo (some (44, 12, 0)), vi p] h = some (some (vi (bI (isP w p))), h) := by
  have f3 := hw.1.2.2.2.1
  simp only [e_1204, x_1204, xs, f3, m_in0, bI_d]
  rfl
def isT (w : Wo) (a b : Int32) : Bool := isP w a && isP w b && !decide (a = b)
theorem m_areTwo (a b : Int32) (h : Hp) (w : Wo) (hw : MS h w) : call 1205 [vo (some (44, 12, 0)), vi a, vi b] h = some (some (vi (bI (isT w a b))), h) := by
  have h1 := m_isP a h w hw
  have h2 := m_isP b h w hw
  unfold isT
  simp only [e_1205, x_1205, xs, h1, h2, bI_0]
  cases isP w a <;> cases isP w b <;> by_cases hab : a = b <;> simp [hab, bI]
