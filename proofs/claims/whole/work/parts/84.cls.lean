/-! THE CLASS: crowd, judge -/
theorem c_many {L : Nat → Prop} {h : Hp} {wid d c : Nat} {w : Wo} (hk : WOK d w) (hd : d ≤ 120) (C : CW L h wid w) (hc : c < 30) : ∀ (n p a : Nat), p + n = w 0 3 → a ≤ p → run 1 1015 5 [some (vo (some (wid, 10, 0))), some (vi (nI c)), some (vi (nI (w 0 5))), some (vi (nI a)), some (vi (nI p))] [] h = some (some (vi (nI (hmF w c n p a))), h) := by
  have k3 := hk.2.2.2.1
  have f3 := C.2.1.2
  intro n
  induction n with
  | zero =>
    intro p a hp ha
    have e : w 0 3 ≤ p := by omega
    rw [x_1015_5]
    simp (disch := omega) only [x_1015, xs, ↓reduceIte, f3, nl_le, eq_true e]
    rfl
  | succ n ih =>
    intro p a hp ha
    have e : ¬ w 0 3 ≤ p := by omega
    have h1 := c_placeOf (p := p) hk C (by omega) (Nat.le_refl _) hd
    have h1' : call 1006 [vo (some (wid, 10, 0)), vi (nI p), vi (nI (w 0 5))] h = some (some (vi (nI (cel w p))), h) := h1
    have c1 := cel_lt (p := p) hk (by omega)
    rw [x_1015_5]
    unfold hmF
    by_cases q : cel w p = c
    · rw [if_pos q, ← ih (p + 1) (a + 1) (by omega) (by omega)]
      simp (disch := omega) only [x_1015, xs, ↓reduceIte, f3, nl_le, e, h1', nl_eq, eq_true q, nl_inc]
    · rw [if_neg q, ← ih (p + 1) a (by omega) (by omega)]
      simp (disch := omega) only [x_1015, xs, ↓reduceIte, f3, nl_le, e, h1', nl_eq, q, nl_inc]
theorem c_howMany {L : Nat → Prop} {h : Hp} {wid d c : Nat} {w : Wo} (hk : WOK d w) (hd : d ≤ 120) (C : CW L h wid w) (hc : c < 30) : call 1015 [vo (some (wid, 10, 0)), vi (nI c), vi (nI (w 0 5))] h = some (some (vi (nI (hmF w c (w 0 3) 0 0))), h) := by
  rw [← c_many hk hd C hc (w 0 3) 0 0 (by omega) (by omega)]
  simp only [e_1015, x_1015, xs]
  exact rfl
theorem c_full_l {L : Nat → Prop} {h : Hp} {wid d : Nat} {w : Wo} (hk : WOK d w) (hd : d ≤ 120) (C : CW L h wid w) : ∀ (n c : Nat) (b : Nat × Option Nat) (l5 : Option AV), c + n = w 0 0 * w 0 1 → b.1 ≤ 5 → run 2 1016 8 [some (vo (some (wid, 10, 0))), some (vi (nI (w 0 5))), some (vi (oN b.2)), some (vi (nI b.1)), some (vi (nI c)), l5] [] h = some (some (vi (oN (crF w n c b).2)), h) := by
  have k3 := hk.2.2.2.1
  obtain ⟨mo, m1, m2, -⟩ := C.1
  have f2 := m2.2.1.2.2.1
  have cc := cells_le hk
  intro n
  induction n with
  | zero =>
    intro c b l5 hc hb
    have e : w 0 0 * w 0 1 ≤ c := by omega
    rw [x_1016_8]
    simp (disch := omega) only [x_1016, xs, ↓reduceIte, m1, f2, nl_le, eq_true e]
    rfl
  | succ n ih =>
    intro c b l5 hc hb
    have e : ¬ w 0 0 * w 0 1 ≤ c := by omega
    have h1 := c_howMany (c := c) hk hd C (by omega)
    have hm := hmF_le w c (w 0 3) 0 0
    rw [x_1016_8]
    unfold crF
    generalize hmF w c (w 0 3) 0 0 = v at *
    by_cases q : b.1 < v
    · rw [if_pos q, ← ih (c + 1) (v, some c) (some (vi (nI v))) (by omega) (by show v ≤ 5; omega)]
      have e2 : ¬ v ≤ b.1 := by omega
      simp (disch := omega) only [x_1016, xs, ↓reduceIte, m1, f2, nl_le, e, h1, e2, nl_inc]
      exact rfl
    · rw [if_neg q, ← ih (c + 1) b (some (vi (nI v))) (by omega) hb]
      have e2 : v ≤ b.1 := by omega
      simp (disch := omega) only [x_1016, xs, ↓reduceIte, m1, f2, nl_le, e, h1, eq_true e2, nl_inc]
theorem crF_i (w : Wo) : ∀ (n c : Nat) (b : Nat × Option Nat), (∀ x, b.2 = some x → b.1 = hmF w x (w 0 3) 0 0 ∧ x < c) → (b.2 = none → b.1 = 0) → (∀ x, (crF w n c b).2 = some x → (crF w n c b).1 = hmF w x (w 0 3) 0 0 ∧ x < c + n) ∧ ((crF w n c b).2 = none → (crF w n c b).1 = 0) := by
  intro n
  induction n with
  | zero => intro c b h1 h2; exact ⟨h1, h2⟩
  | succ n ih =>
    intro c b h1 h2
    unfold crF
    have r := ih (c + 1) (if b.1 < hmF w c (w 0 3) 0 0 then (hmF w c (w 0 3) 0 0, some c) else b) (by
      split
      · intro x z; cases z; exact ⟨rfl, by omega⟩
      · intro x z; have := h1 x z; exact ⟨this.1, by omega⟩) (by
      split
      · intro z; cases z
      · exact h2)
    exact ⟨fun x z => ⟨(r.1 x z).1, by have := (r.1 x z).2; omega⟩, r.2⟩
theorem q_crowd (n x : Int32) : Cok 1111 [n, x] (s_crowd n x) := by
  rintro σ h ⟨L, nw, sp, I⟩
  obtain ⟨hn, hX, -, ⟨hw, ht⟩, -, hG, -⟩ := id I
  have w0 := hX.1.1
  have k5 := hG.1.2.2.2.2.2.1
  have h1 : call 1130 [vi x, vi 1] h = some (some (vi (if x < 0 ∨ 1 < x then -2 else 0)), h) := c_ask x 1 h
  have h2 : call 1129 [vi n, vi 0, vi 60] h = some (some (vi (wdI n (nI 0) (nI 60))), h) := c_out n (nI 0) (nI 60) h
  unfold s_crowd
  simp only [List.map]
  by_cases e1 : x < 0 ∨ 1 < x
  · rw [if_pos e1] at h1 ⊢
    refine ⟨rc h 2, ?_, ⟨L, nw, sp, IC_rz (by decide) I⟩, cB_e rfl⟩
    simp (disch := omega) only [e_1111, x_1111, xs, ↓reduceIte, h1, ltm, c_rf2 hX]
  · rw [if_neg e1] at h1 ⊢
    obtain ⟨-, e, rfl, he⟩ := in1_t e1
    rcases wd_3 n 0 60 (by decide) (by omega) with ⟨z1, z2⟩ | ⟨z1, z2, z3⟩ | ⟨z1, z2, z3, z4⟩
    · rw [if_pos z1]
      refine ⟨rc h 4, ?_, ⟨L, nw, sp, IC_rz (by decide) I⟩, cB_e rfl⟩
      simp (disch := omega) only [e_1111, x_1111, xs, ↓reduceIte, h1, i00, h2, z2, ltm, c_rf4 hX]
    · rw [if_neg z1, if_pos z2]
      refine ⟨rc h 6, ?_, ⟨L, nw, sp, IC_rz (by decide) I⟩, cB_e rfl⟩
      simp (disch := omega) only [e_1111, x_1111, xs, ↓reduceIte, h1, i00, h2, z3, ltm, c_rf6 hX]
    · rw [if_neg z1, if_neg z2]
      obtain ⟨j, rfl, j1, j2⟩ := z4
      obtain ⟨h2', r1, r2, r3⟩ := c_foresee (by omega) hG.1 j2 ht hw
      have J := IC_k (ck_m r2 (fun i j z => Or.inr (Or.inr (Or.inr (Or.inr (Or.inl z)))))) I
      refine ⟨h2', ?_, ⟨L, nw, sp, J⟩, cB_e r2.1⟩
      have w02 := J.2.1.1.1
      have ht2 := J.2.2.2.1.2
      have hk2 := dys_ok hG.1 j
      have t5 := dys_5 σ.1 j
      have d00 := dys_0 σ.1 j 0 (by decide)
      have d01 := dys_0 σ.1 j 1 (by decide)
      have m0 := c_full_l hk2 (by omega) r3 (dys σ.1 j 0 0 * dys σ.1 j 0 1) 0 (0, none) none (by omega) (by decide)
      rw [d00, d01, t5] at m0
      have m0' : call 1016 [vo (some (nw, 10, 0)), vi (nI (σ.1 0 5 + j))] h2' = some (some (vi (oN (crF (dys σ.1 j) (σ.1 0 0 * σ.1 0 1) 0 (0, none)).2)), h2') := by
        rw [← m0]
        simp only [e_1016, x_1016, xs]
        exact rfl
      have q0 : (nI e = 0) = (e = 0) := nl_eq (by omega) (by decide)
      have q1 : (nI e = 1) = (e = 1) := nl_eq (by omega) (by decide)
      obtain ⟨i1, i2⟩ := crF_i (dys σ.1 j) (σ.1 0 0 * σ.1 0 1) 0 (0, none) (fun x z => by cases z) (fun _ => rfl)
      rcases (by omega : e = 0 ∨ e = 1) with rfl | rfl
      · have cc := cells_le hG.1
        cases ec : (crF (dys σ.1 j) (σ.1 0 0 * σ.1 0 1) 0 (0, none)).2 with
        | none =>
          rw [ec] at m0'
          simp (disch := omega) only [e_1111, x_1111, xs, ↓reduceIte, h1, i00, h2, z3, w0, r1, w02, ht2, nI_add, m0', q0, q1, oN_n, cl_n, Nat.reduceEqDiff, i2 ec]
          rfl
        | some c =>
          rw [ec] at m0'
          obtain ⟨y1, y2⟩ := i1 c ec
          have o9 : (nI c = -9) = False := by
            have := oN_9 (o := some c) (fun t z => by cases z; omega)
            rw [oN_s] at this
            rw [this]; simp
          have h3 := c_howMany (c := c) hk2 (by omega) r3 (by omega)
          rw [t5] at h3
          simp (disch := omega) only [e_1111, x_1111, xs, ↓reduceIte, h1, i00, h2, z3, w0, r1, w02, ht2, nI_add, m0', q0, q1, oN_s, o9, h3, y1, cl_n, Nat.reduceEqDiff]
      · simp (disch := omega) only [e_1111, x_1111, xs, ↓reduceIte, h1, i00, h2, z3, w0, r1, w02, ht2, nI_add, m0', q0, q1, cl_n, Nat.reduceEqDiff]
theorem c_judge_l {L : Nat → Prop} {h : Hp} {nw sp p : Nat} {σ : St} (J : ICn L nw sp σ h) (C : CW L h nw (dys σ.1 (σ.2.2 0 3))) (hp : p < σ.1 0 3) (x2 : Int32) : ∀ (m : Nat), m ≤ σ.2.2 0 3 → run 6 1122 38 [some (vo (some (0, 11, 0))), some (vi (nI p)), some (vi x2), some (vi (oN (fN (jP σ p) (σ.2.2 0 3 - m) m))), some (vi (nI m - 1))] [] h = some (some (vi (oN (fN (jP σ p) (σ.2.2 0 3) 0))), hsI h 0 8 0) := by
  obtain ⟨hn, hX, -, ⟨hw, ht⟩, -, hG, ⟨-, -, -, ⟨g6, g7⟩, -⟩, -⟩ := id J
  have w0 := hX.1.1
  have w7 := hX.1.2.2.2.2.2.2.1
  have k5 := hG.1.2.2.2.2.2.1
  obtain ⟨G1, G2⟩ := hG.2.2.2.2.2
  intro m
  induction m with
  | zero =>
    intro _
    have e : (nI 0 - 1 < 0) = True := eq_true (by decide)
    rw [x_1122_38]
    simp (disch := omega) only [x_1122, xs, ↓reduceIte, e]
    rfl
  | succ m ih =>
    intro hm
    have e1 : nI (m + 1) - 1 = nI m := by rw [show (1 : Int32) = nI 1 from rfl, pk_sub (by omega)]; rfl
    have h1 := c_pl_i (p := p) (i := m) hG.1 (by omega) C hp (by omega)
    have g := g7 m (by omega)
    have c1 := cel_i hG.1 hp m
    have c2 := G2 m (by omega)
    have em : nI m + -1 = nI m - 1 := by rw [Int32.sub_eq_add_neg]
    have st : fN (jP σ p) (σ.2.2 0 3 - m) m = if jP σ p m = true then some m else fN (jP σ p) (σ.2.2 0 3 - (m + 1)) (m + 1) := by
      rw [show σ.2.2 0 3 - m = (σ.2.2 0 3 - (m + 1)) + 1 by omega]
      rfl
    have ih := ih (by omega)
    rw [st] at ih
    rw [x_1122_38, ← ih]
    by_cases q : σ.2.2 4 m = cel (dys σ.1 m) p
    · have : ¬ jP σ p m = true := by unfold jP; rw [decide_eq_true q]; decide
      rw [if_neg this]
      simp (disch := omega) only [x_1122, xs, ↓reduceIte, e1, nl_l0, w7, ↓ib_n, cl_n, g, w0, ht, nI_add, h1, nl_eq, eq_true q, em]
    · have : jP σ p m = true := by unfold jP; rw [decide_eq_false q]; rfl
      rw [if_pos this]
      simp (disch := omega) only [x_1122, xs, ↓reduceIte, e1, nl_l0, w7, ↓ib_n, cl_n, g, w0, ht, nI_add, h1, nl_eq, q, em]
      exact rfl
theorem q_judge (p : Int32) : Cok 1122 [p] (s_judge p) := by
  rintro σ h ⟨L, nw, sp, I⟩
  obtain ⟨hn, hX, -, ⟨hw, ht⟩, -, hG, ⟨-, -, -, ⟨g6, g7⟩, -⟩, -⟩ := id I
  have w0 := hX.1.1
  have k3 := hG.1.2.2.2.1
  have h1 := c_here p I
  unfold s_judge
  simp only [List.map]
  by_cases e1 : isP σ.1 p = true
  · rw [if_pos e1] at h1 ⊢
    obtain ⟨k, rfl, hk⟩ := isP_of k3 e1
    have G1 := hG.2.2.2.2.2.1
    obtain ⟨h2', r1, r2, r3⟩ := c_foresee (n := σ.2.2 0 3) (by omega) hG.1 (by omega) ht hw
    have J := IC_k (ck_m r2 (fun i j z => Or.inr (Or.inr (Or.inr (Or.inr (Or.inl z)))))) I
    obtain ⟨-, hX2, -, -, -, -, ⟨x1, x2, x3, ⟨x6, x7⟩, x8⟩, -⟩ := id J
    have un : ∀ a b, (a ≠ 0 ∨ b ≠ 3) → upw σ.2.2 0 3 0 a b = σ.2.2 a b := fun a b n => upw_n (by omega)
    have hq : ∀ i j, (i ≠ 0 ∨ j ≠ 8) → hI (hsI h2' 0 8 0) i j = hI h2' i j := fun i j n => hI_n (by omega)
    refine ⟨hsI h2' 0 8 0, ?_, ⟨L, nw, sp, IC_g (ck_I (by unfold yS; omega)) J ?_ (un _ _ (by omega)) ?_⟩, cB_e r2.1⟩
    · have m0 := c_judge_l J r3 hk 0 (σ.2.2 0 3) (Nat.le_refl _)
      rw [Nat.sub_self] at m0
      rw [cl_n (by omega), ← m0]
      simp (disch := omega) only [e_1122, x_1122, xs, ↓reduceIte, h1, i00, w0, g6, r1, x6]
      exact rfl
    · obtain ⟨G1, G2, G3, G4, G5, G6⟩ := hG
      unfold GOK
      simp (disch := omega) only [un, upw_e]
      exact ⟨G1, G2, G3, G4, G5, by omega, fun i y => by omega⟩
    · unfold XG
      simp (disch := omega) only [un, upw_e, hq]
      exact ⟨x1, x2, x3, ⟨by rw [hI_e]; rfl, fun i y => by omega⟩, x8⟩
  · rw [if_neg e1] at h1 ⊢
    refine ⟨rc h 1, ?_, ⟨L, nw, sp, IC_rz (by decide) I⟩, cB_e rfl⟩
    simp (disch := omega) only [e_1122, x_1122, xs, ↓reduceIte, h1, ltm, c_rf1 hX]
