/-! THE REFERENCE: never, crowd, judge -/
def frB (w : Wo) : Nat := andn (2 ^ (w 0 0 * w 0 1) - 1) (w 0 2)
theorem frB_lt {w : Wo} {d : Nat} (hk : WOK d w) : frB w < 2 ^ 30 := by
  have h1 := (cells_le hk).2
  refine andn_lt ?_
  have : 2 ^ (w 0 0 * w 0 1) ≤ 2 ^ 30 := Nat.pow_le_pow_right (by decide) h1
  have := Nat.two_pow_pos (w 0 0 * w 0 1)
  omega
theorem m_freeBits (h : Hp) (w : Wo) (d : Nat) (hS : MS h w) (hk : WOK d w) : call 1242 [vo (some (44, 12, 0))] h = some (some (vi (nI (frB w))), h) := by
  obtain ⟨f0, f1, f2, -⟩ := hS.1
  have hc := cells_le hk
  have hh := hills_lt hk
  have h1 : 2 ^ (w 0 0 * w 0 1) ≤ 2 ^ 30 := Nat.pow_le_pow_right (by decide) hc.2
  have h2 := Nat.two_pow_pos (w 0 0 * w 0 1)
  have h3 : nI (2 ^ (w 0 0 * w 0 1)) - 1 = nI (2 ^ (w 0 0 * w 0 1) - 1) := by rw [show (1 : Int32) = nI 1 from rfl, pk_sub (by omega)]
  simp (disch := omega) only [e_1242, x_1242, xs, f0, f1, f2, pk_mul, nl_s1, h3, nl_andn]
  rfl
def nvF (w : Wo) (p : Nat) : Nat → Nat → Nat → Nat
  | 0, _, b => b
  | n + 1, i, b => nvF w p n (i + 1) (andn b (2 ^ cel (dys w (i + 1)) p))
theorem p2_lt {c : Nat} (h : c < 30) : 2 ^ c < 2 ^ 30 := Nat.pow_lt_pow_right (by decide) h
theorem m_never_l (p N d : Nat) (w : Wo) (hO : WOK d w) (hd : d ≤ 60) (hp : p < w 0 3) (hN : N ≤ 60) (l3 : Option AV) : ∀ (m i b : Nat) (h : Hp), i + m = N → b < 2 ^ 30 → MW h → MS h (dys w i) → ∃ h2, run 6 1243 60 [some (vo (some (44, 12, 0))), some (vi (nI p)), some (vi (nI N)), l3, some (vi (nI (w 0 5))), some (vi (nI b)), some (vi (nI i))] [] h = some (some (vi (nI (nvF w p m i b))), hsI h2 44 5 (nI (w 0 5))) ∧ kp (dS (w 0 5)) h h2 := by
  have k3 := hO.2.2.2.1
  intro m
  induction m with
  | zero =>
    intro i b h hi hb hW hS
    refine ⟨h, ?_, kp_r _ _⟩
    have : i = N := by omega
    subst this
    rw [x_1243_60]
    simp (disch := omega) only [x_1243, xs, nl_le, Nat.le_refl]
    rfl
  | succ m ih =>
    intro i b h hi hb hW hS
    have hOi := dys_ok hO i
    have hO1 := dys_ok hO (i + 1)
    have hp1 : p < dys w (i + 1) 0 3 := by rw [dys_0 _ _ _ (by decide)]; exact hp
    obtain ⟨h1, c1, c2, c3⟩ := m_dayOn h (dys w i) _ hW hS hOi (by omega)
    have hW1 := MW_k c2 hW
    have c3 : MS h1 (dys w (i + 1)) := c3
    have a1 := m_cellOf p h1 _ _ hW1 c3 hO1 (by omega) hp1
    have l1 := cel_lt hO1 hp1
    have l2 := p2_lt l1
    have ck : kp (dS (w 0 5)) h h1 := kp_m c2 (dS_m (by rw [dys_5]; omega))
    obtain ⟨h2, r1, r2⟩ := ih (i + 1) (andn b (2 ^ cel (dys w (i + 1)) p)) h1 (by omega) (andn_lt hb) hW1 c3
    refine ⟨h2, ?_, kp_t ck r2⟩
    have hNi : ¬ N ≤ i := by omega
    unfold nvF
    rw [x_1243_60, ← r1]
    simp (disch := omega) only [x_1243, xs, nl_le, hNi, c1, a1, nl_s1, nl_andn, nl_inc]
def s_never (p n : Int32) (σ : St) : Int32 × St := if isP σ.1 p = true then (if n < nI 0 then (-4, rz σ 4) else if nI 60 < n then (-6, rz σ 6) else (nI (nvF σ.1 p.toNatClampNeg n.toNatClampNeg 0 (andn (frB σ.1) (2 ^ cel σ.1 p.toNatClampNeg))), σ)) else (-1, rz σ 1)
theorem p_never (p n : Int32) : Mok 1243 [p, n] (s_never p n) := by
  intro σ h I
  have I2 := IM_th I
  obtain ⟨hW, hS, hG, -⟩ := id I2
  have k3 := hG.1.2.2.2.1
  have f5 := hS.1.2.2.2.2.2
  have hp := m_isP p _ _ hS
  unfold s_never
  simp only [List.map]
  by_cases h1 : isP σ.1 p = true
  · rw [if_pos h1]
    obtain ⟨k, rfl, hk⟩ := isP_of k3 h1
    have hwd : call 1239 [vi n, vi 0, vi 60] (hsI h 44 12 0) = some (some (vi (wdI n (nI 0) (nI 60))), hsI h 44 12 0) := m_wd n 0 60 _
    rcases wd_3 n 0 60 (by decide) (by decide) with ⟨a, b⟩ | ⟨a, b, c⟩ | ⟨a, b, c, j, rfl, -, hj⟩
    · rw [if_pos a]
      refine ⟨rh (hsI h 44 12 0) 4, ?_, IM_rz (by decide) I2⟩
      simp only [e_1243, x_1243, xs, hp, h1, bI_t, i10, hwd, b, ltm, m_rf4 hW]
    · rw [if_neg a, if_pos b]
      refine ⟨rh (hsI h 44 12 0) 6, ?_, IM_rz (by decide) I2⟩
      simp only [e_1243, x_1243, xs, hp, h1, bI_t, i10, hwd, c, ltm, m_rf6 hW]
    · rw [if_neg a, if_neg b]
      have hc := m_cellOf k _ _ _ hW hS hG.1 (by decide) hk
      have l1 := cel_lt hG.1 hk
      have l2 := p2_lt l1
      have l3 := frB_lt hG.1
      have hf := m_freeBits _ _ _ hS hG.1
      obtain ⟨h2, r1, r2⟩ := m_never_l k j 60 σ.1 hG.1 (by decide) hk hj (some (vi 0)) j 0 (andn (frB σ.1) (2 ^ cel σ.1 k)) _ (by omega) (andn_lt l3) hW hS
      refine ⟨_, ?_, IM_k (kp_back r2 f5) I2⟩
      simp (disch := omega) only [e_1243, x_1243, xs, hp, h1, bI_t, i10, hwd, c, ltm, f5, hf, hc, cl_n, nl_s1, nl_andn]
      exact r1
  · have h1 := bnt h1
    refine ⟨rh (hsI h 44 12 0) 1, ?_, by rw [h1]; exact IM_rz (by decide) I2⟩
    simp only [e_1243, x_1243, xs, hp, h1, bI_f, i00, ltm, m_rf1 hW, Bool.false_eq_true, if_false]
/-- how many are in a cell; the fullest cell -/
def hmF (w : Wo) (c : Nat) : Nat → Nat → Nat → Nat
  | 0, _, a => a
  | n + 1, p, a => hmF w c n (p + 1) (if cel w p = c then a + 1 else a)
theorem hmF_le (w : Wo) (c : Nat) : ∀ n p a, hmF w c n p a ≤ a + n := by
  intro n
  induction n with
  | zero => intro p a; exact Nat.le_refl _
  | succ n ih =>
    intro p a
    unfold hmF
    refine Nat.le_trans (ih _ _) ?_
    split <;> omega
def crF (w : Wo) : Nat → Nat → Nat × Option Nat → Nat × Option Nat
  | 0, _, b => b
  | n + 1, c, b => crF w n (c + 1) (if b.1 < hmF w c (w 0 3) 0 0 then (hmF w c (w 0 3) 0 0, some c) else b)
theorem m_crowd_i (d : Nat) (w : Wo) (h : Hp) (hO : WOK d w) (hd : d ≤ 129) (hW : MW h) (hS : MS h w) (l1 l2 l3 l4 l5 l6 : Option AV) (c : Nat) (hc : c < 30) : ∀ (n p a : Nat), p + n = w 0 3 → a ≤ p → run 7 1244 79 [some (vo (some (44, 12, 0))), l1, l2, l3, l4, l5, l6, some (vi (nI c)), some (vi (nI a)), some (vi (nI p))] [] h = run 7 1244 115 [some (vo (some (44, 12, 0))), l1, l2, l3, l4, l5, l6, some (vi (nI c)), some (vi (nI (hmF w c n p a))), some (vi (nI (w 0 3)))] [] h := by
  have k3 := hO.2.2.2.1
  have f3 := hS.1.2.2.2.1
  intro n
  induction n with
  | zero =>
    intro p a hp ha
    have : p = w 0 3 := by omega
    subst this
    rw [x_1244_79]
    simp (disch := omega) only [x_1244, xs, f3, nl_le, Nat.le_refl]
    rfl
  | succ n ih =>
    intro p a hp ha
    have hp3 : ¬ w 0 3 ≤ p := by omega
    have hcl := m_cellOf p h w d hW hS hO hd (by omega)
    have l1' := cel_lt hO (show p < w 0 3 by omega)
    unfold hmF
    rw [x_1244_79]
    by_cases e : cel w p = c
    · rw [if_pos e, ← ih (p + 1) (a + 1) (by omega) (by omega)]
      simp (disch := omega) only [x_1244, xs, f3, nl_le, hp3, hcl, nl_eq, eq_true e, nl_inc]
    · rw [if_neg e, ← ih (p + 1) a (by omega) (by omega)]
      simp (disch := omega) only [x_1244, xs, f3, nl_le, hp3, hcl, nl_eq, e, nl_inc, show nI a + 0 = nI a from nI_add a 0]
theorem m_crowd_l (d e t : Nat) (w : Wo) (h : Hp) (hO : WOK d w) (hd : d ≤ 129) (hW : MW h) (hS : MS h w) (l1 l3 : Option AV) (he : e ≤ 1) : ∀ (n c : Nat) (b : Nat × Option Nat) (l8 l9 : Option AV), c + n = w 0 0 * w 0 1 → b.1 ≤ 5 → run 7 1244 59 [some (vo (some (44, 12, 0))), l1, some (vi (nI e)), l3, some (vi (nI t)), some (vi (nI b.1)), some (vi (oN b.2)), some (vi (nI c)), l8, l9] [] h = some (some (vi (if e = 0 then nI (crF w n c b).1 else oN (crF w n c b).2)), hsI h 44 5 (nI t)) := by
  have k3 := hO.2.2.2.1
  obtain ⟨f0, f1, -, f3, -⟩ := hS.1
  have hcc := cells_le hO
  intro n
  induction n with
  | zero =>
    intro c b l8 l9 hc hb
    have : w 0 0 * w 0 1 ≤ c := by omega
    rw [x_1244_59]
    unfold crF
    simp (disch := omega) only [x_1244, xs, f0, f1, pk_mul, nl_le, eq_true this, nl_e0]
    rcases (show e = 0 ∨ e = 1 by omega) with rfl | rfl <;> rfl
  | succ n ih =>
    intro c b l8 l9 hc hb
    have hc3 : ¬ w 0 0 * w 0 1 ≤ c := by omega
    have hin := fun l4 l5 l6 => m_crowd_i d w h hO hd hW hS l1 (some (vi (nI e))) l3 l4 l5 l6 c (by omega) (w 0 3) 0 0 (by omega) (by omega)
    have hle := hmF_le w c (w 0 3) 0 0
    have e0 : (some (vi (0 : Int32)) : Option AV) = some (vi (nI 0)) := rfl
    unfold crF
    rw [x_1244_59]
    simp (disch := omega) only [x_1244, xs, f0, f1, pk_mul, nl_le, hc3]
    rw [e0, hin]
    by_cases hb2 : b.1 < hmF w c (w 0 3) 0 0
    · have hb3 : ¬ hmF w c (w 0 3) 0 0 ≤ b.1 := by omega
      rw [if_pos hb2, ← ih (c + 1) (hmF w c (w 0 3) 0 0, some c) (some (vi (nI (hmF w c (w 0 3) 0 0)))) (some (vi (nI (w 0 3)))) (by omega) (by simp only; omega)]
      simp (disch := omega) only [x_1244, xs, nl_le, hb3, nl_inc, oN_s]
    · have hb3 : hmF w c (w 0 3) 0 0 ≤ b.1 := by omega
      rw [if_neg hb2, ← ih (c + 1) b (some (vi (nI (hmF w c (w 0 3) 0 0)))) (some (vi (nI (w 0 3)))) (by omega) hb]
      simp (disch := omega) only [x_1244, xs, nl_le, eq_true hb3, nl_inc, oN_s]
def s_crowd (n x : Int32) (σ : St) : Int32 × St := if x < 0 ∨ 1 < x then (-2, rz σ 2) else if n < nI 0 then (-4, rz σ 4) else if nI 60 < n then (-6, rz σ 6) else (if x = 0 then nI (crF (dys σ.1 n.toNatClampNeg) (σ.1 0 0 * σ.1 0 1) 0 (0, none)).1 else oN (crF (dys σ.1 n.toNatClampNeg) (σ.1 0 0 * σ.1 0 1) 0 (0, none)).2, σ)
theorem p_crowd (n x : Int32) : Mok 1244 [n, x] (s_crowd n x) := by
  intro σ h I
  have I2 := IM_th I
  obtain ⟨hW, hS, hG, -⟩ := id I2
  have f5 := hS.1.2.2.2.2.2
  unfold s_crowd
  simp only [List.map]
  by_cases h2 : x < 0 ∨ 1 < x
  · rw [if_pos h2]
    refine ⟨rh (hsI h 44 12 0) 2, ?_, IM_rz (by decide) I2⟩
    simp only [e_1244, x_1244, xs, m_in01, in1_f h2, decide_false, bI_f, i00, ltm, m_rf2 hW]
  · rw [if_neg h2]
    obtain ⟨h3, e, rfl, he⟩ := in1_t h2
    have hwd : call 1239 [vi n, vi 0, vi 60] (hsI h 44 12 0) = some (some (vi (wdI n (nI 0) (nI 60))), hsI h 44 12 0) := m_wd n 0 60 _
    rcases wd_3 n 0 60 (by decide) (by decide) with ⟨a, b⟩ | ⟨a, b, c⟩ | ⟨a, b, c, j, rfl, -, hj⟩
    · rw [if_pos a]
      refine ⟨rh (hsI h 44 12 0) 4, ?_, IM_rz (by decide) I2⟩
      simp only [e_1244, x_1244, xs, m_in01, h3, and_self, decide_true, bI_t, i10, hwd, b, ltm, m_rf4 hW]
    · rw [if_neg a, if_pos b]
      refine ⟨rh (hsI h 44 12 0) 6, ?_, IM_rz (by decide) I2⟩
      simp only [e_1244, x_1244, xs, m_in01, h3, and_self, decide_true, bI_t, i10, hwd, c, ltm, m_rf6 hW]
    · rw [if_neg a, if_neg b]
      obtain ⟨h2, r1, r2, r3⟩ := m_daysOn j _ σ.1 60 hW hS hG.1 (by omega)
      have hl := m_crowd_l _ e (σ.1 0 5) (dys σ.1 j) h2 (dys_ok hG.1 j) (by omega) (MW_k r2 hW) r3 (some (vi (nI j))) (some (vi 0)) he (σ.1 0 0 * σ.1 0 1) 0 (0, none) none none (by rw [dys_0 _ _ _ (by decide), dys_0 _ _ _ (by decide)]; omega) (by decide)
      refine ⟨_, ?_, IM_k (kp_back r2 f5) I2⟩
      simp (disch := omega) only [e_1244, x_1244, xs, m_in01, h3, and_self, decide_true, bI_t, i10, hwd, c, ltm, f5, r1, cl_n, nl_e0]
      exact hl
/-- the rest changes -/
def gS (i j : Nat) : Prop := (i = 44 ∧ (j = 16 ∨ j = 21 ∨ j = 36 ∨ j = 42 ∨ j = 12 ∨ j = 17 ∨ j = 18 ∨ j = 22 ∨ j = 23 ∨ j = 24 ∨ j = 39)) ∨ (51 ≤ i ∧ i ≤ 69)
theorem gS_n {i j : Nat} (h : (i ≠ 44 ∨ (j ≠ 16 ∧ j ≠ 21 ∧ j ≠ 36 ∧ j ≠ 42 ∧ j ≠ 12 ∧ j ≠ 17 ∧ j ≠ 18 ∧ j ≠ 22 ∧ j ≠ 23 ∧ j ≠ 24 ∧ j ≠ 39)) ∧ (i < 51 ∨ 69 < i)) : ¬ gS i j := by unfold gS; omega
theorem IM_g {σ : St} {h h2 : Hp} {v m : Wo} (a : kp gS h h2) (I : IM σ h) (G : GOK (σ.1, v, m)) (hi : m 0 0 = 1 → MSi h2 53 v) (g : MG h2 m) : IM (σ.1, v, m) h2 := by
  obtain ⟨hW, hS, hG, -⟩ := I
  have k5 := hG.1.2.2.2.2.2.1
  exact ⟨MW_k a hW, MSg_c hS (show σ.1 0 5 ≤ 129 by omega) (fun j hj => a.2.2 _ _ (gS_n (by omega))) (fun p _ => ⟨a.2.2 _ _ (gS_n (by omega)), a.2.2 _ _ (gS_n (by omega)), a.2.2 _ _ (gS_n (by omega)), a.2.2 _ _ (gS_n (by omega))⟩) (fun i => a.2.2 _ _ (gS_n (by omega))) (fun p j hj => a.2.2 _ _ (gS_n (by omega))), G, hi, g⟩
theorem MSi_c {h h2 : Hp} {a : Nat} {v : Wo} {d : Nat} (hd : d ≤ 129) (hk : WOK d v) (hi : MSi h a v) (e : ∀ j, hI h2 a j = hI h a j) : MSi h2 a v := by
  have := hk.2.2.2.2.2.1
  exact MSg_c hi (by omega) (fun j _ => e _) (fun p _ => ⟨e _, e _, e _, e _⟩) (fun i => e _) (fun p j _ => e _)
theorem IM_row0 {σ : St} {h : Hp} (I : IM σ h) : IM (σ.1, σ.2.1, upw σ.2.2 0 3 0) (hsI h 44 42 0) := by
  obtain ⟨hW, hS, ⟨G1, G2, G3, G4, G5, G6⟩, hi, g1, ⟨g2, g3⟩, ⟨g4, g5⟩, ⟨g6, g7⟩, g8⟩ := id I
  have ne : ∀ i j, (i ≠ 44 ∨ j ≠ 42) → hI (hsI h 44 42 0) i j = hI h i j := fun i j n => hI_n (by omega)
  have un : ∀ a b, (a ≠ 0 ∨ b ≠ 3) → upw σ.2.2 0 3 0 a b = σ.2.2 a b := fun a b n => upw_n (by omega)
  refine IM_g (kp_I (Or.inl ⟨rfl, by omega⟩)) I ?_ (fun h1 => ?_) ?_
  · unfold GOK
    simp (disch := omega) only [un, upw_e]
    exact ⟨G1, G2, G3, G4, G5, by omega, fun i hi => absurd hi (by omega)⟩
  · rw [un _ _ (by omega)] at h1
    exact MSi_c (by decide) (G3 h1) (hi h1) (fun j => ne _ _ (by omega))
  · unfold MG
    simp (disch := omega) only [un, ne, upw_e, hI_e]
    exact ⟨g1, ⟨g2, g3⟩, ⟨g4, g5⟩, ⟨rfl, fun i hi => absurd hi (by omega)⟩, g8⟩
def jP (σ : St) (p i : Nat) : Bool := !decide (σ.2.2 4 i = cel (dys σ.1 i) p)
theorem m_judge_l (p N : Nat) (σ : St) (hO : WOK 60 σ.1) (hp : p < σ.1 0 3) (hN : N ≤ 12) (hr : ∀ i, i < N → σ.2.2 4 i < 30) : ∀ (m i : Nat) (h : Hp), i + m = N → MW h → MS h (dys σ.1 i) → (∀ i, i < N → hI h 69 i = nI (σ.2.2 4 i)) → ∃ h2, run 6 1264 41 [some (vo (some (44, 12, 0))), some (vi (nI p)), some (vi (nI N)), some (vi (nI (σ.1 0 5))), some (vi (-9)), some (vi (nI i))] [] h = some (some (vi (oN (fN (jP σ p) m i))), hsI h2 44 5 (nI (σ.1 0 5))) ∧ kp (dS (σ.1 0 5)) h h2 := by
  have k3 := hO.2.2.2.1
  intro m
  induction m with
  | zero =>
    intro i h hi hW hS hrow
    have : i = N := by omega
    subst this
    refine ⟨h, ?_, kp_r _ _⟩
    rw [x_1264_41]
    simp (disch := omega) only [x_1264, xs, nl_le, Nat.le_refl]
    rfl
  | succ m ih =>
    intro i h hi hW hS hrow
    have hOi := dys_ok hO i
    have hp0 : p < dys σ.1 i 0 3 := by rw [dys_0 _ _ _ (by decide)]; exact hp
    have a0 := m_cellOf p h _ _ hW hS hOi (by omega) hp0
    have l0 := cel_lt hOi hp0
    have r0 := hrow i (by omega)
    have r1 := hr i (by omega)
    obtain ⟨h1, c1, c2, c3⟩ := m_dayOn h (dys σ.1 i) _ hW hS hOi (by omega)
    have hW1 := MW_k c2 hW
    have c3 : MS h1 (dys σ.1 (i + 1)) := c3
    have ck : kp (dS (σ.1 0 5)) h h1 := kp_m c2 (dS_m (by rw [dys_5]; omega))
    have w41 : hR h 44 41 = some (69, 13, 12) := hW.2.2.2.2.2.2.2.2.2.2.2.2.2.2.2.2.2.2.2.2.2.2.2.2
    have hNi : ¬ N ≤ i := by omega
    unfold fN
    rw [x_1264_41]
    by_cases e : σ.2.2 4 i = cel (dys σ.1 i) p
    · have hj : ¬ jP σ p i = true := by unfold jP; simp [e]
      rw [if_neg hj]
      obtain ⟨h2, q1, q2⟩ := ih (i + 1) h1 (by omega) hW1 c3 (fun k hk => by rw [c2.2.2 69 k (dS_n (by omega) (by omega))]; exact hrow k hk)
      refine ⟨h2, ?_, kp_t ck q2⟩
      rw [← q1]
      simp (disch := omega) only [x_1264, xs, nl_le, hNi, ltm, w41, ↓ib_n, cl_n, r0, a0, nl_eq, eq_true e, c1, nl_inc]
    · have hj : jP σ p i = true := by unfold jP; simp [e]
      rw [if_pos hj]
      refine ⟨h1, ?_, ck⟩
      simp (disch := omega) only [x_1264, xs, nl_le, hNi, ltm, w41, ↓ib_n, cl_n, r0, a0, nl_eq, e, c1, nl_inc]
      rw [x_1264_41]
      simp (disch := omega) only [x_1264, xs, nl_le, nl_g0]
      split <;> rfl
def s_judge (p : Int32) (σ : St) : Int32 × St := if isP σ.1 p = true then (oN (fN (jP σ p.toNatClampNeg) (σ.2.2 0 3) 0), (σ.1, σ.2.1, upw σ.2.2 0 3 0)) else (-1, rz σ 1)
theorem p_judge (p : Int32) : Mok 1264 [p] (s_judge p) := by
  intro σ h I
  have I2 := IM_th I
  obtain ⟨hW, hS, hG, -, -, -, -, ⟨g6, g7⟩, -⟩ := id I2
  have k3 := hG.1.2.2.2.1
  have f5 := hS.1.2.2.2.2.2
  have hp := m_isP p _ _ hS
  unfold s_judge
  simp only [List.map]
  by_cases h1 : isP σ.1 p = true
  · rw [if_pos h1]
    obtain ⟨k, rfl, hk⟩ := isP_of k3 h1
    have I3 := IM_row0 I2
    obtain ⟨hW3, hS3, -⟩ := id I3
    obtain ⟨h2, r1, r2⟩ := m_judge_l k (σ.2.2 0 3) σ hG.1 hk hG.2.2.2.2.2.1 hG.2.2.2.2.2.2 (σ.2.2 0 3) 0 _ (by omega) hW3 hS3 (fun i hi => by rw [hI_n (by omega)]; exact g7 i hi)
    have f53 := hS3.1.2.2.2.2.2
    refine ⟨_, ?_, IM_k (kp_back r2 f53) I3⟩
    simp (disch := omega) only [e_1264, x_1264, xs, hp, h1, bI_t, i10, g6, f53, cl_n]
    exact r1
  · have h1 := bnt h1
    refine ⟨rh (hsI h 44 12 0) 1, ?_, by rw [h1]; exact IM_rz (by decide) I2⟩
    simp only [e_1264, x_1264, xs, hp, h1, bI_f, i00, ltm, m_rf1 hW, Bool.false_eq_true, if_false]
