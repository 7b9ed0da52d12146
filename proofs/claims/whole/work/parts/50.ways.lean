/-! THE REFERENCE: the latest sight, fits, ways back, guess -/
def ltF (m : Wo) : Nat → Nat → Nat → Nat
  | 0, _, a => a
  | n + 1, i, a => ltF m n (i + 1) (if a < m 2 i then m 2 i else a)
def lat (m : Wo) : Nat := ltF m (m 0 2) 0 0
theorem ltF_le {h : Hp} {m : Wo} (hg : SG h m) : ∀ n i a, i + n = m 0 2 → a ≤ 10 → ltF m n i a ≤ 10 := by
  intro n
  induction n with
  | zero => intro i a _ ha; exact ha
  | succ n ih =>
    intro i a hi ha
    have := (hg.2.2 i (by omega)).2.1
    unfold ltF
    refine ih _ _ (by omega) ?_
    split <;> omega
theorem lat_le {h : Hp} {m : Wo} (hg : SG h m) : lat m ≤ 10 := ltF_le hg _ _ _ (by omega) (by omega)
theorem m_latest_l (m : Wo) (h : Hp) (hW : MW h) (hg : SG h m) : ∀ (n i a : Nat), i + n = m 0 2 → a ≤ 10 → run 0 1253 4 [some (vo (some (44, 12, 0))), some (vi (nI a)), some (vi (nI i))] [] h = some (some (vi (nI (ltF m n i a))), h) := by
  obtain ⟨g1, g2, g3⟩ := hg
  have w34 : hR h 44 34 = some (64, 13, 6) := hW.2.2.2.2.2.2.2.2.2.2.2.2.2.2.2.2.2.2.2.1
  intro n
  induction n with
  | zero =>
    intro i a hi ha
    have : i = m 0 2 := by omega
    subst this
    rw [x_1253_4]
    simp (disch := omega) only [x_1253, xs, g2, nl_le, Nat.le_refl]
    rfl
  | succ n ih =>
    intro i a hi ha
    have hi2 : ¬ m 0 2 ≤ i := by omega
    obtain ⟨⟨e1, e2⟩, e3, e4⟩ := g3 i (by omega)
    rw [x_1253_4]
    unfold ltF
    by_cases hl : a < m 2 i
    · have hl2 : ¬ m 2 i ≤ a := by omega
      rw [if_pos hl, ← ih (i + 1) _ (by omega) (by omega)]
      simp (disch := omega) only [x_1253, xs, g2, nl_le, hi2, w34, ↓ib_n, cl_n, e1, hl2, nl_inc]
    · have hl2 : m 2 i ≤ a := by omega
      rw [if_neg hl, ← ih (i + 1) _ (by omega) (by omega)]
      simp (disch := omega) only [x_1253, xs, g2, nl_le, hi2, w34, ↓ib_n, cl_n, e1, eq_true hl2, nl_inc]
theorem m_latest (m : Wo) (h : Hp) (hW : MW h) (hg : SG h m) : call 1253 [vo (some (44, 12, 0))] h = some (some (vi (nI (lat m))), h) := by
  simp only [e_1253, x_1253, xs]
  exact m_latest_l m h hW hg (m 0 2) 0 0 (by omega) (by omega)
def fsF (f : Nat → Nat) : Nat → Nat → Nat → Nat
  | 0, _, a => a
  | n + 1, c, a => fsF f n (c + 1) (a + f c)
theorem m_fits_l (d N : Nat) (w : Wo) (h : Hp) (F : Nat → Nat) (hO : WOK d w) (hW : MW h) (hS : MS h w) (hN : N ≤ 10) (hF : ∀ t, t < w 0 0 * w 0 1 → hI h 62 (30 * N + t) = nI (F t)) (l1 : Option AV) : ∀ (n c a : Nat), c + n = w 0 0 * w 0 1 → run 4 1254 36 [some (vo (some (44, 12, 0))), l1, some (vi (nI N)), some (vi (nI a)), some (vi (nI c))] [] h = some (some (vi (nI (fsF F n c a))), h) := by
  have hcc := cells_le hO
  obtain ⟨f0, f1, -⟩ := hS.1
  have w32 : hR h 44 32 = some (62, 13, 330) := hW.2.2.2.2.2.2.2.2.2.2.2.2.2.2.2.2.2.1
  intro n
  induction n with
  | zero =>
    intro c a hc
    have : c = w 0 0 * w 0 1 := by omega
    subst this
    rw [x_1254_36]
    simp (disch := omega) only [x_1254, xs, f0, f1, pk_mul, nl_le, Nat.le_refl]
    rfl
  | succ n ih =>
    intro c a hc
    have hc2 : ¬ w 0 0 * w 0 1 ≤ c := by omega
    have hf := hF c (by omega)
    rw [x_1254_36]
    unfold fsF
    rw [← ih (c + 1) _ (by omega)]
    simp (disch := omega) only [x_1254, xs, f0, f1, pk_mul, nl_le, hc2, w32, e30, nI_add, ↓ib_n, cl_n, hf, nl_inc]
def s_fits (a : Int32) (σ : St) : Int32 × St := if freI σ.1 a = true then (nI (fsF (wyF σ.1 (sn1 σ.2.2) a.toNatClampNeg (lat σ.2.2)) (σ.1 0 0 * σ.1 0 1) 0 0), σ) else (-1, rz σ 1)
theorem p_fits (a : Int32) : Mok 1254 [a] (s_fits a) := by
  intro σ h I
  have I2 := IM_th I
  obtain ⟨hW, hS, hG, -⟩ := id I2
  have hg := IM_SG I2
  have hcc := cells_le hG.1
  have hf := m_isFree a _ _ _ hS hG.1
  have hl := m_latest _ _ hW hg
  have hle := lat_le hg
  unfold s_fits
  simp only [List.map]
  by_cases h1 : freI σ.1 a = true
  · rw [if_pos h1]
    obtain ⟨k, rfl, hk, hk30⟩ := freI_of hG.1 h1
    obtain ⟨h2, r, J1, J2⟩ := m_countWays 60 k (lat σ.2.2) σ.1 σ.2.2 _ true hG.1 (by decide) hW hS hg hk30 hle
    rw [snb_t] at J2
    have r' : call 1249 [vo (some (44, 12, 0)), vi (nI k), vi (nI (lat σ.2.2)), vi 1] (hsI h 44 12 0) = some (none, h2) := r
    have q := m_fits_l 60 (lat σ.2.2) σ.1 h2 _ hG.1 (MW_k J1 hW) (MS_o hG.1 (by decide) (fun i j z => by unfold wS62 at z; omega) J1 hS) hle (fun t ht => J2 _ t ht (Or.inl (by omega))) (some (vi (nI k))) (σ.1 0 0 * σ.1 0 1) 0 0 (by omega)
    refine ⟨_, ?_, IM_k (kp_m J1 sc_62) I2⟩
    simp (disch := omega) only [e_1254, x_1254, xs, hf, h1, bI_t, i10, hl, r', cl_n]
    exact q
  · have h1 := bnt h1
    refine ⟨rh (hsI h 44 12 0) 1, ?_, by rw [h1]; exact IM_rz (by decide) I2⟩
    simp only [e_1254, x_1254, xs, hf, h1, bI_f, i00, ltm, m_rf1 hW, Bool.false_eq_true, if_false]
theorem m_cb_s (d k N c : Nat) (w : Wo) (h : Hp) (F : Nat → Nat) (hO : WOK d w) (hW : MW h) (hS : MS h w) (hc : fre w c = true) (hk : k < N) (hN : N ≤ 10) (hF : ∀ t, t < w 0 0 * w 0 1 → hI h 63 (30 * (k + 1) + t) = nI (F t)) (l2 : Option AV) : ∀ (n s a : Nat) (l7 : Option AV), s + n = 5 → ∃ l10 : Option AV, run 3 1250 49 [some (vo (some (44, 12, 0))), some (vi (nI N)), l2, some (vi (nI k)), some (vi (nI c)), some (vi (nI a)), some (vi (nI s)), l7] [] h = run 3 1250 113 [some (vo (some (44, 12, 0))), some (vi (nI N)), l2, some (vi (nI k)), some (vi (nI c)), some (vi (nI (wyS w F c n s a))), some (vi (nI 5)), l10] [] h := by
  have hcc := cells_le hO
  have hc2 := fre_lt hc
  have hfr : freI w (nI c) = true := by rw [freI_n hO (by omega)]; exact hc
  have hf := m_isFree (nI c) h w d hS hO
  have w33 : hR h 44 33 = some (63, 13, 330) := hW.2.2.2.2.2.2.2.2.2.2.2.2.2.2.2.2.2.2.1
  have hk0 : ¬ N ≤ k := by omega
  intro n
  induction n with
  | zero =>
    intro s a l9 hs
    have : s = 5 := by omega
    subst this
    refine ⟨l9, ?_⟩
    rw [x_1250_49]
    simp (disch := omega) only [x_1250, xs, cz_5, Nat.le_refl]
    rfl
  | succ n ih =>
    intro s a l9 hs
    have h5 : ¬ 5 ≤ s := by omega
    have hst := m_stepFrom c s h w d hS hO hc2 (by omega)
    rw [x_1250_49]
    unfold wyS
    cases hq : stp w c s with
    | none =>
      obtain ⟨l10, r⟩ := ih (s + 1) a (some (vi (-1))) (by omega)
      refine ⟨l10, ?_⟩
      simp only [Nat.add_zero]
      rw [← r]
      simp (disch := omega) only [x_1250, xs, cz_5, h5, nl_le, hk0, hf, hfr, bI_t, i10, hst, hq, oI_n, mm1, show nI a + 0 = nI a from nI_add a 0, nl_inc]
    | some t =>
      have ht := stp_lt hO hq
      have ht2 := hF t (fre_lt (stp_fre hq))
      obtain ⟨l10, r⟩ := ih (s + 1) (a + F t) (some (vi (nI t))) (by omega)
      refine ⟨l10, ?_⟩
      simp only
      rw [← r]
      simp (disch := omega) only [x_1250, xs, cz_5, h5, nl_le, hk0, hf, hfr, bI_t, i10, hst, hq, oI_s, nl_g0, w33, nl_inc, e30, nI_add, ↓ib_n, cl_n, ht2]
def bv (w : Wo) (sn : Nat → Nat → Bool) (N : Nat) : Nat → Nat → Nat
  | 0, c => if fre w c = true then 1 else 0
  | j + 1, c => if fre w c = true then wyS w (bkF w sn N j) c 5 0 0 else 0
theorem bv_0 (w : Wo) (sn : Nat → Nat → Bool) (N c : Nat) : bv w sn N 0 c = if fre w c = true then 1 else 0 := rfl
theorem bv_s (w : Wo) (sn : Nat → Nat → Bool) (N j c : Nat) : bv w sn N (j + 1) c = if fre w c = true then wyS w (bkF w sn N j) c 5 0 0 else 0 := rfl
theorem bkF_v (w : Wo) (sn : Nat → Nat → Bool) (N j c : Nat) : bkF w sn N j c = if sn (N - j) c = true then bv w sn N j c else 0 := by
  cases j <;> rfl
theorem m_cb_v (d j N c : Nat) (w : Wo) (h : Hp) (sn : Nat → Nat → Bool) (hO : WOK d w) (hW : MW h) (hS : MS h w) (hc : c < w 0 0 * w 0 1) (hj : j ≤ N) (hN : N ≤ 10) (hF : ∀ j2 t, j2 < j → t < w 0 0 * w 0 1 → hI h 63 (30 * (N - j2) + t) = nI (bkF w sn N j2 t)) (l2 l5 l6 l7 : Option AV) : ∃ l10 l11 : Option AV, run 3 1250 25 [some (vo (some (44, 12, 0))), some (vi (nI N)), l2, some (vi (nI (N - j))), some (vi (nI c)), l5, l6, l7] [] h = run 3 1250 113 [some (vo (some (44, 12, 0))), some (vi (nI N)), l2, some (vi (nI (N - j))), some (vi (nI c)), some (vi (nI (bv w sn N j c))), l10, l11] [] h := by
  have hcc := cells_le hO
  have hff := m_isFree (nI c) h w d hS hO
  rw [freI_n hO (by omega)] at hff
  have z5 : ((5 : Int32) ≤ 0) = False := by simp only [eq_iff_iff, iff_false]; decide
  cases j with
  | zero =>
    refine ⟨some (vi 0), l7, ?_⟩
    rw [bv_0, Nat.sub_zero]
    cases hf : fre w c with
    | true =>
      simp (disch := omega) only [x_1250, xs, nl_eq, hff, hf, bI_t, i10]
      rw [x_1250_49]
      simp (disch := omega) only [x_1250, xs, z5, nl_le, Nat.le_refl]
      rfl
    | false =>
      simp (disch := omega) only [x_1250, xs, nl_eq, hff, hf, bI_f, i00]
      rw [x_1250_49]
      simp (disch := omega) only [x_1250, xs, z5, nl_le, Nat.le_refl, Bool.false_eq_true]
      rfl
  | succ j =>
    have kn : ¬ N - (j + 1) = N := by omega
    have kN : ¬ N ≤ N - (j + 1) := by omega
    rw [bv_s]
    by_cases hf : fre w c = true
    · rw [if_pos hf]
      obtain ⟨l10, r⟩ := m_cb_s d (N - (j + 1)) N c w h (bkF w sn N j) hO hW hS hf (by omega) hN (fun t ht => by rw [show N - (j + 1) + 1 = N - j by omega]; exact hF j t (by omega) ht) l2 5 0 0 l7 rfl
      refine ⟨some (vi (nI 5)), l10, Eq.trans ?_ r⟩
      simp (disch := omega) only [x_1250, xs, nl_eq, kn]
      rfl
    · rw [if_neg hf]
      have hfI := bnt hf
      refine ⟨some (vi 0), l7, ?_⟩
      simp (disch := omega) only [x_1250, xs, nl_eq, kn]
      rw [x_1250_49]
      simp (disch := omega) only [x_1250, xs, z5, nl_le, kN, hff, hfI, bI_f, i00]
      rfl
def BI (w : Wo) (sn : Nat → Nat → Bool) (N : Nat) (h : Hp) (j c : Nat) (hh : Hp) : Prop := kp wS63 h hh ∧ ∀ j2 c2, c2 < w 0 0 * w 0 1 → j2 ≤ N → (j2 < j ∨ (j2 = j ∧ c2 < c)) → hI hh 63 (30 * (N - j2) + c2) = nI (bkF w sn N j2 c2)
theorem m_cb_c (d N : Nat) (w m : Wo) (h : Hp) (hO : WOK d w) (hd : d ≤ 129) (hW : MW h) (hS : MS h w) (hg : SG h m) (hN : N ≤ 10) (j : Nat) (hj : j ≤ N) : ∀ (n c : Nat) (hh : Hp) (l5 l6 l7 : Option AV), c + n = w 0 0 * w 0 1 → BI w (sn1 m) N h j c hh → ∃ (h2 : Hp) (l10 l11 l12 : Option AV), run 3 1250 19 [some (vo (some (44, 12, 0))), some (vi (nI N)), some (vi (nI (w 0 0 * w 0 1))), some (vi (nI (N - j))), some (vi (nI c)), l5, l6, l7] [] hh = run 3 1250 148 [some (vo (some (44, 12, 0))), some (vi (nI N)), some (vi (nI (w 0 0 * w 0 1))), some (vi (nI (N - j))), some (vi (nI (w 0 0 * w 0 1))), l10, l11, l12] [] h2 ∧ BI w (sn1 m) N h (j + 1) 0 h2 := by
  have hcc := cells_le hO
  intro n
  induction n with
  | zero =>
    intro c hh l5 l6 l7 hc I
    have : c = w 0 0 * w 0 1 := by omega
    subst this
    refine ⟨hh, l5, l6, l7, ?_, I.1, fun k2 c2 h1 h3 h2 => I.2 k2 c2 h1 h3 (by omega)⟩
    rw [x_1250_19]
    simp (disch := omega) only [x_1250, xs, nl_le, Nat.le_refl]
  | succ n ih =>
    intro c hh l5 l6 l7 hc I
    have hc2 : ¬ w 0 0 * w 0 1 ≤ c := by omega
    have hW1 := MW_k I.1 hW
    have hS1 := MS_o hO hd (fun i j z => by unfold wS63 at z; omega) I.1 hS
    have hg1 := SG_o (fun i j z => by unfold wS63 at z; omega) I.1 hg
    obtain ⟨l10, l11, r⟩ := m_cb_v d j N c w hh (sn1 m) hO hW1 hS1 (by omega) hj hN (fun k2 t h1 h2 => I.2 k2 t h2 (by omega) (Or.inl h1)) (some (vi (nI (w 0 0 * w 0 1)))) l5 l6 l7
    have hsn : call 1248 [vo (some (44, 12, 0)), vi (nI (N - j)), vi (nI c), vi 1] hh = some (some (vi (bI (sn1 m (N - j) c))), hh) := m_isSeen m hh hW1 hg1 (N - j) c (by omega) (by omega) true
    have w33 : hR hh 44 33 = some (63, 13, 330) := hW1.2.2.2.2.2.2.2.2.2.2.2.2.2.2.2.2.2.2.1
    have J : BI w (sn1 m) N h j (c + 1) (hsI hh 63 (30 * (N - j) + c) (nI (bkF w (sn1 m) N j c))) := by
      refine ⟨kp_t I.1 (kp_I rfl), fun k2 c2 h1 h3 h2 => ?_⟩
      rw [hI_s]
      split
      · rename_i e
        have e1 : k2 = j := by omega
        have e2 : c2 = c := by omega
        rw [e1, e2]
      · exact I.2 k2 c2 h1 h3 (by omega)
    obtain ⟨h2, l13, l14, l15, r2, J2⟩ := ih (c + 1) _ (some (vi (nI (bv w (sn1 m) N j c)))) l10 l11 (by omega) J
    refine ⟨h2, l13, l14, l15, ?_, J2⟩
    have s0 : run 3 1250 21 [some (vo (some (44, 12, 0))), some (vi (nI N)), some (vi (nI (w 0 0 * w 0 1))), some (vi (nI (N - j))), some (vi (nI c)), l5, l6, l7] [vi (nI c)] hh = run 3 1250 113 [some (vo (some (44, 12, 0))), some (vi (nI N)), some (vi (nI (w 0 0 * w 0 1))), some (vi (nI (N - j))), some (vi (nI c)), some (vi (nI (bv w (sn1 m) N j c))), l10, l11] [] hh := by
      rw [← r]
      simp (disch := omega) only [x_1250, xs, nl_le, hc2]
    rw [x_1250_19, s0, ← r2, bkF_v]
    cases hs : sn1 m (N - j) c with
    | true => simp (disch := omega) only [x_1250, xs, w33, e30, nI_add, hsn, hs, bI_t, i10, ↓ib_n, cl_n, nl_inc]
    | false =>
      simp (disch := omega) only [x_1250, xs, w33, e30, nI_add, hsn, hs, bI_f, i00, ↓ib_n, cl_n, nl_inc, Bool.false_eq_true]
      rfl
theorem m_cb_k (d N : Nat) (w m : Wo) (h : Hp) (hO : WOK d w) (hd : d ≤ 129) (hW : MW h) (hS : MS h w) (hg : SG h m) (hN : N ≤ 10) : ∀ (n j : Nat) (hh : Hp) (l4 l5 l6 l7 : Option AV), j + n = N → BI w (sn1 m) N h j 0 hh → ∃ h2 : Hp, run 3 1250 12 [some (vo (some (44, 12, 0))), some (vi (nI N)), some (vi (nI (w 0 0 * w 0 1))), some (vi (nI (N - j))), l4, l5, l6, l7] [] hh = some (none, h2) ∧ BI w (sn1 m) N h (N + 1) 0 h2 := by
  intro n
  induction n with
  | zero =>
    intro j hh l4 l5 l6 l7 hj I
    have : j = N := by omega
    subst this
    have e0 : (some (vi (0 : Int32)) : Option AV) = some (vi (nI 0)) := rfl
    obtain ⟨h1, l10, l11, l12, r, J⟩ := m_cb_c d j w m h hO hd hW hS hg hN j (by omega) (w 0 0 * w 0 1) 0 hh l5 l6 l7 (by omega) I
    refine ⟨h1, ?_, J⟩
    rw [x_1250_12]
    simp (disch := omega) only [x_1250, xs, nl_l0]
    rw [e0, r]
    simp (disch := omega) only [x_1250, xs, Nat.sub_self]
    rw [x_1250_12]
    simp (disch := omega) only [x_1250, xs, show (nI 0 + -1 < 0) = True by simp only [eq_iff_iff, iff_true]; decide]
  | succ n ih =>
    intro j hh l4 l5 l6 l7 hj I
    have e0 : (some (vi (0 : Int32)) : Option AV) = some (vi (nI 0)) := rfl
    obtain ⟨h1, l10, l11, l12, r, J⟩ := m_cb_c d N w m h hO hd hW hS hg hN j (by omega) (w 0 0 * w 0 1) 0 hh l5 l6 l7 (by omega) I
    obtain ⟨h2, r2, J2⟩ := ih (j + 1) h1 (some (vi (nI (w 0 0 * w 0 1)))) l10 l11 l12 (by omega) J
    refine ⟨h2, ?_, J2⟩
    have em : nI (N - j) + -1 = nI (N - (j + 1)) := by
      rw [← Int32.sub_eq_add_neg, show (1 : Int32) = nI 1 from rfl, pk_sub (by omega)]
      congr 1
    rw [x_1250_12, ← r2]
    simp (disch := omega) only [x_1250, xs, nl_l0]
    rw [e0, r]
    simp (disch := omega) only [x_1250, xs, em]
theorem m_countBack (d N : Nat) (w m : Wo) (h : Hp) (hO : WOK d w) (hd : d ≤ 129) (hW : MW h) (hS : MS h w) (hg : SG h m) (hN : N ≤ 10) : ∃ h2 : Hp, call 1250 [vo (some (44, 12, 0)), vi (nI N)] h = some (none, h2) ∧ BI w (sn1 m) N h (N + 1) 0 h2 := by
  obtain ⟨f0, f1, -⟩ := hS.1
  obtain ⟨h2, r, J⟩ := m_cb_k d N w m h hO hd hW hS hg hN N 0 h none none none none (by omega) ⟨kp_r _ _, fun k2 c2 _ _ z => absurd z (by omega)⟩
  refine ⟨h2, ?_, J⟩
  simp (disch := omega) only [e_1250, x_1250, xs, f0, f1, pk_mul]
  exact r
