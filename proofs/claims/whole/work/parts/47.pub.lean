/-! THE REFERENCE: seeds -/
def cnF (w : Wo) (c : Nat) : Nat → Nat → Nat
  | 0, _ => 0
  | n + 1, s => (match stp w c s with | none => 0 | some _ => 1) + cnF w c n (s + 1)
def drF (w : Wo) (c : Nat) : Nat → Nat → Nat → Nat
  | 0, _, _ => c
  | n + 1, s, l => match stp w c s with
    | none => drF w c n (s + 1) l
    | some t => if l = 0 then t else drF w c n (s + 1) (l - 1)
def sdN (z : Int32) : Int32 := z * 1103515245 + 12345
def sdK (z : Int32) : Nat := (sdN z &&& 2147483647).toNatClampNeg / 65536
def sdF (w : Wo) : Nat → Int32 → Nat → Nat → Nat × Nat
  | 0, _, c, s => (c, s)
  | n + 1, z, c, s => sdF w n (sdN z) (drF w c 5 0 (sdK z % cnF w c 5 0)) (s ||| 2 ^ drF w c 5 0 (sdK z % cnF w c 5 0))
theorem cnF_le (w : Wo) (c : Nat) : ∀ n s, cnF w c n s ≤ n := by
  intro n
  induction n with
  | zero => intro s; exact Nat.le_refl _
  | succ n ih =>
    intro s
    unfold cnF
    have := ih (s + 1)
    split <;> omega
theorem cnF_pos {w : Wo} {c : Nat} (hc : fre w c = true) : ∀ n s, s + n = 5 → 0 < n → 0 < cnF w c n s := by
  intro n
  induction n with
  | zero => intro s _ h; omega
  | succ n ih =>
    intro s hs _
    unfold cnF
    by_cases h4 : s = 4
    · subst h4
      rw [stp_stay hc (Nat.le_refl 4)]
      simp only
      omega
    · have := ih (s + 1) (by omega) (by omega)
      omega
theorem drF_fre {w : Wo} {c : Nat} (hc : fre w c = true) : ∀ n s l, fre w (drF w c n s l) = true := by
  intro n
  induction n with
  | zero => intro s l; exact hc
  | succ n ih =>
    intro s l
    unfold drF
    cases hq : stp w c s with
    | none => exact ih _ _
    | some t =>
      simp only
      split
      · exact stp_fre hq
      · exact ih _ _
theorem and_mx (x : Int32) : ∃ k, k < 2 ^ 31 ∧ (x &&& 2147483647) = nI k := by
  refine ⟨(x &&& 2147483647).toBitVec.toNat, ?_, ?_⟩
  · rw [Int32.toBitVec_and, BitVec.toNat_and]
    exact Nat.and_lt_two_pow _ (by decide)
  · apply nl_bits
    have : (x &&& 2147483647).toBitVec.toNat < 2 ^ 31 := by
      rw [Int32.toBitVec_and, BitVec.toNat_and]
      exact Nat.and_lt_two_pow _ (by decide)
    rw [nl_tn (by omega)]
theorem m_sd_1 (d c : Nat) (w : Wo) (h : Hp) (hO : WOK d w) (hS : MS h w) (hc : c < w 0 0 * w 0 1) (l1 l2 l3 l4 l5 l6 l8 : Option AV) (x9 : Int32) : ∀ (n s a : Nat) (l12 l13 : Option AV), s + n = 5 → run 3 1265 89 [some (vo (some (44, 12, 0))), l1, l2, l3, l4, l5, l6, some (vi (nI c)), l8, some (vi x9), some (vi (nI a)), some (vi (nI s)), l12, l13] [] h = run 3 1265 122 [some (vo (some (44, 12, 0))), l1, l2, l3, l4, l5, l6, some (vi (nI c)), l8, some (vi x9), some (vi (nI (a + cnF w c n s))), some (vi (nI 5)), l12, l13] [] h := by
  intro n
  induction n with
  | zero =>
    intro s a l12 l13 hs
    have : s = 5 := by omega
    subst this
    rw [x_1265_89]
    simp (disch := omega) only [x_1265, xs, cz_5, Nat.le_refl]
    rfl
  | succ n ih =>
    intro s a l12 l13 hs
    have h5 : ¬ 5 ≤ s := by omega
    have hst := m_stepFrom c s h w d hS hO hc (by omega)
    rw [x_1265_89]
    unfold cnF
    cases hq : stp w c s with
    | none =>
      simp only
      rw [show a + (0 + cnF w c n (s + 1)) = a + cnF w c n (s + 1) by omega, ← ih (s + 1) a l12 l13 (by omega)]
      simp (disch := omega) only [x_1265, xs, cz_5, h5, hst, hq, oI_n, mm1, show nI a + 0 = nI a from nI_add a 0, nl_inc]
    | some t =>
      have := stp_lt hO hq
      simp only
      rw [show a + (1 + cnF w c n (s + 1)) = a + 1 + cnF w c n (s + 1) by omega, ← ih (s + 1) (a + 1) l12 l13 (by omega)]
      simp (disch := omega) only [x_1265, xs, cz_5, h5, hst, hq, oI_s, nl_g0, nl_inc]
theorem m_sd_2 (d c : Nat) (w : Wo) (h : Hp) (hO : WOK d w) (hS : MS h w) (hc : c < w 0 0 * w 0 1) (l1 l2 l3 l4 l5 l6 l8 l9 : Option AV) (x10 : Int32) : ∀ (n s l : Nat) (x12 : Int32), s + n = 5 → l < cnF w c n s → ∃ x13 : Int32, run 3 1265 155 [some (vo (some (44, 12, 0))), l1, l2, l3, l4, l5, l6, some (vi (nI c)), l8, l9, some (vi x10), some (vi (nI l)), some (vi x12), some (vi (nI s))] [] h = run 3 1265 197 [some (vo (some (44, 12, 0))), l1, l2, l3, l4, l5, l6, some (vi (nI c)), l8, l9, some (vi x10), some (vi (-1)), some (vi (nI (drF w c n s l))), some (vi x13)] [] h := by
  intro n
  induction n with
  | zero => intro s l x12 hs hl; exact absurd hl (by unfold cnF; omega)
  | succ n ih =>
    intro s l x12 hs hl
    have h5 : ¬ 5 ≤ s := by omega
    have hst := m_stepFrom c s h w d hS hO hc (by omega)
    have hcl := cnF_le w c (n + 1) s
    have hl31 : l < 2 ^ 30 := by omega
    unfold cnF at hl
    rw [x_1265_155]
    unfold drF
    cases hq : stp w c s with
    | none =>
      rw [hq] at hl
      simp only at hl ⊢
      obtain ⟨x13, r⟩ := ih (s + 1) l (-1) (by omega) (by omega)
      refine ⟨x13, ?_⟩
      rw [← r]
      simp (disch := omega) only [x_1265, xs, cz_5, h5, nl_l0, hst, hq, oI_n, mm1, show nI l - 0 = nI l by rw [show (0 : Int32) = nI 0 from rfl, pk_sub (by omega)]; rfl, nl_inc]
    | some t =>
      have ht := stp_lt hO hq
      rw [hq] at hl
      simp only at hl ⊢
      by_cases h0 : l = 0
      · rw [if_pos h0]
        subst h0
        refine ⟨nI (s + 1), ?_⟩
        simp (disch := omega) only [x_1265, xs, cz_5, h5, nl_l0, hst, hq, oI_s, nl_g0, show nI 0 - 1 = (-1 : Int32) from rfl, nl_inc]
        rw [x_1265_155]
        simp (disch := omega) only [x_1265, xs, cz_5, m10]
        split <;> rfl
      · rw [if_neg h0]
        obtain ⟨x13, r⟩ := ih (s + 1) (l - 1) (nI t) (by omega) (by omega)
        refine ⟨x13, ?_⟩
        rw [← r]
        simp (disch := omega) only [x_1265, xs, cz_5, h5, nl_l0, hst, hq, oI_s, nl_g0, show nI l - 1 = nI (l - 1) by rw [show (1 : Int32) = nI 1 from rfl, pk_sub (by omega)], nl_inc]
theorem m_sd_l (d N e : Nat) (w : Wo) (h : Hp) (hO : WOK d w) (hS : MS h w) (he : e ≤ 1) (hN : N < 2 ^ 31) (l1 l3 : Option AV) (x5 : Int32) : ∀ (n k c s : Nat) (z : Int32) (l10 l11 l12 l13 : Option AV), k + n = N → fre w c = true → s < 2 ^ 30 → run 3 1265 77 [some (vo (some (44, 12, 0))), l1, some (vi (nI N)), l3, some (vi (nI e)), some (vi x5), some (vi z), some (vi (nI c)), some (vi (nI s)), some (vi (nI k)), l10, l11, l12, l13] [] h = some (some (vi (nI (if e = 0 then (sdF w n z c s).1 else pop (sdF w n z c s).2))), h) := by
  have hcc := cells_le hO
  intro n
  induction n with
  | zero =>
    intro k c s z l10 l11 l12 l13 hk hc hs
    have : k = N := by omega
    subst this
    have hon := m_ones s (by omega) h
    rw [x_1265_77]
    unfold sdF
    rcases (show e = 0 ∨ e = 1 by omega) with rfl | rfl
    · simp (disch := omega) only [x_1265, xs, nl_le, Nat.le_refl, dz] <;> rfl
    · simp (disch := omega) only [x_1265, xs, nl_le, Nat.le_refl, dz, hon] <;> rfl
  | succ n ih =>
    intro k c s z l10 l11 l12 l13 hk hc hs
    have hk2 : ¬ N ≤ k := by omega
    have hc2 := fre_lt hc
    have c5 := cnF_le w c 5 0
    have cp := cnF_pos hc 5 0 rfl (by decide)
    obtain ⟨q, hq, hq2⟩ := and_mx (sdN z)
    have hK : sdK z = q / 65536 := by unfold sdK; rw [hq2, cl_n hq]
    have hm : q / 65536 % cnF w c 5 0 < cnF w c 5 0 := Nat.mod_lt _ cp
    have hfr := drF_fre hc 5 0 (sdK z % cnF w c 5 0)
    have hfl := fre_lt hfr
    have e0 : (some (vi (0 : Int32)) : Option AV) = some (vi (nI 0)) := rfl
    have hdv : nI q / 65536 = nI (q / 65536) := by rw [show (65536 : Int32) = nI 65536 from rfl, pk_div hq (by decide) (by decide)]
    have hz : ((65536 : Int32) = 0) = False := by simp only [eq_iff_iff, iff_false]; decide
    have hcn : ¬ nI (cnF w c 5 0) = 0 := by rw [nl_e0 (by omega)]; omega
    have hq3 : q / 65536 < 2 ^ 31 := Nat.lt_of_le_of_lt (Nat.div_le_self _ _) hq
    have r1 := m_sd_1 d c w h hO hS hc2 l1 (some (vi (nI N))) l3 (some (vi (nI e))) (some (vi x5)) (some (vi z)) (some (vi (nI s))) (nI k) 5 0 0 l12 l13 rfl
    obtain ⟨x13, r2⟩ := m_sd_2 d c w h hO hS hc2 l1 (some (vi (nI N))) l3 (some (vi (nI e))) (some (vi x5)) (some (vi (sdN z))) (some (vi (nI s))) (some (vi (nI k))) (nI (cnF w c 5 0)) 5 0 (q / 65536 % cnF w c 5 0) (-1) rfl hm
    rw [← hK] at r2
    have ht2 := p2_lt (show drF w c 5 0 (sdK z % cnF w c 5 0) < 30 by omega)
    unfold sdF
    rw [← ih (k + 1) (drF w c 5 0 (sdK z % cnF w c 5 0)) (s ||| 2 ^ drF w c 5 0 (sdK z % cnF w c 5 0)) (sdN z) (some (vi (nI (cnF w c 5 0)))) (some (vi (-1))) (some (vi (nI (drF w c 5 0 (sdK z % cnF w c 5 0))))) (some (vi x13)) (by omega) hfr (or_lt hs (by omega))]
    rw [x_1265_77]
    simp (disch := omega) only [x_1265, xs, nl_le, hk2]
    rw [e0, r1]
    rw [show 0 + cnF w c 5 0 = cnF w c 5 0 by omega]
    have hsd : z * 1103515245 + 12345 = sdN z := rfl
    simp (disch := omega) only [x_1265, xs, hsd, hq2, hz, hdv, hcn, pk_rem]
    rw [← hK, e0, r2]
    simp (disch := omega) only [x_1265, xs, nl_s1, nl_or, nl_inc]
def s_seeds (c n z x : Int32) (σ : St) : Int32 × St := if freI σ.1 c = true then (if n < nI 1 then (-4, rz σ 4) else if nI 60 < n then (-6, rz σ 6) else if x < 0 ∨ 1 < x then (-2, rz σ 2) else (nI (if x.toNatClampNeg = 0 then (sdF σ.1 n.toNatClampNeg z c.toNatClampNeg (2 ^ c.toNatClampNeg)).1 else pop (sdF σ.1 n.toNatClampNeg z c.toNatClampNeg (2 ^ c.toNatClampNeg)).2), σ)) else (-1, rz σ 1)
theorem p_seeds (c n z x : Int32) : Mok 1265 [c, n, z, x] (s_seeds c n z x) := by
  intro σ h I
  have I2 := IM_th I
  obtain ⟨hW, hS, hG, -⟩ := id I2
  have hf := m_isFree c _ _ _ hS hG.1
  unfold s_seeds
  simp only [List.map]
  by_cases h1 : freI σ.1 c = true
  · rw [if_pos h1]
    obtain ⟨k, rfl, hk, hk30⟩ := freI_of hG.1 h1
    have hwd : call 1239 [vi n, vi 1, vi 60] (hsI h 44 12 0) = some (some (vi (wdI n (nI 1) (nI 60))), hsI h 44 12 0) := m_wd n 1 60 _
    rcases wd_3 n 1 60 (by decide) (by decide) with ⟨a, b⟩ | ⟨a, b, c⟩ | ⟨a, b, c, j, rfl, -, hj⟩
    · rw [if_pos a]
      refine ⟨rh (hsI h 44 12 0) 4, ?_, IM_rz (by decide) I2⟩
      simp only [e_1265, x_1265, xs, hf, h1, bI_t, i10, hwd, b, ltm, m_rf4 hW]
    · rw [if_neg a, if_pos b]
      refine ⟨rh (hsI h 44 12 0) 6, ?_, IM_rz (by decide) I2⟩
      simp only [e_1265, x_1265, xs, hf, h1, bI_t, i10, hwd, c, ltm, m_rf6 hW]
    · rw [if_neg a, if_neg b]
      by_cases h2 : x < 0 ∨ 1 < x
      · rw [if_pos h2]
        refine ⟨rh (hsI h 44 12 0) 2, ?_, IM_rz (by decide) I2⟩
        simp only [e_1265, x_1265, xs, hf, h1, bI_t, i10, hwd, c, ltm, m_in01, in1_f h2, decide_false, bI_f, i00, m_rf2 hW]
      · rw [if_neg h2]
        obtain ⟨h3, e, rfl, he⟩ := in1_t h2
        have ht2 := p2_lt hk30
        have r := m_sd_l 60 j e σ.1 _ hG.1 hS he (by omega) (some (vi (nI k))) (some (vi z)) 0 j 0 k (2 ^ k) z none none none none (by omega) hk ht2
        refine ⟨_, ?_, I2⟩
        have e0 : (some (vi (0 : Int32)) : Option AV) = some (vi (nI 0)) := rfl
        simp (disch := omega) only [cl_n]
        simp (disch := omega) only [e_1265, x_1265, xs, hf, h1, bI_t, i10, hwd, c, ltm, m_in01, h3, and_self, decide_true, nl_s1]
        exact r
  · have h1 := bnt h1
    refine ⟨rh (hsI h 44 12 0) 1, ?_, by rw [h1]; exact IM_rz (by decide) I2⟩
    simp only [e_1265, x_1265, xs, hf, h1, bI_f, i00, ltm, m_rf1 hW, Bool.false_eq_true, if_false]
