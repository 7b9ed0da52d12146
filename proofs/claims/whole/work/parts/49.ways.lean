/-! THE REFERENCE: ways counted -/
def wS62 (i _ : Nat) : Prop := i = 62
def wS63 (i _ : Nat) : Prop := i = 63
theorem e30 (k : Nat) : (30 : Int32) * nI k = nI (30 * k) := by rw [show (30 : Int32) = nI 30 from rfl, pk_mul]
theorem MS_o {S : Nat → Nat → Prop} {h h2 : Hp} {w : Wo} {d : Nat} (hk : WOK d w) (hd : d ≤ 129) (hs : ∀ i j, S i j → 51 ≤ i) (a : kp S h h2) (hS : MS h w) : MS h2 w := by
  have un : ∀ i j, i ≤ 50 → hI h2 i j = hI h i j := fun i j hi => a.2.2 i j (fun z => by have := hs i j z; omega)
  exact MSg_d hk hd hS (fun j _ => un _ _ (by decide)) (fun p _ => ⟨un _ _ (by decide), un _ _ (by decide), un _ _ (by decide), un _ _ (by decide)⟩) (fun i _ => un _ _ (by decide)) (fun j _ => un _ _ (by decide))
theorem SG_o {S : Nat → Nat → Prop} {h h2 : Hp} {m : Wo} (hs : ∀ i j, S i j → i ≠ 44 ∧ i ≠ 64 ∧ i ≠ 65) (a : kp S h h2) (g : SG h m) : SG h2 m := by
  obtain ⟨g1, g2, g3⟩ := g
  refine ⟨g1, by rw [a.2.2 _ _ (fun z => (hs _ _ z).1 rfl)]; exact g2, fun i hi => ?_⟩
  rw [a.2.2 64 _ (fun z => (hs _ _ z).2.1 rfl), a.2.2 65 _ (fun z => (hs _ _ z).2.2 rfl)]
  exact g3 i hi
theorem m_cw_s (d k c : Nat) (w : Wo) (h : Hp) (F : Nat → Nat) (hO : WOK d w) (hW : MW h) (hS : MS h w) (hc : fre w c = true) (hk : k ≤ 9) (hF : ∀ t, t < w 0 0 * w 0 1 → hI h 62 (30 * k + t) = nI (F t)) (l1 l2 l3 l4 : Option AV) : ∀ (n s a : Nat) (l9 : Option AV), s + n = 5 → ∃ l10 : Option AV, run 3 1249 51 [some (vo (some (44, 12, 0))), l1, l2, l3, l4, some (vi (nI (k + 1))), some (vi (nI c)), some (vi (nI a)), some (vi (nI s)), l9] [] h = run 3 1249 116 [some (vo (some (44, 12, 0))), l1, l2, l3, l4, some (vi (nI (k + 1))), some (vi (nI c)), some (vi (nI (wyS w F c n s a))), some (vi (nI 5)), l10] [] h := by
  have hcc := cells_le hO
  have hc2 := fre_lt hc
  have hfr : freI w (nI c) = true := by rw [freI_n hO (by omega)]; exact hc
  have hf := m_isFree (nI c) h w d hS hO
  have w32 : hR h 44 32 = some (62, 13, 330) := hW.2.2.2.2.2.2.2.2.2.2.2.2.2.2.2.2.2.1
  have ek : nI (k + 1) - 1 = nI k := by rw [show (1 : Int32) = nI 1 from rfl, pk_sub (by omega)]; rfl
  have hk0 : ¬ k + 1 ≤ 0 := by omega
  have k0 : (nI (k + 1) ≤ 0) = (k + 1 ≤ 0) := nl_le (by omega) (by decide)
  intro n
  induction n with
  | zero =>
    intro s a l9 hs
    have : s = 5 := by omega
    subst this
    refine ⟨l9, ?_⟩
    rw [x_1249_51]
    simp (disch := omega) only [x_1249, xs, cz_5, Nat.le_refl]
    rfl
  | succ n ih =>
    intro s a l9 hs
    have h5 : ¬ 5 ≤ s := by omega
    have hst := m_stepFrom c s h w d hS hO hc2 (by omega)
    rw [x_1249_51]
    unfold wyS
    cases hq : stp w c s with
    | none =>
      obtain ⟨l10, r⟩ := ih (s + 1) a (some (vi (-1))) (by omega)
      refine ⟨l10, ?_⟩
      simp only [Nat.add_zero]
      rw [← r]
      simp (disch := omega) only [x_1249, xs, cz_5, h5, k0, hk0, hf, hfr, bI_t, i10, hst, hq, oI_n, mm1, show nI a + 0 = nI a from nI_add a 0, nl_inc]
    | some t =>
      have ht := stp_lt hO hq
      have ht2 := hF t (fre_lt (stp_fre hq))
      obtain ⟨l10, r⟩ := ih (s + 1) (a + F t) (some (vi (nI t))) (by omega)
      refine ⟨l10, ?_⟩
      simp only
      rw [← r]
      simp (disch := omega) only [x_1249, xs, cz_5, h5, k0, hk0, hf, hfr, bI_t, i10, hst, hq, oI_s, nl_g0, w32, ek, e30, nI_add, ↓ib_n, cl_n, ht2, nl_inc]
/-- before the sights are asked -/
def wv (w : Wo) (sn : Nat → Nat → Bool) (fr : Nat) : Nat → Nat → Nat
  | 0, c => if c = fr then 1 else 0
  | k + 1, c => if fre w c = true then wyS w (wyF w sn fr k) c 5 0 0 else 0
theorem wv_0 (w : Wo) (sn : Nat → Nat → Bool) (fr c : Nat) : wv w sn fr 0 c = if c = fr then 1 else 0 := rfl
theorem wv_s (w : Wo) (sn : Nat → Nat → Bool) (fr k c : Nat) : wv w sn fr (k + 1) c = if fre w c = true then wyS w (wyF w sn fr k) c 5 0 0 else 0 := rfl
theorem wyF_v (w : Wo) (sn : Nat → Nat → Bool) (fr k c : Nat) : wyF w sn fr k c = if sn k c = true then wv w sn fr k c else 0 := by
  cases k <;> rfl
def snb (m : Wo) (b : Bool) (k c : Nat) : Bool := if b = true then sn1 m k c else true
theorem m_cw_v (d k c fr : Nat) (w : Wo) (h : Hp) (sn : Nat → Nat → Bool) (hO : WOK d w) (hW : MW h) (hS : MS h w) (hc : c < w 0 0 * w 0 1) (hk : k ≤ 10) (hfr : fr < 30) (hF : ∀ k2 t, k2 < k → t < w 0 0 * w 0 1 → hI h 62 (30 * k2 + t) = nI (wyF w sn fr k2 t)) (l2 l3 l4 l7 l8 l9 : Option AV) : ∃ l10 l11 : Option AV, run 3 1249 30 [some (vo (some (44, 12, 0))), some (vi (nI fr)), l2, l3, l4, some (vi (nI k)), some (vi (nI c)), l7, l8, l9] [] h = run 3 1249 116 [some (vo (some (44, 12, 0))), some (vi (nI fr)), l2, l3, l4, some (vi (nI k)), some (vi (nI c)), some (vi (nI (wv w sn fr k c))), l10, l11] [] h := by
  have hcc := cells_le hO
  have e0 : (some (vi (0 : Int32)) : Option AV) = some (vi (nI 0)) := rfl
  have e1 : (some (vi (1 : Int32)) : Option AV) = some (vi (nI 1)) := rfl
  cases k with
  | zero =>
    refine ⟨some (vi 0), l9, ?_⟩
    have k0 : (nI 0 ≤ 0) = True := by simp only [eq_iff_iff, iff_true]; decide
    have z5 : ((5 : Int32) ≤ 0) = False := by simp only [eq_iff_iff, iff_false]; decide
    rw [wv_0]
    by_cases e : c = fr
    · rw [if_pos e]
      simp (disch := omega) only [x_1249, xs, dz, nl_eq, eq_true e]
      rw [x_1249_51]
      simp (disch := omega) only [x_1249, xs, z5, k0]
      rfl
    · rw [if_neg e]
      simp (disch := omega) only [x_1249, xs, dz, nl_eq, e]
      rw [x_1249_51]
      simp (disch := omega) only [x_1249, xs, z5, k0]
      rfl
  | succ k =>
    have kn : ¬ k + 1 = 0 := by omega
    rw [wv_s]
    by_cases hf : fre w c = true
    · rw [if_pos hf]
      obtain ⟨l10, r⟩ := m_cw_s d k c w h (wyF w sn fr k) hO hW hS hf (by omega) (fun t ht => hF k t (by omega) ht) (some (vi (nI fr))) l2 l3 l4 5 0 0 l9 rfl
      refine ⟨some (vi (nI 5)), l10, Eq.trans ?_ r⟩
      simp (disch := omega) only [x_1249, xs, nl_e0, kn]
      rfl
    · rw [if_neg hf]
      have hfI : freI w (nI c) = false := by rw [freI_n hO (by omega)]; exact bnt hf
      have hff := m_isFree (nI c) h w d hS hO
      have k0 : (nI (k + 1) ≤ 0) = (k + 1 ≤ 0) := nl_le (by omega) (by decide)
      have hk0 : ¬ k + 1 ≤ 0 := by omega
      have z5 : ((5 : Int32) ≤ 0) = False := by simp only [eq_iff_iff, iff_false]; decide
      refine ⟨some (vi 0), l9, ?_⟩
      simp (disch := omega) only [x_1249, xs, nl_e0, kn]
      rw [x_1249_51]
      simp (disch := omega) only [x_1249, xs, z5, k0, hk0, hff, hfI, bI_f, i00]
      rfl
/-- what is counted so far -/
def WI (w : Wo) (sn : Nat → Nat → Bool) (fr : Nat) (h : Hp) (k c : Nat) (hh : Hp) : Prop := kp wS62 h hh ∧ ∀ k2 c2, c2 < w 0 0 * w 0 1 → (k2 < k ∨ (k2 = k ∧ c2 < c)) → hI hh 62 (30 * k2 + c2) = nI (wyF w sn fr k2 c2)
theorem m_cw_c (d fr N : Nat) (w m : Wo) (h : Hp) (b : Bool) (hO : WOK d w) (hd : d ≤ 129) (hW : MW h) (hS : MS h w) (hg : SG h m) (hfr : fr < 30) (k : Nat) (hk : k ≤ 10) : ∀ (n c : Nat) (hh : Hp) (l7 l8 l9 : Option AV), c + n = w 0 0 * w 0 1 → WI w (snb m b) fr h k c hh → ∃ (h2 : Hp) (l10 l11 l12 : Option AV), run 3 1249 23 [some (vo (some (44, 12, 0))), some (vi (nI fr)), some (vi (nI N)), some (vi (bI b)), some (vi (nI (w 0 0 * w 0 1))), some (vi (nI k)), some (vi (nI c)), l7, l8, l9] [] hh = run 3 1249 153 [some (vo (some (44, 12, 0))), some (vi (nI fr)), some (vi (nI N)), some (vi (bI b)), some (vi (nI (w 0 0 * w 0 1))), some (vi (nI k)), some (vi (nI (w 0 0 * w 0 1))), l10, l11, l12] [] h2 ∧ WI w (snb m b) fr h (k + 1) 0 h2 := by
  have hcc := cells_le hO
  intro n
  induction n with
  | zero =>
    intro c hh l7 l8 l9 hc I
    have : c = w 0 0 * w 0 1 := by omega
    subst this
    refine ⟨hh, l7, l8, l9, ?_, I.1, fun k2 c2 h1 h2 => I.2 k2 c2 h1 (by omega)⟩
    rw [x_1249_23]
    simp (disch := omega) only [x_1249, xs, nl_le, Nat.le_refl]
  | succ n ih =>
    intro c hh l7 l8 l9 hc I
    have hc2 : ¬ w 0 0 * w 0 1 ≤ c := by omega
    have hW1 := MW_k I.1 hW
    have hS1 := MS_o hO hd (fun i j z => by unfold wS62 at z; omega) I.1 hS
    have hg1 := SG_o (fun i j z => by unfold wS62 at z; omega) I.1 hg
    obtain ⟨l10, l11, r⟩ := m_cw_v d k c fr w hh (snb m b) hO hW1 hS1 (by omega) hk hfr (fun k2 t h1 h2 => I.2 k2 t h2 (Or.inl h1)) (some (vi (nI N))) (some (vi (bI b))) (some (vi (nI (w 0 0 * w 0 1)))) l7 l8 l9
    have hsn := m_isSeen m hh hW1 hg1 k c hk (by omega) b
    have w32 : hR hh 44 32 = some (62, 13, 330) := hW1.2.2.2.2.2.2.2.2.2.2.2.2.2.2.2.2.2.1
    have J : WI w (snb m b) fr h k (c + 1) (hsI hh 62 (30 * k + c) (nI (wyF w (snb m b) fr k c))) := by
      refine ⟨kp_t I.1 (kp_I rfl), fun k2 c2 h1 h2 => ?_⟩
      rw [hI_s]
      split
      · rename_i e
        have e1 : k2 = k := by omega
        have e2 : c2 = c := by omega
        rw [e1, e2]
      · exact I.2 k2 c2 h1 (by omega)
    obtain ⟨h2, l13, l14, l15, r2, J2⟩ := ih (c + 1) _ (some (vi (nI (wv w (snb m b) fr k c)))) l10 l11 (by omega) J
    refine ⟨h2, l13, l14, l15, ?_, J2⟩
    have s0 : run 3 1249 25 [some (vo (some (44, 12, 0))), some (vi (nI fr)), some (vi (nI N)), some (vi (bI b)), some (vi (nI (w 0 0 * w 0 1))), some (vi (nI k)), some (vi (nI c)), l7, l8, l9] [vi (nI c)] hh = run 3 1249 116 [some (vo (some (44, 12, 0))), some (vi (nI fr)), some (vi (nI N)), some (vi (bI b)), some (vi (nI (w 0 0 * w 0 1))), some (vi (nI k)), some (vi (nI c)), some (vi (nI (wv w (snb m b) fr k c))), l10, l11] [] hh := by
      rw [← r]
      simp (disch := omega) only [x_1249, xs, nl_le, hc2]
    have hsn' : call 1248 [vo (some (44, 12, 0)), vi (nI k), vi (nI c), vi (bI b)] hh = some (some (vi (bI (snb m b k c))), hh) := hsn
    rw [x_1249_23, s0, ← r2, wyF_v]
    cases hs : snb m b k c with
    | true => simp (disch := omega) only [x_1249, xs, w32, e30, nI_add, hsn', hs, bI_t, i10, ↓ib_n, cl_n, nl_inc]
    | false =>
      simp (disch := omega) only [x_1249, xs, w32, e30, nI_add, hsn', hs, bI_f, i00, ↓ib_n, cl_n, nl_inc, Bool.false_eq_true]
      rfl
theorem m_cw_k (d fr N : Nat) (w m : Wo) (h : Hp) (b : Bool) (hO : WOK d w) (hd : d ≤ 129) (hW : MW h) (hS : MS h w) (hg : SG h m) (hfr : fr < 30) (hN : N ≤ 10) : ∀ (n k : Nat) (hh : Hp) (l6 l7 l8 l9 : Option AV), k + n = N + 1 → WI w (snb m b) fr h k 0 hh → ∃ h2 : Hp, run 3 1249 14 [some (vo (some (44, 12, 0))), some (vi (nI fr)), some (vi (nI N)), some (vi (bI b)), some (vi (nI (w 0 0 * w 0 1))), some (vi (nI k)), l6, l7, l8, l9] [] hh = some (none, h2) ∧ WI w (snb m b) fr h (N + 1) 0 h2 := by
  intro n
  induction n with
  | zero =>
    intro k hh l6 l7 l8 l9 hk I
    have : k = N + 1 := by omega
    subst this
    refine ⟨hh, ?_, I⟩
    have : N < N + 1 := by omega
    rw [x_1249_14]
    simp (disch := omega) only [x_1249, xs, nl_lt, eq_true this]
  | succ n ih =>
    intro k hh l6 l7 l8 l9 hk I
    have hk2 : ¬ N < k := by omega
    have e0 : (some (vi (0 : Int32)) : Option AV) = some (vi (nI 0)) := rfl
    obtain ⟨h1, l10, l11, l12, r, J⟩ := m_cw_c d fr N w m h b hO hd hW hS hg hfr k (by omega) (w 0 0 * w 0 1) 0 hh l7 l8 l9 (by omega) I
    obtain ⟨h2, r2, J2⟩ := ih (k + 1) h1 (some (vi (nI (w 0 0 * w 0 1)))) l10 l11 l12 (by omega) J
    refine ⟨h2, ?_, J2⟩
    rw [x_1249_14, ← r2]
    simp (disch := omega) only [x_1249, xs, nl_lt, hk2]
    rw [e0, r]
    simp (disch := omega) only [x_1249, xs, nl_inc]
theorem m_countWays (d fr N : Nat) (w m : Wo) (h : Hp) (b : Bool) (hO : WOK d w) (hd : d ≤ 129) (hW : MW h) (hS : MS h w) (hg : SG h m) (hfr : fr < 30) (hN : N ≤ 10) : ∃ h2 : Hp, call 1249 [vo (some (44, 12, 0)), vi (nI fr), vi (nI N), vi (bI b)] h = some (none, h2) ∧ WI w (snb m b) fr h (N + 1) 0 h2 := by
  obtain ⟨f0, f1, -⟩ := hS.1
  obtain ⟨h2, r, J⟩ := m_cw_k d fr N w m h b hO hd hW hS hg hfr hN (N + 1) 0 h none none none none (by omega) ⟨kp_r _ _, fun k2 c2 _ z => absurd z (by omega)⟩
  refine ⟨h2, ?_, J⟩
  simp (disch := omega) only [e_1249, x_1249, xs, f0, f1, pk_mul]
  exact r
theorem sc_62 {t : Nat} : ∀ i j, wS62 i j → sc t i j := fun i j z => by unfold wS62 at z; unfold sc; omega
theorem sc_63 {t : Nat} : ∀ i j, wS63 i j → sc t i j := fun i j z => by unfold wS63 at z; unfold sc; omega
theorem IM_SG {σ : St} {h : Hp} (I : IM σ h) : SG h σ.2.2 := by
  obtain ⟨-, -, ⟨-, -, -, -, G5, -⟩, -, -, -, ⟨g4, g5⟩, -⟩ := I
  exact ⟨G5.1, g4, fun i hi => ⟨g5 i hi, G5.2 i hi⟩⟩
theorem snb_f (m : Wo) : snb m false = sn0 := by funext k c; rfl
theorem snb_t (m : Wo) : snb m true = sn1 m := by funext k c; rfl
def s_ways (a b n : Int32) (σ : St) : Int32 × St := if freI σ.1 a = true ∧ freI σ.1 b = true then (if n < nI 0 then (-4, rz σ 4) else if nI 10 < n then (-6, rz σ 6) else (nI (wyF σ.1 sn0 a.toNatClampNeg n.toNatClampNeg b.toNatClampNeg), σ)) else (-1, rz σ 1)
theorem p_ways (a b n : Int32) : Mok 1251 [a, b, n] (s_ways a b n) := by
  intro σ h I
  have I2 := IM_th I
  obtain ⟨hW, hS, hG, -⟩ := id I2
  have hcc := cells_le hG.1
  have hf := m_isFree a _ _ _ hS hG.1
  have hf2 := m_isFree b _ _ _ hS hG.1
  unfold s_ways
  simp only [List.map]
  by_cases h1 : freI σ.1 a = true ∧ freI σ.1 b = true
  · rw [if_pos h1]
    obtain ⟨h1, h1b⟩ := h1
    obtain ⟨k, rfl, hk, hk30⟩ := freI_of hG.1 h1
    obtain ⟨k2, rfl, hk2, hk230⟩ := freI_of hG.1 h1b
    have hwd : call 1239 [vi n, vi 0, vi 10] (hsI h 44 12 0) = some (some (vi (wdI n (nI 0) (nI 10))), hsI h 44 12 0) := m_wd n 0 10 _
    rcases wd_3 n 0 10 (by decide) (by decide) with ⟨a, b⟩ | ⟨a, b, c⟩ | ⟨a, b, c, j, rfl, -, hj⟩
    · rw [if_pos a]
      refine ⟨rh (hsI h 44 12 0) 4, ?_, IM_rz (by decide) I2⟩
      simp only [e_1251, x_1251, xs, hf, hf2, h1, h1b, bI_t, i10, hwd, b, ltm, m_rf4 hW]
    · rw [if_neg a, if_pos b]
      refine ⟨rh (hsI h 44 12 0) 6, ?_, IM_rz (by decide) I2⟩
      simp only [e_1251, x_1251, xs, hf, hf2, h1, h1b, bI_t, i10, hwd, c, ltm, m_rf6 hW]
    · rw [if_neg a, if_neg b]
      obtain ⟨h2, r, J1, J2⟩ := m_countWays 60 k j σ.1 σ.2.2 _ false hG.1 (by decide) hW hS (IM_SG I2) hk30 hj
      rw [snb_f] at J2
      have J3 := J2 j k2 (fre_lt hk2) (Or.inl (by omega))
      have w32 : hR h2 44 32 = some (62, 13, 330) := (MW_k J1 hW).2.2.2.2.2.2.2.2.2.2.2.2.2.2.2.2.2.1
      have r' : call 1249 [vo (some (44, 12, 0)), vi (nI k), vi (nI j), vi 0] (hsI h 44 12 0) = some (none, h2) := r
      refine ⟨_, ?_, IM_k (kp_m J1 sc_62) I2⟩
      simp (disch := omega) only [e_1251, x_1251, xs, hf, hf2, h1, h1b, bI_t, i10, hwd, c, ltm, r', w32, e30, nI_add, ↓ib_n, cl_n, J3]
  · rw [if_neg h1]
    refine ⟨rh (hsI h 44 12 0) 1, ?_, IM_rz (by decide) I2⟩
    by_cases ha : freI σ.1 a = true
    · have hb : freI σ.1 b = false := bnt (fun z => h1 ⟨ha, z⟩)
      simp only [e_1251, x_1251, xs, hf, hf2, ha, hb, bI_f, bI_t, i00, i10, ltm, m_rf1 hW]
    · have ha := bnt ha
      simp only [e_1251, x_1251, xs, hf, ha, bI_f, i00, ltm, m_rf1 hW]
