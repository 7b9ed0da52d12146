/-! THE REFERENCE: ways counted -/
def wS62 (i _ : Nat) : Prop := i = 62
def wS63 (i _ : Nat) : Prop := i = 63
theorem e30 (k : Nat) : (30 : Int32) * nI k = nI (30 * k) := by rw [show (30 : Int32) = nI 30 from rfl, pk_mul]
theorem MS_o {S : Nat → Nat → Prop} {h h2 : Hp} {w : Wo} {d : Nat} (hk : WOK d w) (hd : d ≤ 129) (hs : ∀ i j, S i j → 51 ≤ i) (a : kp S h h2) (hS : MS h w) : MS h2 w := by
  have un : ∀ i j, i ≤ 50 → hI h2 i j = hI h i j := fun i j hi => a.2.2 i j (fun z => by have := hs i j z; omega)
  exact MSg_d hk hd hS (fun j _ => un _ _ (by decide)) (fun p _ => ⟨un _ _ (by decide), un _ _ (by decide), un _ _ (by decide), un _ _ (by decide)⟩) (fun i _ => un _ _ (by decide)) (fun j _ => un _ _ (by decide))
theorem SG_o {S : Nat → Nat → Prop} {h h2 : Hp} {m : Wo} (hs : ∀ i j, S i j → i ≠ 44 ∧ i ≠ 64 ∧ i ≠ 65) (a : kp S h h2) (g : SG h m) : SG h2 m := by
  obtain ⟨g1, g2, g3⟩ := g
  refine ⟨g1, by rw [a.2.2 _ _ (fun z => (hs _ _ z).1 rfl)]; exact g2, fun i hi => ?_⟩
  rw [a.2.2 64 _ (fun z => (hs _ _ z).2.1 rfl), a.2.2 65 _ (fun z => (hs _ _ z).2.2 rfl)]
  exact g3 i hi
theorem m_cw_s (d k c : Nat) (w : Wo) (h : Hp) (F : Nat → Nat) (hO : WOK d w) (hW : MW h) (hS : MS h w) (hc : fre w c = true) (hk : k ≤ 9) (hF : ∀ t, t < w 0 0 * w 0 1 → hI h 62 (30 * k + t) = nI (F t)) (l1 l2 l3 l4 : Option AV) : ∀ (n s a : Nat) (l9 : Option AV), s + n = 5 → ∃ l10 : Option AV, run 3 1249 51 [some (vo (some (44, 12, 0))), l1, l2, l3, l4, some (vi (nI (k + 1))), some (vi (nI c)), some (vi (nI a)), some (vi (nI s)), l9] [] h = run 3 1249 116 [some (vo (some (44, 12, 0))), l1, l2, l3, l4, some (vi (nI (k + 1))), some (vi (nI c)), some (vi (nI (wyS w F c n s a))), some (vi (nI 5)), l10] [] h := by
  have hcc := cells_le hO
  have hc2 := fre_lt hc
  have hfr : freI w (nI c) = true := by rw [freI_n hO (by omega)]; exact hc
  have hf := m_isFree (nI c) h w d hS hO
  have w32 : hR h 44 32 = some (62, 13, 330) := hW.2.2.2.2.2.2.2.2.2.2.2.2.2.2.2.2.2.1
  have ek : nI (k + 1) - 1 = nI k := by rw [show (1 : Int32) = nI 1 from rfl, pk_sub (by omega)]; rfl
  have hk0 : ¬ k + 1 ≤ 0 := by omega
  have k0 : (nI (k + 1) ≤ 0) = (k + 1 ≤ 0) := nl_le (by omega) (by decide)
  intro n
  induction n with
  | zero =>
    intro s a l9 hs
    have : s = 5 := by omega
    subst this
    refine ⟨l9, ?_⟩
    rw [x_1249_51]
    simp (disch := omega) only [x_1249, xs, cz_5, Nat.le_refl]
    rfl
  | succ n ih =>
    intro s a l9 hs
    have h5 : ¬ 5 ≤ s := by omega
    have hst := m_stepFrom c s h w d hS hO hc2 (by omega)
    rw [x_1249_51]
    unfold wyS
    cases hq : stp w c s with
    | none =>
      obtain ⟨l10, r⟩ := ih (s + 1) a (some (vi (-1))) (by omega)
      refine ⟨l10, ?_⟩
      simp only [Nat.add_zero]
      rw [← r]
      simp (disch := omega) only [x_1249, xs, cz_5, h5, k0, hk0, hf, hfr, bI_t, i10, hst, hq, oI_n, mm1, show nI a + 0 = nI a from nI_add a 0, nl_inc]
    | some t =>
      have ht := stp_lt hO hq
      have ht2 := hF t (fre_lt (stp_fre hq))
      obtain ⟨l10, r⟩ := ih (s + 1) (a + F t) (some (vi (nI t))) (by omega)
      refine ⟨l10, ?_⟩
      simp only
      rw [← r]
      simp (disch := omega) only [x_1249, xs, cz_5, h5, k0, hk0, hf, hfr, bI_t, i10, hst, hq, oI_s, nl_g0, w32, ek, e30, nI_add, ↓ib_n, cl_n, ht2, nl_inc]
/-- before the sights are asked -/
def wv (w : Wo) (sn : Nat → Nat → Bool) (fr : Nat) : Nat → Nat → Nat
  | 0, c => if c = fr then 1 else 0
  | k + 1, c => if fre w c = true then wyS w (wyF w sn fr k) c 5 0 0 else 0
theorem wyF_v (w : Wo) (sn : Nat → Nat → Bool) (fr k c : Nat) : wyF w sn fr k c = if sn k c = true then wv w sn fr k c else 0 := by
  cases k <;> rfl
def snb (m : Wo) (b : Bool) (k c : Nat) : Bool := if b = true then sn1 m k c else true
theorem m_cw_v (d k c fr : Nat) (w : Wo) (h : Hp) (sn : Nat → Nat → Bool) (hO : WOK d w) (hW : MW h) (hS : MS h w) (hc : c < w 0 0 * w 0 1) (hk : k ≤ 10) (hfr : fr < 30) (hF : ∀ k2 t, k2 < k → t < w 0 0 * w 0 1 → hI h 62 (30 * k2 + t) = nI (wyF w sn fr k2 t)) (l2 l3 l4 l7 l8 l9 : Option AV) : ∃ l10 l11 : Option AV, run 3 1249 30 [some (vo (some (44, 12, 0))), some (vi (nI fr)), l2, l3, l4, some (vi (nI k)), some (vi (nI c)), l7, l8, l9] [] h = run 3 1249 116 [some (vo (some (44, 12, 0))), some (vi (nI fr)), l2, l3, l4, some (vi (nI k)), some (vi (nI c)), some (vi (nI (wv w sn fr k c))), l10, l11] [] h := by
  have hcc := cells_le hO
  have e0 : (some (vi (0 : Int32)) : Option AV) = some (vi (nI 0)) := rfl
  have e1 : (some (vi (1 : Int32)) : Option AV) = some (vi (nI 1)) := rfl
  cases k with
  | zero =>
    refine ⟨some (vi 0), l9, ?_⟩
    have k0 : (nI 0 ≤ 0) = True := by simp only [eq_iff_iff, iff_true]; decide
    have z5 : ((5 : Int32) ≤ 0) = False := by simp only [eq_iff_iff, iff_false]; decide
    unfold wv
    by_cases e : c = fr
    · rw [if_pos e]
      simp (disch := omega) only [x_1249, xs, dz, nl_eq, eq_true e]
      rw [x_1249_51]
      simp (disch := omega) only [x_1249, xs, z5, k0]
      rfl
    · rw [if_neg e]
      simp (disch := omega) only [x_1249, xs, dz, nl_eq, e]
      rw [x_1249_51]
      simp (disch := omega) only [x_1249, xs, z5, k0]
      rfl
  | succ k =>
    have kn : ¬ k + 1 = 0 := by omega
    unfold wv
    by_cases hf : fre w c = true
    · rw [if_pos hf]
      obtain ⟨l10, r⟩ := m_cw_s d k c w h (wyF w sn fr k) hO hW hS hf (by omega) (fun t ht => hF k t (by omega) ht) (some (vi (nI fr))) l2 l3 l4 5 0 0 l9 rfl
      refine ⟨_, l10, ?_⟩
      simp (disch := omega) only [x_1249, xs, nl_e0, kn]
      exact r
    · rw [if_neg hf]
      have hfI : freI w (nI c) = false := by rw [freI_n hO (by omega)]; exact bnt hf
      have hff := m_isFree (nI c) h w d hS hO
      have k0 : (nI (k + 1) ≤ 0) = (k + 1 ≤ 0) := nl_le (by omega) (by decide)
      have hk0 : ¬ k + 1 ≤ 0 := by omega
      have z5 : ((5 : Int32) ≤ 0) = False := by simp only [eq_iff_iff, iff_false]; decide
      refine ⟨some (vi 0), l9, ?_⟩
      simp (disch := omega) only [x_1249, xs, nl_e0, kn]
      rw [x_1249_51]
      simp (disch := omega) only [x_1249, xs, z5, k0, hk0, hff, hfI, bI_f, i00]
      rfl
/-- what is counted so far -/
def WI (w : Wo) (sn : Nat → Nat → Bool) (fr : Nat) (h : Hp) (k c : Nat) (hh : Hp) : Prop := kp wS62 h hh ∧ ∀ k2 c2, c2 < w 0 0 * w 0 1 → (k2 < k ∨ (k2 = k ∧ c2 < c)) → hI hh 62 (30 * k2 + c2) = nI (wyF w sn fr k2 c2)
theorem m_cw_c (d fr N : Nat) (w m : Wo) (h : Hp) (b : Bool) (hO : WOK d w) (hd : d ≤ 129) (hW : MW h) (hS : MS h w) (hg : SG h m) (hfr : fr < 30) (k : Nat) (hk : k ≤ 10) : ∀ (n c : Nat) (hh : Hp) (l7 l8 l9 : Option AV), c + n = w 0 0 * w 0 1 → WI w (snb m b) fr h k c hh → ∃ (h2 : Hp) (l10 l11 l12 : Option AV), run 3 1249 23 [some (vo (some (44, 12, 0))), some (vi (nI fr)), some (vi (nI N)), some (vi (bI b)), some (vi (nI (w 0 0 * w 0 1))), some (vi (nI k)), some (vi (nI c)), l7, l8, l9] [] hh = run 3 1249 153 [some (vo (some (44, 12, 0))), some (vi (nI fr)), some (vi (nI N)), some (vi (bI b)), some (vi (nI (w 0 0 * w 0 1))), some (vi (nI k)), some (vi (nI (w 0 0 * w 0 1))), l10, l11, l12] [] h2 ∧ WI w (snb m b) fr h (k + 1) 0 h2 := by
  have hcc := cells_le hO
  intro n
  induction n with
  | zero =>
    intro c hh l7 l8 l9 hc I
    have : c = w 0 0 * w 0 1 := by omega
    subst this
    refine ⟨hh, l7, l8, l9, ?_, I.1, fun k2 c2 h1 h2 => I.2 k2 c2 h1 (by omega)⟩
    rw [x_1249_23]
    simp (disch := omega) only [x_1249, xs, nl_le, Nat.le_refl]
  | succ n ih =>
    intro c hh l7 l8 l9 hc I
    have hc2 : ¬ w 0 0 * w 0 1 ≤ c := by omega
    have hW1 := MW_k I.1 hW
    have hS1 := MS_o hO hd (fun i j z => by unfold wS62 at z; omega) I.1 hS
    have hg1 := SG_o (fun i j z => by unfold wS62 at z; omega) I.1 hg
    obtain ⟨l10, l11, r⟩ := m_cw_v d k c fr w hh (snb m b) hO hW1 hS1 (by omega) hk hfr (fun k2 t h1 h2 => I.2 k2 t h2 (Or.inl h1)) (some (vi (nI N))) (some (vi (bI b))) (some (vi (nI (w 0 0 * w 0 1)))) l7 l8 l9
    have hsn := m_isSeen m hh hW1 hg1 k c hk (by omega) b
    have w32 : hR hh 44 32 = some (62, 13, 330) := hW1.2.2.2.2.2.2.2.2.2.2.2.2.2.2.2.2.2.1
    have J : WI w (snb m b) fr h k (c + 1) (hsI hh 62 (30 * k + c) (nI (wyF w (snb m b) fr k c))) := by
      refine ⟨kp_t I.1 (kp_I rfl), fun k2 c2 h1 h2 => ?_⟩
      rw [hI_s]
      split
      · rename_i e
        have e1 : k2 = k := by omega
        have e2 : c2 = c := by omega
        rw [e1, e2]
      · exact I.2 k2 c2 h1 (by omega)
    obtain ⟨h2, l13, l14, l15, r2, J2⟩ := ih (c + 1) _ (some (vi (nI (wv w (snb m b) fr k c)))) l10 l11 (by omega) J
    refine ⟨h2, l13, l14, l15, ?_, J2⟩
    rw [x_1249_23, ← r2]
    simp (disch := omega) only [x_1249, xs, nl_le, hc2] at r ⊢
    sorry
