/-! THE REFERENCE: what is asked of the game -/
theorem lw_st {w : Wo} {T a r : Nat} (hs : stab w T) (ha : a < w 0 0 * w 0 1) (hr : r < w 0 0 * w 0 1) (hT : T ≤ 1000) : lw w T a r = lw w 1000 a r := by
  by_cases e : wn w T a r = true
  · exact (lw_same e hT).symm
  · have e := bnt e
    rw [lw_none e]
    refine (lw_none ?_).symm
    cases z : wn w 1000 a r with
    | false => rfl
    | true =>
      have := wn_st hs (1000 - T) a r ha hr (by rw [show T + (1000 - T) = 1000 by omega]; exact z)
      rw [e] at this
      cases this
def gsP (w : Wo) (a r u s : Nat) : Bool := match stp w a s with
  | none => false
  | some to => hd w (wn w u) to r
def gst (w : Wo) (a r : Nat) : Option Nat := match lw w 1000 a r with
  | none => none
  | some 0 => none
  | some (u + 1) => fN (gsP w a r u) 5 0
theorem m_game_l (d T a r u : Nat) (w : Wo) (h hh : Hp) (hO : WOK d w) (hdd : d ≤ 129) (hW : MW h) (hS : MS h w) (I : PI w h T 0 hh) (hT : T ≤ 1000) (ha : a < w 0 0 * w 0 1) (hr : r < w 0 0 * w 0 1) (hfa : fre w a = true) (hfr : fre w r = true) (hu : u + 1 ≤ T) (hn : wn w u a r = false) (l3 l4 : Option AV) : ∀ (n s : Nat) (l7 : Option AV), s + n = 5 → run 5 1259 96 [some (vo (some (44, 12, 0))), some (vi (nI a)), some (vi (nI r)), l3, l4, some (vi (nI (u + 1))), some (vi (nI s)), l7] [] hh = some (some (vi (oN (fN (gsP w a r u) n s))), hh) := by
  have hcc := cells_le hO
  have hS1 := MS_o hO hdd (fun i j z => by omega) I.1 hS
  have hW1 := MW_k I.1 hW
  have eu : nI (u + 1) - 1 = nI u := by rw [show (1 : Int32) = nI 1 from rfl, pk_sub (by omega)]; rfl
  have u0 : (nI (u + 1) ≤ 0) = False := by
    rw [show (0 : Int32) = nI 0 from rfl, nl_le (by omega) (by decide)]
    simp
  intro n
  induction n with
  | zero =>
    intro s l7 hs
    have : s = 5 := by omega
    subst this
    rw [x_1259_96]
    simp (disch := omega) only [x_1259, xs, cz_5, Nat.le_refl]
    rfl
  | succ n ih =>
    intro s l7 hs
    have h5 : ¬ 5 ≤ s := by omega
    have hst := m_stepFrom a s hh w d hS1 hO ha (by omega)
    rw [x_1259_96]
    unfold fN
    cases hq : stp w a s with
    | none =>
      have hg : ¬ gsP w a r u s = true := by unfold gsP; rw [hq]; simp
      rw [if_neg hg, ← ih (s + 1) (some (vi (-1))) (by omega)]
      simp (disch := omega) only [x_1259, xs, cz_5, h5, u0, hst, hq, oI_n, m10, nl_inc]
    | some t =>
      have ht := stp_lt hO hq
      have hfl := fre_lt (stp_fre hq)
      have hb : ∀ t2 v, lw w T t t2 = some v → v < 2 ^ 31 := fun t2 v e => by have := lw_bd e; omega
      have r1 := m_worst d t r w hh (fun t2 => lw w T t t2) hO hW1 hS1 ht hr (fun t2 ht2 => by have := I.2 t t2 hfl ht2; rwa [if_neg (Nat.not_lt_zero _)] at this) hb
      have r2 : ∀ q, q ≤ T → ((∃ v, wst w t r (fun t2 => lw w T t t2) = some v ∧ v ≤ q) ↔ hd w (wn w q) t r = true) := fun q hqT => wst_hd (fun t2 _ => lw_le hqT)
      have hno : ∀ q, q < u → ¬ hd w (wn w q) t r = true := fun q hq2 z => by
        have : wn w (q + 1) a r = true := by
          rw [wn_S, hfa, hfr]
          have : anS w a (fun to => hd w (wn w q) to r) 5 0 = true := (anS_i _ _ _ _ _).mpr ⟨s, t, by omega, by omega, hq, z⟩
          rw [this]
          simp
        rw [wn_m (show q + 1 ≤ u by omega) this] at hn
        cases hn
      by_cases hg : gsP w a r u s = true
      · rw [if_pos hg]
        have hg2 : hd w (wn w u) t r = true := by unfold gsP at hg; rw [hq] at hg; exact hg
        obtain ⟨v, e1, e2⟩ := (r2 u (by omega)).mpr hg2
        have e3 : v = u := by
          rcases Nat.lt_or_ge v u with z | z
          · exact absurd ((r2 v (by omega)).mp ⟨v, e1, Nat.le_refl _⟩) (hno v z)
          · omega
        subst e3
        rw [e1] at r1
        simp (disch := omega) only [x_1259, xs, cz_5, h5, u0, hst, hq, oI_s, nl_l0, r1, eu]
        rfl
      · rw [if_neg hg, ← ih (s + 1) (some (vi (nI t))) (by omega)]
        have hg2 : ¬ hd w (wn w u) t r = true := by unfold gsP at hg; rw [hq] at hg; exact hg
        have hne : ¬ oI (wst w t r (fun t2 => lw w T t t2)) = nI u := by
          cases e : wst w t r (fun t2 => lw w T t t2) with
          | none =>
            intro z
            have := nl_l0 (a := u) (by omega)
            rw [← z] at this
            have h2 : (oI none < 0) = True := m10
            rw [h2] at this
            exact this.mp trivial
          | some v =>
            intro z
            have hv : ¬ v ≤ u := fun y => hg2 ((r2 u (by omega)).mp ⟨v, e, y⟩)
            by_cases hv2 : v < 2 ^ 31
            · rw [oI_s, nl_eq hv2 (by omega)] at z
              omega
            · have : v ≤ 2000 := by
                unfold wst at e
                split at e
                · cases e; omega
                · have key : ∀ n s x y, wsF w r (fun t2 => lw w T t t2) n s x = some y → x ≤ 2000 → y ≤ 2000 := by
                    intro n
                    induction n with
                    | zero => intro s x y e hx; unfold wsF at e; cases e; exact hx
                    | succ n ih3 =>
                      intro s x y e hx
                      unfold wsF at e
                      split at e
                      · exact ih3 _ _ _ e hx
                      · split at e
                        · cases e
                        · rename_i v2 e2
                          have := lw_bd e2
                          exact ih3 _ _ _ e (by split <;> omega)
                  exact key _ _ _ _ e (by omega)
              omega
        simp (disch := omega) only [x_1259, xs, cz_5, h5, u0, hst, hq, oI_s, nl_l0, r1, eu, hne, nl_inc]
def s_game (a b x : Int32) (σ : St) : Int32 × St := if freI σ.1 a = true ∧ freI σ.1 b = true then (if x < 0 ∨ 1 < x then (-2, rz σ 2) else (if x = 0 then oN (lw σ.1 1000 a.toNatClampNeg b.toNatClampNeg) else oN (gst σ.1 a.toNatClampNeg b.toNatClampNeg), σ)) else (-1, rz σ 1)
theorem sc_66 {t : Nat} : ∀ i j : Nat, i = 66 → sc t i j := fun i j z => by unfold sc; omega
theorem p_game (a b x : Int32) : Mok 1259 [a, b, x] (s_game a b x) := by
  intro σ h I
  have I2 := IM_th I
  obtain ⟨hW, hS, hG, -⟩ := id I2
  have hcc := cells_le hG.1
  have hf := m_isFree a _ _ _ hS hG.1
  have hf2 := m_isFree b _ _ _ hS hG.1
  unfold s_game
  simp only [List.map]
  by_cases h1 : freI σ.1 a = true ∧ freI σ.1 b = true
  · rw [if_pos h1]
    obtain ⟨h1, h1b⟩ := h1
    obtain ⟨k, rfl, hk, hk30⟩ := freI_of hG.1 h1
    obtain ⟨k2, rfl, hk2, hk230⟩ := freI_of hG.1 h1b
    by_cases h2 : x < 0 ∨ 1 < x
    · rw [if_pos h2]
      refine ⟨rh (hsI h 44 12 0) 2, ?_, IM_rz (by decide) I2⟩
      simp only [e_1259, x_1259, xs, hf, hf2, h1, h1b, bI_t, i10, m_in01, in1_f h2, decide_false, bI_f, i00, m_rf2 hW]
    · rw [if_neg h2]
      obtain ⟨h3, e, rfl, he⟩ := in1_t h2
      obtain ⟨T, hN, t1, t2, t3, t4⟩ := m_solve 60 σ.1 _ hG.1 (by decide) hW hS
      have hl := fre_lt hk
      have hl2 := fre_lt hk2
      have hv := t3.2 k k2 hl hl2
      rw [if_neg (Nat.not_lt_zero _)] at hv
      have hlw := lw_st t4 hl hl2 (by omega)
      have w37 : hR hN 44 37 = some (66, 13, 900) := (MW_k t3.1 hW).2.2.2.2.2.2.2.2.2.2.2.2.2.2.2.2.2.2.2.2.2.1
      simp only [cl_n (show k < 2 ^ 31 by omega), cl_n (show k2 < 2 ^ 31 by omega)]
      refine ⟨hN, ?_, IM_k (kp_m t3.1 sc_66) I2⟩
      have s0 : call 1259 [vo (some (44, 12, 0)), vi (nI k), vi (nI k2), vi (nI e)] h = run 5 1259 76 [some (vo (some (44, 12, 0))), some (vi (nI k)), some (vi (nI k2)), some (vi (nI e)), some (vi 1), some (vi (oI (lw σ.1 T k k2))), none, none] [] hN := by
        simp (disch := omega) only [e_1259, x_1259, xs, hf, hf2, h1, h1b, bI_t, i10, m_in01, h3, and_self, decide_true, t2, w37, e30, nI_add, ↓ib_n, cl_n, hv]
      rw [s0]
      rcases (show e = 0 ∨ e = 1 by omega) with rfl | rfl
      · simp only [dz, if_true]
        rw [← hlw]
        cases hq : lw σ.1 T k k2 with
        | none =>
          simp (disch := omega) only [x_1259, xs, dz, oI_n, mm1]
          rfl
        | some v =>
          have := lw_bd hq
          simp (disch := omega) only [x_1259, xs, dz, oI_s, nl_g0]
          rfl
      · simp only [dz, if_false]
        unfold gst
        rw [← hlw]
        have z5 : ((5 : Int32) ≤ 0) = False := by simp only [eq_iff_iff, iff_false]; decide
        cases hq : lw σ.1 T k k2 with
        | none =>
          simp (disch := omega) only [x_1259, xs, dz]
          rw [x_1259_96]
          simp (disch := omega) only [x_1259, xs, z5, oI_n, show ((-1 : Int32) ≤ 0) = True by simp only [eq_iff_iff, iff_true]; decide]
          rfl
        | some v =>
          have hvT := lw_bd hq
          cases v with
          | zero =>
            simp (disch := omega) only [x_1259, xs, dz]
            rw [x_1259_96]
            simp (disch := omega) only [x_1259, xs, z5, oI_s, show (nI 0 ≤ 0) = True by simp only [eq_iff_iff, iff_true]; decide]
            rfl
          | succ u =>
            have hmin := ((fN_s _ _ _ _).mp hq).2.2.2 u (by omega) (by omega)
            have r := m_game_l 60 T k k2 u σ.1 _ hN hG.1 (by decide) hW hS t3 (by omega) hl hl2 hk hk2 hvT hmin (some (vi (nI 1))) (some (vi 1)) 5 0 none rfl
            simp (disch := omega) only [x_1259, xs, dz, oI_s]
            exact r
  · rw [if_neg h1]
    refine ⟨rh (hsI h 44 12 0) 1, ?_, IM_rz (by decide) I2⟩
    by_cases ha : freI σ.1 a = true
    · have hb : freI σ.1 b = false := bnt (fun z => h1 ⟨ha, z⟩)
      simp only [e_1259, x_1259, xs, hf, hf2, ha, hb, bI_f, bI_t, i00, i10, ltm, m_rf1 hW]
    · have ha := bnt ha
      simp only [e_1259, x_1259, xs, hf, ha, bI_f, i00, ltm, m_rf1 hW]
