/-! THE REFERENCE: the game solved -/
theorem wn_S {w : Wo} {T h r : Nat} : wn w (T + 1) h r = (wn w T h r || (fre w h && fre w r && anS w h (fun to => hd w (wn w T) to r) 5 0)) := rfl
theorem m_so_p (d T : Nat) (w : Wo) (h : Hp) (hO : WOK d w) (hdd : d ≤ 129) (hW : MW h) (hS : MS h w) (hT : T ≤ 999) : ∀ (n k : Nat) (hh : Hp) (b : Bool) (l5 l6 l7 l8 l9 l10 : Option AV), k + n = w 0 0 * w 0 1 * (w 0 0 * w 0 1) → PI w h T k hh → Mq w T k b → ∃ (h2 : Hp) (b2 : Bool) (l11 l12 l13 l14 l15 l16 : Option AV),
    run 4 1258 60 [some (vo (some (44, 12, 0))), some (vi (nI (w 0 0 * w 0 1))), some (vi (bI b)), some (vi (nI (T + 1))), some (vi (nI k)), l5, l6, l7, l8, l9, l10] [] hh = run 4 1258 206 [some (vo (some (44, 12, 0))), some (vi (nI (w 0 0 * w 0 1))), some (vi (bI b2)), some (vi (nI (T + 1))), some (vi (nI (w 0 0 * w 0 1 * (w 0 0 * w 0 1)))), l11, l12, l13, l14, l15, l16] [] h2 ∧ PI w h T (w 0 0 * w 0 1 * (w 0 0 * w 0 1)) h2 ∧ Mq w T (w 0 0 * w 0 1 * (w 0 0 * w 0 1)) b2 := by
  have hcc := cells_le hO
  have hAA : w 0 0 * w 0 1 * (w 0 0 * w 0 1) ≤ 900 := Nat.mul_le_mul hcc.2 hcc.2
  have hA0 : ¬ nI (w 0 0 * w 0 1) = 0 := by rw [nl_e0 (by omega)]; omega
  have z5 : ((5 : Int32) ≤ 0) = False := by simp only [eq_iff_iff, iff_false]; decide
  have e0 : (some (vi (0 : Int32)) : Option AV) = some (vi (nI 0)) := rfl
  intro n
  induction n with
  | zero =>
    intro k hh b l5 l6 l7 l8 l9 l10 hk I M
    have : k = w 0 0 * w 0 1 * (w 0 0 * w 0 1) := by omega
    subst this
    refine ⟨hh, b, l5, l6, l7, l8, l9, l10, ?_, I, M⟩
    rw [x_1258_60]
    simp (disch := omega) only [x_1258, xs, pk_mul, nl_le, Nat.le_refl]
  | succ n ih =>
    intro k hh b l5 l6 l7 l8 l9 l10 hk I M
    have hk2 : ¬ w 0 0 * w 0 1 * (w 0 0 * w 0 1) ≤ k := by omega
    have hW1 := MW_k I.1 hW
    have hS1 := MS_o hO hdd (fun i j z => by omega) I.1 hS
    have w37 : hR hh 44 37 = some (66, 13, 900) := hW1.2.2.2.2.2.2.2.2.2.2.2.2.2.2.2.2.2.2.2.2.2.1
    have ha : k / (w 0 0 * w 0 1) < w 0 0 * w 0 1 := Nat.div_lt_of_lt_mul (by omega)
    have hr : k % (w 0 0 * w 0 1) < w 0 0 * w 0 1 := Nat.mod_lt _ (by omega)
    have hki : k / (w 0 0 * w 0 1) * (w 0 0 * w 0 1) + k % (w 0 0 * w 0 1) = k := by rw [Nat.mul_comm]; exact Nat.div_add_mod _ _
    have hdv : nI k / nI (w 0 0 * w 0 1) = nI (k / (w 0 0 * w 0 1)) := pk_div (by omega) (by omega) (by omega)
    have hrm : nI k - nI (k / (w 0 0 * w 0 1)) * nI (w 0 0 * w 0 1) = nI (k % (w 0 0 * w 0 1)) := nl_rem (by omega) (by omega) (by omega)
    have hrm2 : nI k - nI (k / (w 0 0 * w 0 1) * (w 0 0 * w 0 1)) = nI (k % (w 0 0 * w 0 1)) := nl_rem2 (by omega) (by omega) (by omega)
    have hv := I.2 _ _ ha hr
    rw [hki, if_neg (by omega)] at hv
    have hf1 := m_isFree (nI (k / (w 0 0 * w 0 1))) hh w d hS1 hO
    have hf2 := m_isFree (nI (k % (w 0 0 * w 0 1))) hh w d hS1 hO
    rw [freI_n hO (by omega)] at hf1 hf2
    have hx : ∀ (hh2 : Hp) (l7 l9 l10 : Option AV), run 4 1258 124 [some (vo (some (44, 12, 0))), some (vi (nI (w 0 0 * w 0 1))), some (vi (bI b)), some (vi (nI (T + 1))), some (vi (nI k)), some (vi (nI (k / (w 0 0 * w 0 1)))), some (vi (nI (k % (w 0 0 * w 0 1)))), some (vi 0), some (vi (0 : Int32)), l9, l10] [] hh2 = run 4 1258 60 [some (vo (some (44, 12, 0))), some (vi (nI (w 0 0 * w 0 1))), some (vi (bI b)), some (vi (nI (T + 1))), some (vi (nI (k + 1))), some (vi (nI (k / (w 0 0 * w 0 1)))), some (vi (nI (k % (w 0 0 * w 0 1)))), some (vi 0), some (vi (0 : Int32)), l9, l10] [] hh2 := by
      intro hh2 l7 l9 l10
      rw [x_1258_124]
      simp (disch := omega) only [x_1258, xs, z5, i00, nl_inc]
    by_cases hw0 : wn w T (k / (w 0 0 * w 0 1)) (k % (w 0 0 * w 0 1)) = true
    · obtain ⟨v, e1, e2⟩ := (lw_le (Nat.le_refl T)).mpr hw0
      rw [e1] at hv
      have J : PI w h T (k + 1) hh := PI_s I (kp_r _ _) (by omega) (by rw [hv, lw_same hw0 (by omega), e1]) (fun _ _ => rfl) hcc.2
      obtain ⟨h2, b2, l11, l12, l13, l14, l15, l16, r, r2⟩ := ih (k + 1) hh b (some (vi (nI (k / (w 0 0 * w 0 1))))) (some (vi (nI (k % (w 0 0 * w 0 1))))) (some (vi 0)) (some (vi (0 : Int32))) l9 l10 (by omega) J (Mq_s M (fun z => by rw [hw0] at z; exact absurd z.2 (by decide)))
      refine ⟨h2, b2, l11, l12, l13, l14, l15, l16, Eq.trans ?_ r, r2⟩
      rw [x_1258_60, ← hx hh l7 l9 l10]
      simp (disch := omega) only [x_1258, xs, pk_mul, nl_le, hk2, hA0, hdv, hrm, hrm2, w37, e30, nI_add, ↓ib_n, cl_n, hv, oI_s, nl_g0]
    · have hw0 := bnt hw0
      have hn0 := lw_none hw0
      rw [hn0] at hv
      by_cases hff : fre w (k / (w 0 0 * w 0 1)) = true ∧ fre w (k % (w 0 0 * w 0 1)) = true
      · obtain ⟨hfa, hfr⟩ := hff
        obtain ⟨l11, l12, l13, l14, q⟩ := m_so_i d T k (k / (w 0 0 * w 0 1)) (k % (w 0 0 * w 0 1)) w h hh hO hdd hW hS I hT ha hr (some (vi (nI k))) (nI (w 0 0 * w 0 1)) 5 0 (bI b) l9 l10 rfl
        have s0 : run 4 1258 62 [some (vo (some (44, 12, 0))), some (vi (nI (w 0 0 * w 0 1))), some (vi (bI b)), some (vi (nI (T + 1))), some (vi (nI k)), l5, l6, l7, l8, l9, l10] [vi (nI k)] hh = run 4 1258 124 [some (vo (some (44, 12, 0))), some (vi (nI (w 0 0 * w 0 1))), some (vi (bI b)), some (vi (nI (T + 1))), some (vi (nI k)), some (vi (nI (k / (w 0 0 * w 0 1)))), some (vi (nI (k % (w 0 0 * w 0 1)))), some (vi 1), some (vi (nI 0)), l9, l10] [] hh := by
          rw [← e0]
          simp (disch := omega) only [x_1258, xs, pk_mul, nl_le, hk2, hA0, hdv, hrm, hrm2, w37, e30, nI_add, ↓ib_n, cl_n, hv, oI_n, mm1, hf1, hf2, hfa, hfr, bI_t, i10]
        by_cases hany : anS w (k / (w 0 0 * w 0 1)) (fun to => hd w (wn w T) to (k % (w 0 0 * w 0 1))) 5 0 = true
        · have hw1 : wn w (T + 1) (k / (w 0 0 * w 0 1)) (k % (w 0 0 * w 0 1)) = true := by rw [wn_S, hfa, hfr, hany]; simp
          rw [if_pos hany, if_pos hany] at q
          have J : PI w h T (k + 1) (hsI hh 66 (30 * (k / (w 0 0 * w 0 1)) + k % (w 0 0 * w 0 1)) (nI (T + 1))) := PI_s I (kp_I rfl) (by omega) (by rw [hI_e, lwn_new hw0 hw1]; rfl) (fun j hj => hI_n (by omega)) hcc.2
          have M2 : Mq w T (k + 1) true := ⟨fun _ => ⟨k, by omega, hw1, hw0⟩, fun _ => rfl⟩
          obtain ⟨h2, b2, m11, m12, m13, m14, m15, m16, r, r2⟩ := ih (k + 1) _ true (some (vi (nI (k / (w 0 0 * w 0 1))))) (some (vi (nI (k % (w 0 0 * w 0 1))))) l11 l12 l13 l14 (by omega) J M2
          refine ⟨h2, b2, m11, m12, m13, m14, m15, m16, Eq.trans ?_ r, r2⟩
          rw [x_1258_60, s0, q]
          simp (disch := omega) only [x_1258, xs, nl_inc, bI_t]
        · have hw1 : wn w (T + 1) (k / (w 0 0 * w 0 1)) (k % (w 0 0 * w 0 1)) = false := by rw [wn_S, hw0, bnt hany]; simp
          rw [if_neg hany, if_neg hany] at q
          have J : PI w h T (k + 1) hh := PI_s I (kp_r _ _) (by omega) (by rw [hv, lw_none hw1]) (fun _ _ => rfl) hcc.2
          obtain ⟨h2, b2, m11, m12, m13, m14, m15, m16, r, r2⟩ := ih (k + 1) _ b (some (vi (nI (k / (w 0 0 * w 0 1))))) (some (vi (nI (k % (w 0 0 * w 0 1))))) l11 l12 l13 l14 (by omega) J (Mq_s M (fun z => by rw [hw1] at z; exact absurd z.1 (by decide)))
          refine ⟨h2, b2, m11, m12, m13, m14, m15, m16, Eq.trans ?_ r, r2⟩
          rw [x_1258_60, s0, q]
          simp (disch := omega) only [x_1258, xs, nl_inc]
      · have hff2 : (fre w (k / (w 0 0 * w 0 1)) && fre w (k % (w 0 0 * w 0 1))) = false := by
          cases e1 : fre w (k / (w 0 0 * w 0 1)) <;> cases e2 : fre w (k % (w 0 0 * w 0 1)) <;> simp_all
        have hw1 : wn w (T + 1) (k / (w 0 0 * w 0 1)) (k % (w 0 0 * w 0 1)) = false := by rw [wn_S, hw0, hff2]; simp
        have J : PI w h T (k + 1) hh := PI_s I (kp_r _ _) (by omega) (by rw [hv, lw_none hw1]) (fun _ _ => rfl) hcc.2
        obtain ⟨h2, b2, l11, l12, l13, l14, l15, l16, r, r2⟩ := ih (k + 1) hh b (some (vi (nI (k / (w 0 0 * w 0 1))))) (some (vi (nI (k % (w 0 0 * w 0 1))))) (some (vi 0)) (some (vi (0 : Int32))) l9 l10 (by omega) J (Mq_s M (fun z => by rw [hw1] at z; exact absurd z.1 (by decide)))
        refine ⟨h2, b2, l11, l12, l13, l14, l15, l16, Eq.trans ?_ r, r2⟩
        rw [x_1258_60, ← hx hh l7 l9 l10]
        by_cases hfa : fre w (k / (w 0 0 * w 0 1)) = true
        · have hfr : fre w (k % (w 0 0 * w 0 1)) = false := bnt (fun z => hff ⟨hfa, z⟩)
          simp (disch := omega) only [x_1258, xs, pk_mul, nl_le, hk2, hA0, hdv, hrm, hrm2, w37, e30, nI_add, ↓ib_n, cl_n, hv, oI_n, mm1, hf1, hf2, hfa, hfr, bI_t, bI_f, i00, i10]
        · have hfa := bnt hfa
          simp (disch := omega) only [x_1258, xs, pk_mul, nl_le, hk2, hA0, hdv, hrm, hrm2, w37, e30, nI_add, ↓ib_n, cl_n, hv, oI_n, mm1, hf1, hf2, hfa, bI_f, i00]
