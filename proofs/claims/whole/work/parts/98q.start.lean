/-! THE START: the invariant holds -/
theorem start_Jv : lw_start Jv := by
  obtain ⟨h1, r1, c1, hX, ⟨v7, v15, v23, cu⟩, m7, cm, ⟨i1, i2, i3⟩, j3, j31, j33, j8, j43⟩ := x_init
  have n1 : h1.1.1 = 44 := by rw [c1]
  have V00 : ∀ i j, hR (hmk h00 10) i j = none := fun i j => by
    rw [hR_hmk]
    split <;> rfl
  have V0 : VV (hmk h00 10) := ⟨(fun i j r hr => by rw [V00] at hr; cases hr), fun i j _ => V00 i j⟩
  have r1' : call 1100 [vr (0, 11, 0)] (hmk h00 10) = some (none, h1) := r1
  have V1 := call_nn r1' V0 (fr_as (S := bel (hmk h00 10)) (show (0 : Nat) < 1 by omega) [])
  have V1m : VV (hmk h1 43) := VV_mk V1
  have nm : (hmk h1 43).1.1 = 45 := by show h1.1.1 + 1 = 45; omega
  have r2 := m_init (hmk h1 43)
  have r2' : call 1200 [vr (MI, 12, 0)] (hmk h1 43) = some (none, hsI (aL 44 mL (hsI (hsI (hsI (hmk h1 43) 44 0 3) 44 1 3) 44 4 1)) 44 12 0) := r2
  have q0 : (hsI (hsI (hsI (hmk h1 43) 44 0 3) 44 1 3) 44 4 1).1.1 = 45 := nm
  have V2 := call_nn r2' V1m (fr_as (S := bel (hmk h1 43)) (show MI < (hmk h1 43).1.1 by rw [nm]; decide) [])
  have fS : fr_cl (fun i => 44 ≤ i) (hmk h1 43) := fun i hi j r hr => by
    rw [hR_hmk] at hr
    split at hr
    · cases hr
    · rw [V1.2 i j (by omega)] at hr; cases hr
  obtain ⟨t1, t2⟩ := call_fr (S := fun i => 44 ≤ i) r2' (fun i hi => by rw [nm] at hi; omega) fS (fr_as (show 44 ≤ MI by decide) [])
  have lI : ∀ i j, i < 44 → hI (hsI (aL 44 mL (hsI (hsI (hsI (hmk h1 43) 44 0 3) 44 1 3) 44 4 1)) 44 12 0) i j = hI h1 i j := fun i j hi => by rw [(t1 i (by omega) j).1, hI_hmk, if_neg (by omega)]
  have lR : ∀ i j, i < 44 → hR (hsI (aL 44 mL (hsI (hsI (hsI (hmk h1 43) 44 0 3) 44 1 3) 44 4 1)) 44 12 0) i j = hR h1 i j := fun i j hi => by rw [(t1 i (by omega) j).2, hR_hmk, if_neg (by omega)]
  have mI : ∀ j, j ≠ 12 → hI (hsI (aL 44 mL (hsI (hsI (hsI (hmk h1 43) 44 0 3) 44 1 3) 44 4 1)) 44 12 0) 44 j = if j = 4 then 1 else if j = 1 then 3 else if j = 0 then 3 else 0 := fun j hj => by
    rw [hI_n (by omega), aL_I _ _ _ _ _ (by rw [q0]; omega)]
    by_cases e4 : j = 4
    · subst e4; rw [hI_e]; rfl
    · rw [hI_n (by omega), if_neg e4]
      by_cases e1 : j = 1
      · subst e1; rw [hI_e]; rfl
      · rw [hI_n (by omega), if_neg e1]
        by_cases e0 : j = 0
        · subst e0; rw [hI_e]; rfl
        · rw [hI_n (by omega), if_neg e0, hI_hmk, if_pos n1.symm]
  have mZ : ∀ i j, 45 ≤ i → i ≤ 69 → hI (hsI (aL 44 mL (hsI (hsI (hsI (hmk h1 43) 44 0 3) 44 1 3) 44 4 1)) 44 12 0) i j = 0 := fun i j a b => by
    rw [hI_n (by omega)]
    exact aL_Z _ _ _ _ _ (by rw [q0]; exact a) (by rw [q0]; show i < 45 + 25; omega)
  have mR : ∀ s r, slR mL 45 s = some r → hR (hsI (aL 44 mL (hsI (hsI (hsI (hmk h1 43) 44 0 3) 44 1 3) 44 4 1)) 44 12 0) 44 s = some r := fun s r hr => by
    rw [hR_s, aL_S _ _ _ _ (by rw [q0]; omega), q0, hr]
  have cnt : (hsI (aL 44 mL (hsI (hsI (hsI (hmk h1 43) 44 0 3) 44 1 3) 44 4 1)) 44 12 0).1 = (70, 6624) := by
    show (aL 44 mL (hsI (hsI (hsI (hmk h1 43) 44 0 3) 44 1 3) 44 4 1)).1 = _
    rw [aL_1]
    show (h1.1.1 + 1 + 25, h1.1.2 + 43 + 4153) = _
    rw [c1]
  generalize hsI (aL 44 mL (hsI (hsI (hsI (hmk h1 43) 44 0 3) 44 1 3) 44 4 1)) 44 12 0 = h2 at *
  have n2 : h2.1.1 = 70 := by rw [cnt]
  have gok : GOK (w00, w0z, w0z) := ⟨w00_ok, by decide, (fun z => by cases z), ⟨by decide, fun i z => absurd z (by show ¬ i < 0; omega)⟩, ⟨by decide, fun i z => absurd z (by show ¬ i < 0; omega)⟩, ⟨by decide, fun i z => absurd z (by show ¬ i < 0; omega)⟩⟩
  refine ⟨h1, h2, r1', n1, r2', ⟨(w00, w0z, w0z), ?_, ?_⟩, V2, fun i hi j r hr => ?_, fun i hi j r hr => ?_, by omega, by omega, by rw [cnt]; decide⟩
  · refine ⟨⟨mR _ _ rfl, mR _ _ rfl, mR _ _ rfl, mR _ _ rfl, mR _ _ rfl, mR _ _ rfl, mR _ _ rfl, mR _ _ rfl, mR _ _ rfl, mR _ _ rfl, mR _ _ rfl, mR _ _ rfl, mR _ _ rfl, mR _ _ rfl, mR _ _ rfl, mR _ _ rfl, mR _ _ rfl, mR _ _ rfl, mR _ _ rfl, mR _ _ rfl, mR _ _ rfl, mR _ _ rfl, mR _ _ rfl, mR _ _ rfl, mR _ _ rfl⟩, ⟨⟨?_, ?_, ?_, ?_, ?_, ?_⟩, fun p hp => absurd hp (by show ¬ p < 0; omega)⟩, gok, (fun z => by cases z), ?_, ⟨?_, fun i z => absurd z (by show ¬ i < 0; omega)⟩, ⟨?_, fun i z => absurd z (by show ¬ i < 0; omega)⟩, ⟨?_, fun i z => absurd z (by show ¬ i < 0; omega)⟩, fun i z => mZ _ _ (by omega) (by omega)⟩
    all_goals exact mI _ (by decide)
  · refine ⟨fun i => i = 6 ∨ 44 ≤ i, 7, 15, Or.inl ⟨rfl, rfl⟩, ?_, ⟨⟨(lR _ _ (by omega)).trans v15.1, (lR _ _ (by omega)).trans v15.2.1, fun i hi => (lR _ _ (by omega)).trans (v15.2.2 i hi)⟩, ⟨(lR _ _ (by omega)).trans v23.1, (lR _ _ (by omega)).trans v23.2.1, fun i hi => (lR _ _ (by omega)).trans (v23.2.2 i hi)⟩, fun i hi => ?_⟩, ⟨⟨⟨1, (lR _ _ (by omega)).trans m7, ?_, fun i a b => ⟨Or.inl ⟨a, by omega⟩, fun z => by omega⟩, Or.inl rfl, Or.inl rfl, by omega⟩, ⟨(lI _ _ (by omega)).trans i1, (lI _ _ (by omega)).trans i3⟩, ⟨(lR _ _ (by omega)).trans v7.1, (lR _ _ (by omega)).trans v7.2.1, fun i hi => (lR _ _ (by omega)).trans (v7.2.2 i hi)⟩, fun p hp => absurd hp (by show ¬ p < 0; omega), fun p hp => absurd hp (by show ¬ p < 0; omega)⟩, (lI _ _ (by omega)).trans i2⟩, (fun z => by cases z), gok, ⟨(lI _ _ (by omega)).trans j3, ⟨(lI _ _ (by omega)).trans j31, fun i z => absurd z (by show ¬ i < 0; omega)⟩, ⟨(lI _ _ (by omega)).trans j33, fun i z => absurd z (by show ¬ i < 0; omega)⟩, ⟨(lI _ _ (by omega)).trans j8, fun i z => absurd z (by show ¬ i < 0; omega)⟩, fun i _ => (lI _ _ (by omega)).trans (j43 i)⟩, fun i hi => Or.inr (by omega), by omega⟩
    · unfold CX at hX ⊢
      simp (disch := omega) only [lR]
      exact hX
    · rw [lR _ _ (by omega), lR _ _ (by omega), lR _ _ (by omega)]; exact cu i hi
    · obtain ⟨⟨q1, q2, q3, q4, q5⟩, ⟨f0, f1, f2, f3⟩, gg⟩ := cm
      refine ⟨⟨(lR _ _ (by omega)).trans q1, (lR _ _ (by omega)).trans q2, (lR _ _ (by omega)).trans q3, (lR _ _ (by omega)).trans q4, (lR _ _ (by omega)).trans q5⟩, ⟨(lI _ _ (by omega)).trans f0, (lI _ _ (by omega)).trans f1, (lI _ _ (by omega)).trans f2, (lI _ _ (by omega)).trans f3⟩, fun c hc => ?_⟩
      obtain ⟨g1, g2, g3, g4⟩ := gg c hc
      exact ⟨(lI _ _ (by omega)).trans g1, (lI _ _ (by omega)).trans g2, (lI _ _ (by omega)).trans g3, fun s hs => (lI _ _ (by omega)).trans (g4 s hs)⟩
  · rcases Nat.lt_or_ge i 44 with z | z
    · rw [lR i j z] at hr
      have := V1.1 i j r hr
      unfold sC
      omega
    · have z2 : 70 ≤ i := by unfold sC at hi; omega
      rw [V2.2 i j (by omega)] at hr
      cases hr
  · have a := t2 i hi.1 j r hr
    have b := V2.1 i j r hr
    have a : 44 ≤ r.1 := a
    exact ⟨a, by omega⟩
theorem pure_ok : ∃ Inv : Nat → Hp → Prop, lw_pure Inv ∧ lw_start Inv := ⟨Jv, pure_Jv, start_Jv⟩
