/-! THE REFERENCE: the step of one, and a day of all -/
theorem cl_e {a : Nat} (ha : a < 2 ^ 31) : (nI a = 4) = (a = 4) ∧ (nI a = 2) = (a = 2) ∧ (nI a = 1) = (a = 1) ∧ (nI a = 5) = (a = 5) ∧ (nI a = 3) = (a = 3) :=
  ⟨nl_eq ha (by decide), nl_eq ha (by decide), nl_eq ha (by decide), nl_eq ha (by decide), nl_eq ha (by decide)⟩
theorem sWalk_ok {w : Wo} {d p : Nat} (hk : WOK d w) (hp : p < w 0 3) : sWalk w p < 5 ∧ ∃ t, stp w (cel w p) (sWalk w p) = some t := by
  have c5 := (hk.2.2.2.2.2.2 p hp).2.2.2.2.1
  have h4 := stp_stay (cel_fre hk hp) (Nat.le_refl 4)
  unfold sWalk
  split
  · exact ⟨by decide, _, h4⟩
  · rename_i h0
    have hm : w 0 5 % w 3 p < w 3 p := Nat.mod_lt _ (by omega)
    have := c5 _ hm
    cases hq : stp w (cel w p) (w (10 + p) (w 0 5 % w 3 p)) with
    | none => exact ⟨show 4 < 5 by decide, _, h4⟩
    | some t => exact ⟨by simp only; omega, t, hq⟩
theorem sOf_ok {w : Wo} {d p : Nat} (hk : WOK d w) (hp : p < w 0 3) : sOf w p < 5 ∧ ∃ t, stp w (cel w p) (sOf w p) = some t := by
  unfold sOf
  split
  · exact ⟨by decide, _, stp_stay (cel_fre hk hp) (Nat.le_refl 4)⟩
  · split
    · split
      · exact sWalk_ok hk hp
      · obtain ⟨l, -, h2, h3⟩ := sFlee_ok hk hp
        exact ⟨h2, h3⟩
    · split
      · exact sWalk_ok hk hp
      · obtain ⟨l, -, h2, h3⟩ := sHunt_ok hk hp (if w 1 p = 5 then sReck w (w 2 p % w 0 3) else ago w (w 2 p % w 0 3) (if w 1 p = 3 then w 0 4 + 1 else w 0 4))
        exact ⟨h2, h3⟩
theorem m_stepOf (p : Nat) (h : Hp) (w : Wo) (d : Nat) (hW : MW h) (hw : MS h w) (hk : WOK d w) (hd : d ≤ 129) (hp : p < w 0 3) : call 1216 [vo (some (44, 12, 0)), vi (nI p)] h = some (some (vi (nI (sOf w p))), h) := by
  have hW2 := hW
  obtain ⟨w6, w7, -⟩ := hW2
  have k3 := hk.2.2.2.1
  have k4 := hk.2.2.2.2.1
  have hcc := cells_le hk
  obtain ⟨c1, c2, -⟩ := hk.2.2.2.2.2.2 p hp
  obtain ⟨g1, g2, -⟩ := hw.2 p hp
  obtain ⟨-, -, -, f3, f4, f5⟩ := hw.1
  have hne : ¬ nI (w 0 3) = 0 := by rw [nl_e0 (by omega)]; omega
  have hwk := m_walks p h w d hW hw hk hd hp
  have hfl := m_flees p h w d hW hw hk hd hp
  have hq : w 2 p % w 0 3 < w 0 3 := Nat.mod_lt _ (by omega)
  have hrk := m_reckoned (w 2 p % w 0 3) h w d hW hw hk hd hq
  have a1 := m_ago (w 2 p % w 0 3) (w 0 4) h w d hW hw hk hd hq (by omega)
  have a2 := m_ago (w 2 p % w 0 3) (w 0 4 + 1) h w d hW hw hk hd hq (by omega)
  have b1 := ago_lt (k := w 0 4) hk hq
  have b2 := ago_lt (k := w 0 4 + 1) hk hq
  have hh1 := m_hunts p (sReck w (w 2 p % w 0 3)) h w d hW hw hk hd hp (sReck_lt hk)
  have hh2 := m_hunts p (ago w (w 2 p % w 0 3) (w 0 4)) h w d hW hw hk hd hp (by omega)
  have hh3 := m_hunts p (ago w (w 2 p % w 0 3) (w 0 4 + 1)) h w d hW hw hk hd hp (by omega)
  unfold sOf
  by_cases h4 : w 1 p = 4
  · simp (disch := omega) only [e_1216, x_1216, xs, w6, w7, ↓ib_n, cl_n, g1, g2, f3, hne, pk_rem, h4, (cl_e _).1]
    rfl
  by_cases h2 : w 1 p = 2
  · by_cases h1 : w 0 3 = 1
    · have e1 : nI (w 0 3) = 1 := by rw [h1]; rfl
      simp (disch := omega) only [e_1216, x_1216, xs, w6, w7, ↓ib_n, cl_n, g1, g2, f3, hne, pk_rem, h2, h1, nl_eq, cl_e, hwk, dz, show (2 = 4) = False by decide]
    · simp (disch := omega) only [e_1216, x_1216, xs, w6, w7, ↓ib_n, cl_n, g1, g2, f3, hne, pk_rem, h2, h1, nl_eq, cl_e, hfl, show (2 = 4) = False by decide]
  by_cases h0 : w 1 p = 0
  · simp (disch := omega) only [e_1216, x_1216, xs, w6, w7, ↓ib_n, cl_n, g1, g2, f3, hne, pk_rem, h0, nl_eq, nl_e0, cl_e, hwk, show (0 = 4) = False by decide, show (0 = 2) = False by decide, true_or]
  by_cases hs : w 2 p % w 0 3 = p
  · simp (disch := omega) only [e_1216, x_1216, xs, w6, w7, ↓ib_n, cl_n, g1, g2, f3, hne, pk_rem, h0, h2, h4, hs, nl_eq, nl_e0, cl_e, hwk, or_true]
  have hor : ¬ (w 1 p = 0 ∨ w 2 p % w 0 3 = p) := by omega
  by_cases h5 : w 1 p = 5
  · simp (disch := omega) only [e_1216, x_1216, xs, w6, w7, ↓ib_n, cl_n, g1, g2, f3, hne, pk_rem, hor, h0, h2, h4, hs, h5, nl_eq, nl_e0, cl_e, hrk, hh1, false_or, show (5 = 4) = False by decide, show (5 = 2) = False by decide, show (5 = 0) = False by decide]
  by_cases h3 : w 1 p = 3
  · simp (disch := omega) only [e_1216, x_1216, xs, w6, w7, ↓ib_n, cl_n, g1, g2, f3, f4, f5, hne, pk_rem, hor, h0, h2, h4, hs, h5, h3, nl_eq, nl_e0, cl_e, dd2, a2, hh3, false_or, show (3 = 4) = False by decide, show (3 = 2) = False by decide, show (3 = 0) = False by decide, show (3 = 5) = False by decide]
  · simp (disch := omega) only [e_1216, x_1216, xs, w6, w7, ↓ib_n, cl_n, g1, g2, f3, f4, f5, hne, pk_rem, hor, h0, h2, h4, hs, h5, h3, nl_eq, nl_e0, cl_e, a1, hh2, false_or]
