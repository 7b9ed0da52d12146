/-! THE REFERENCE: the game -/
theorem m_worst_l (d to r : Nat) (w : Wo) (h : Hp) (g : Nat → Option Nat) (hO : WOK d w) (hW : MW h) (hS : MS h w) (hto : to < 30) (hr : r < w 0 0 * w 0 1) (hg : ∀ t, t < w 0 0 * w 0 1 → hI h 66 (30 * to + t) = oI (g t)) (hb : ∀ t v, g t = some v → v < 2 ^ 31) : ∀ (n s a : Nat) (l5 l6 : Option AV), s + n = 5 → a < 2 ^ 31 → run 3 1257 12 [some (vo (some (44, 12, 0))), some (vi (nI to)), some (vi (nI r)), some (vi (nI a)), some (vi (nI s)), l5, l6] [] h = some (some (vi (oI (wsF w r g n s a))), h) := by
  have hcc := cells_le hO
  have w37 : hR h 44 37 = some (66, 13, 900) := hW.2.2.2.2.2.2.2.2.2.2.2.2.2.2.2.2.2.2.2.2.2.1
  intro n
  induction n with
  | zero =>
    intro s a l5 l6 hs ha
    have : s = 5 := by omega
    subst this
    rw [x_1257_12]
    simp (disch := omega) only [x_1257, xs, cz_5, Nat.le_refl]
    rfl
  | succ n ih =>
    intro s a l5 l6 hs ha
    have h5 : ¬ 5 ≤ s := by omega
    have hst := m_stepFrom r s h w d hS hO hr (by omega)
    rw [x_1257_12]
    unfold wsF
    cases hq : stp w r s with
    | none =>
      have ha0 : ¬ 0 < 0 := by omega
      have hz : ((0 : Int32) ≤ nI a) = True := nl_g0 ha
      simp only
      rw [← ih (s + 1) a (some (vi (-1))) (some (vi 0)) (by omega) ha]
      simp (disch := omega) only [x_1257, xs, cz_5, h5, nl_l0, hst, hq, oI_n, mm1, ltm, hz, nl_inc]
    | some t =>
      have ht := stp_lt hO hq
      have hgt := hg t (fre_lt (stp_fre hq))
      simp only
      cases hv : g t with
      | none =>
        rw [hv] at hgt
        simp (disch := omega) only [x_1257, xs, cz_5, h5, nl_l0, hst, hq, oI_s, nl_g0, w37, e30, nI_add, ↓ib_n, cl_n, hgt, oI_n, mm1, nl_inc]
        rw [x_1257_12]
        simp (disch := omega) only [x_1257, xs, cz_5, m10]
        split <;> rfl
      | some v =>
        have hv2 := hb t v hv
        rw [hv] at hgt
        simp only
        by_cases e : a < v
        · have e2 : ¬ v ≤ a := by omega
          rw [if_pos e, ← ih (s + 1) v (some (vi (nI t))) (some (vi (nI v))) (by omega) hv2]
          simp (disch := omega) only [x_1257, xs, cz_5, h5, nl_l0, hst, hq, oI_s, nl_g0, w37, e30, nI_add, ↓ib_n, cl_n, hgt, nl_le, e2, nl_inc]
        · have e2 : v ≤ a := by omega
          rw [if_neg e, ← ih (s + 1) a (some (vi (nI t))) (some (vi (nI v))) (by omega) ha]
          simp (disch := omega) only [x_1257, xs, cz_5, h5, nl_l0, hst, hq, oI_s, nl_g0, w37, e30, nI_add, ↓ib_n, cl_n, hgt, nl_le, eq_true e2, nl_inc]
theorem m_worst (d to r : Nat) (w : Wo) (h : Hp) (g : Nat → Option Nat) (hO : WOK d w) (hW : MW h) (hS : MS h w) (hto : to < 30) (hr : r < w 0 0 * w 0 1) (hg : ∀ t, t < w 0 0 * w 0 1 → hI h 66 (30 * to + t) = oI (g t)) (hb : ∀ t v, g t = some v → v < 2 ^ 31) : call 1257 [vo (some (44, 12, 0)), vi (nI to), vi (nI r)] h = some (some (vi (oI (wst w to r g))), h) := by
  have hcc := cells_le hO
  unfold wst
  by_cases e : to = r
  · rw [if_pos e]
    simp (disch := omega) only [e_1257, x_1257, xs, nl_eq, eq_true e]
    rfl
  · rw [if_neg e]
    simp (disch := omega) only [e_1257, x_1257, xs, nl_eq, e]
    exact m_worst_l d to r w h g hO hW hS hto hr hg hb 5 0 0 none none rfl (by decide)
/-- the values of turn T + 1 up to pair k, of turn T behind it -/
def PI (w : Wo) (h : Hp) (T k : Nat) (hh : Hp) : Prop := kp (fun i _ => i = 66) h hh ∧ ∀ a r, a < w 0 0 * w 0 1 → r < w 0 0 * w 0 1 → hI hh 66 (30 * a + r) = oI (lw w (if a * (w 0 0 * w 0 1) + r < k then T + 1 else T) a r)
theorem PI_w {d T k a r : Nat} {w : Wo} {h hh : Hp} (hO : WOK d w) (hdd : d ≤ 129) (hW : MW h) (hS : MS h w) (I : PI w h T k hh) (hT : T ≤ 1000) (ha : a < w 0 0 * w 0 1) (hr : r < w 0 0 * w 0 1) : ∃ o : Option Nat, call 1257 [vo (some (44, 12, 0)), vi (nI a), vi (nI r)] hh = some (some (vi (oI o)), hh) ∧ (∀ v, o = some v → v < 2 ^ 31) ∧ ((∃ v, o = some v ∧ v ≤ T) ↔ hd w (wn w T) a r = true) := by
  have hcc := cells_le hO
  have hS1 := MS_o hO hdd (fun i j z => by omega) I.1 hS
  have hb : ∀ t v, lw w (if a * (w 0 0 * w 0 1) + t < k then T + 1 else T) a t = some v → v < 2 ^ 31 := fun t v e => by
    have := lw_bd e
    split at this <;> omega
  have r1 := m_worst d a r w hh (fun t => lw w (if a * (w 0 0 * w 0 1) + t < k then T + 1 else T) a t) hO (MW_k I.1 hW) hS1 (by omega) hr (fun t ht => I.2 a t ha ht) hb
  refine ⟨_, r1, ?_, wst_hd (fun t _ => lw_le (by split <;> omega))⟩
  intro v e
  have : ∀ n s x u, wsF w r (fun t => lw w (if a * (w 0 0 * w 0 1) + t < k then T + 1 else T) a t) n s x = some u → x ≤ 2000 → u ≤ 2000 := by
    intro n
    induction n with
    | zero => intro s x u e hx; unfold wsF at e; cases e; exact hx
    | succ n ih =>
      intro s x u e hx
      unfold wsF at e
      split at e
      · exact ih _ _ _ e hx
      · split at e
        · cases e
        · rename_i v2 e2
          have := lw_bd e2
          refine ih _ _ _ e ?_
          split
          · split at this <;> omega
          · exact hx
  unfold wst at e
  split at e
  · cases e; decide
  · have := this _ _ _ _ e (by decide)
    omega
theorem m_so_i (d T k a r : Nat) (w : Wo) (h hh : Hp) (hO : WOK d w) (hdd : d ≤ 129) (hW : MW h) (hS : MS h w) (I : PI w h T k hh) (hT : T ≤ 999) (ha : a < w 0 0 * w 0 1) (hr : r < w 0 0 * w 0 1) (l4 : Option AV) (x1 : Int32) : ∀ (n s : Nat) (mo : Int32) (l9 l10 : Option AV), s + n = 5 → ∃ l11 l12 l13 l14 : Option AV,
    run 4 1258 124 [some (vo (some (44, 12, 0))), some (vi x1), some (vi mo), some (vi (nI (T + 1))), l4, some (vi (nI a)), some (vi (nI r)), some (vi 1), some (vi (nI s)), l9, l10] [] hh = run 4 1258 200 [some (vo (some (44, 12, 0))), some (vi x1), some (vi (if anS w a (fun to => hd w (wn w T) to r) n s = true then 1 else mo)), some (vi (nI (T + 1))), l4, some (vi (nI a)), some (vi (nI r)), l11, l12, l13, l14] [] (if anS w a (fun to => hd w (wn w T) to r) n s = true then hsI hh 66 (30 * a + r) (nI (T + 1)) else hh) := by
  have hcc := cells_le hO
  have hS1 := MS_o hO hdd (fun i j z => by omega) I.1 hS
  have w37 : hR hh 44 37 = some (66, 13, 900) := (MW_k I.1 hW).2.2.2.2.2.2.2.2.2.2.2.2.2.2.2.2.2.2.2.2.2.1
  intro n
  induction n with
  | zero =>
    intro s mo l9 l10 hs
    have : s = 5 := by omega
    subst this
    refine ⟨some (vi 1), some (vi (nI 5)), l9, l10, ?_⟩
    rw [x_1258_124]
    unfold anS
    simp (disch := omega) only [x_1258, xs, cz_5, Nat.le_refl, Bool.false_eq_true]
  | succ n ih =>
    intro s mo l9 l10 hs
    have h5 : ¬ 5 ≤ s := by omega
    have hst := m_stepFrom a s hh w d hS1 hO ha (by omega)
    rw [x_1258_124]
    unfold anS
    cases hq : stp w a s with
    | none =>
      obtain ⟨l11, l12, l13, l14, q⟩ := ih (s + 1) mo (some (vi (-1))) (some (vi (-1))) (by omega)
      refine ⟨l11, l12, l13, l14, ?_⟩
      simp only [Bool.false_or]
      rw [← q]
      simp (disch := omega) only [x_1258, xs, cz_5, h5, i10, hst, hq, oI_n, mm1, m10, nl_inc]
    | some t =>
      have ht := stp_lt hO hq
      obtain ⟨o, o1, o2, o3⟩ := PI_w hO hdd hW hS I (by omega) (fre_lt (stp_fre hq)) hr
      simp only
      by_cases hh1 : hd w (wn w T) t r = true
      · obtain ⟨v, rfl, hv⟩ := o3.mpr hh1
        have hv2 : ¬ T + 1 ≤ v := by omega
        refine ⟨some (vi 0), some (vi (nI (s + 1))), some (vi (nI t)), some (vi (nI v)), ?_⟩
        simp only [hh1, Bool.true_or, if_true]
        simp (disch := omega) only [x_1258, xs, cz_5, h5, i10, hst, hq, oI_s, nl_g0, o1, nl_l0, nl_le, hv2, w37, e30, nI_add, ↓ib_n, cl_n, nl_inc]
        rw [x_1258_124]
        simp (disch := omega) only [x_1258, xs, cz_5, i00]
        split <;> rfl
      · have hh1 := bnt hh1
        simp only [hh1, Bool.false_or]
        obtain ⟨l11, l12, l13, l14, q⟩ := ih (s + 1) mo (some (vi (nI t))) (some (vi (oI o))) (by omega)
        refine ⟨l11, l12, l13, l14, ?_⟩
        rw [← q]
        cases o with
        | none => simp (disch := omega) only [x_1258, xs, cz_5, h5, i10, hst, hq, oI_s, nl_g0, o1, oI_n, m10, nl_inc]
        | some v =>
          have hv2 : T + 1 ≤ v := Nat.le_of_not_lt fun z => by
            have := o3.mp ⟨v, rfl, by omega⟩
            rw [hh1] at this
            cases this
          have := o2 v rfl
          simp (disch := omega) only [x_1258, xs, cz_5, h5, i10, hst, hq, oI_s, nl_g0, o1, nl_l0, nl_le, eq_true hv2, nl_inc]
theorem pr_i {A a r a2 r2 : Nat} (hr : r < A) (hr2 : r2 < A) (e : a2 * A + r2 = a * A + r) : a2 = a ∧ r2 = r := by
  rcases Nat.lt_trichotomy a2 a with h | h | h
  · have := Nat.mul_le_mul_right A (show a2 + 1 ≤ a from h)
    rw [Nat.add_mul, Nat.one_mul] at this
    omega
  · subst h; omega
  · have := Nat.mul_le_mul_right A (show a + 1 ≤ a2 from h)
    rw [Nat.add_mul, Nat.one_mul] at this
    omega
theorem pr_lt {A a r : Nat} (ha : a < A) (hr : r < A) : a * A + r < A * A := by
  have := Nat.mul_le_mul_right A (show a + 1 ≤ A from ha)
  rw [Nat.add_mul, Nat.one_mul] at this
  omega
/-- whether turn T + 1 brought something among the first k pairs -/
def Mq (w : Wo) (T k : Nat) (b : Bool) : Prop := b = true ↔ ∃ j, j < k ∧ wn w (T + 1) (j / (w 0 0 * w 0 1)) (j % (w 0 0 * w 0 1)) = true ∧ wn w T (j / (w 0 0 * w 0 1)) (j % (w 0 0 * w 0 1)) = false
theorem Mq_s {w : Wo} {T k : Nat} {b : Bool} (h : Mq w T k b) (hn : ¬ (wn w (T + 1) (k / (w 0 0 * w 0 1)) (k % (w 0 0 * w 0 1)) = true ∧ wn w T (k / (w 0 0 * w 0 1)) (k % (w 0 0 * w 0 1)) = false)) : Mq w T (k + 1) b := by
  unfold Mq at *
  rw [h]
  constructor
  · rintro ⟨j, a, c⟩; exact ⟨j, by omega, c⟩
  · rintro ⟨j, a, c⟩
    by_cases e : j = k
    · subst e; exact absurd c hn
    · exact ⟨j, by omega, c⟩
theorem PI_s {w : Wo} {T k : Nat} {h hh h2 : Hp} (I : PI w h T k hh) (k2 : kp (fun i _ => i = 66) hh h2) (hA : 0 < w 0 0 * w 0 1) (e : hI h2 66 (30 * (k / (w 0 0 * w 0 1)) + k % (w 0 0 * w 0 1)) = oI (lw w (T + 1) (k / (w 0 0 * w 0 1)) (k % (w 0 0 * w 0 1)))) (o : ∀ j, j ≠ 30 * (k / (w 0 0 * w 0 1)) + k % (w 0 0 * w 0 1) → hI h2 66 j = hI hh 66 j) (hA2 : w 0 0 * w 0 1 ≤ 30) : PI w h T (k + 1) h2 := by
  refine ⟨kp_t I.1 k2, fun a r ha hr => ?_⟩
  have hk : k / (w 0 0 * w 0 1) * (w 0 0 * w 0 1) + k % (w 0 0 * w 0 1) = k := by rw [Nat.mul_comm]; exact Nat.div_add_mod _ _
  have hm : k % (w 0 0 * w 0 1) < w 0 0 * w 0 1 := Nat.mod_lt _ hA
  by_cases z : a * (w 0 0 * w 0 1) + r = k
  · obtain ⟨e1, e2⟩ := pr_i hm hr (z.trans hk.symm)
    rw [e1, e2, e, if_pos (by rw [← e1, ← e2]; omega)]
  · have hn : ¬ (a = k / (w 0 0 * w 0 1) ∧ r = k % (w 0 0 * w 0 1)) := by
      rintro ⟨e1, e2⟩
      rw [e1, e2] at z
      exact z hk
    rw [o _ (by omega), I.2 a r ha hr]
    have : (a * (w 0 0 * w 0 1) + r < k + 1) = (a * (w 0 0 * w 0 1) + r < k) := by
      rw [eq_iff_iff]
      omega
    simp only [this]
