/-! THE REFERENCE: sets of watchers, one after another -/
def evB (ch : Nat → Nat) : Nat → Nat → Nat → Nat
  | 0, _, a => a
  | n + 1, k, a => evB ch n (k + 1) (a ||| 2 ^ ch k)
def evL (L ch : Nat → Nat) : Nat → Nat → Nat → Nat
  | 0, _, a => a
  | n + 1, k, a => evL L ch n (k + 1) (a ||| L (ch k))
def evR (w : Wo) (ch : Nat → Nat) : Nat → Nat → Bool → Bool
  | 0, _, b => b
  | n + 1, k, b => evR w ch n (k + 1) (b && fre w (ch k))
def plF (A m : Nat) (ch : Nat → Nat) : Nat → Option Nat
  | 0 => none
  | k + 1 => if ch k = A - m + k then plF A m ch k else some k
def nxC (p : Nat) (ch : Nat → Nat) (i : Nat) : Nat := if i < p then ch i else ch p + 1 + (i - p)
def gdC (w : Wo) (L : Nat → Nat) (m : Nat) (ch : Nat → Nat) : Bool := evR w ch m 0 true && decide (evL L ch m 0 0 = frB w)
def fsE (w : Wo) (L : Nat → Nat) (m : Nat) : Nat → (Nat → Nat) → Option Nat
  | 0, _ => none
  | n + 1, ch => if gdC w L m ch = true then some (evB ch m 0 0) else match plF (w 0 0 * w 0 1) m ch m with
    | none => none
    | some p => fsE w L m n (nxC p ch)
/-- what the rows hold -/
def FS (w : Wo) (L : Nat → Nat) (m : Nat) (ch : Nat → Nat) (h : Hp) : Prop := (∀ c, c < w 0 0 * w 0 1 → hI h 67 c = nI (L c) ∧ L c < 2 ^ 30) ∧ (∀ k, k < m → hI h 68 k = nI (ch k)) ∧ ∀ k, k < m → ch k ≤ w 0 0 * w 0 1 - m + k
theorem m_fs_e (d m : Nat) (w : Wo) (L ch : Nat → Nat) (h : Hp) (hO : WOK d w) (hW : MW h) (hS : MS h w) (hm : m ≤ 4) (hF : FS w L m ch h) (l2 l3 : Option AV) (l9 : Option AV) (x4 : Int32) : ∀ (n k b s : Nat) (f : Bool), k + n = m → b < 2 ^ 30 → s < 2 ^ 30 → run 2 1261 68 [some (vo (some (44, 12, 0))), some (vi (nI m)), l2, l3, some (vi x4), some (vi (nI b)), some (vi (nI s)), some (vi (bI f)), some (vi (nI k)), l9] [] h = run 2 1261 137 [some (vo (some (44, 12, 0))), some (vi (nI m)), l2, l3, some (vi x4), some (vi (nI (evB ch n k b))), some (vi (nI (evL L ch n k s))), some (vi (bI (evR w ch n k f))), some (vi (nI m)), l9] [] h := by
  have hcc := cells_le hO
  obtain ⟨F1, F2, F3⟩ := hF
  have w38 : hR h 44 38 = some (67, 13, 30) := hW.2.2.2.2.2.2.2.2.2.2.2.2.2.2.2.2.2.2.2.2.2.2.1
  have w40 : hR h 44 40 = some (68, 13, 4) := hW.2.2.2.2.2.2.2.2.2.2.2.2.2.2.2.2.2.2.2.2.2.2.2.1
  intro n
  induction n with
  | zero =>
    intro k b s f hk hb hs
    have : k = m := by omega
    subst this
    rw [x_1261_68]
    unfold evB evL evR
    simp (disch := omega) only [x_1261, xs, nl_le, Nat.le_refl]
  | succ n ih =>
    intro k b s f hk hb hs
    have hk2 : ¬ m ≤ k := by omega
    have e1 := F2 k (by omega)
    have e2 := F3 k (by omega)
    obtain ⟨e3, e4⟩ := F1 (ch k) (by omega)
    have hf := m_isFree (nI (ch k)) h w d hS hO
    rw [freI_n hO (by omega)] at hf
    have hp := p2_lt (show ch k < 30 by omega)
    unfold evB evL evR
    rw [x_1261_68]
    refine Eq.trans ?_ (ih (k + 1) (b ||| 2 ^ ch k) (s ||| L (ch k)) (f && fre w (ch k)) (by omega) (or_lt hb (by omega)) (Nat.or_lt_two_pow hs e4))
    cases f with
    | false =>
      simp (disch := omega) only [x_1261, xs, nl_le, hk2, bI_f, i00, w38, w40, ↓ib_n, cl_n, e1, e3, nl_s1, nl_or, nl_inc, Bool.false_and]
    | true =>
      by_cases hfr : fre w (ch k) = true
      · simp (disch := omega) only [x_1261, xs, nl_le, hk2, bI_t, i10, w38, w40, ↓ib_n, cl_n, e1, e3, hf, hfr, nl_s1, nl_or, nl_inc, Bool.and_self]
      · have hfr := bnt hfr
        simp (disch := omega) only [x_1261, xs, nl_le, hk2, bI_t, bI_f, i10, i00, w38, w40, ↓ib_n, cl_n, e1, e3, hf, hfr, nl_s1, nl_or, nl_inc, Bool.and_false]
theorem m_fs_p (d m : Nat) (w : Wo) (L ch : Nat → Nat) (h : Hp) (hO : WOK d w) (hW : MW h) (hm : m ≤ 4) (hmA : m ≤ w 0 0 * w 0 1) (hF : FS w L m ch h) (l3 l4 l5 l6 l9 : Option AV) (x7 : Int32) : ∀ (j : Nat), j ≤ m → run 2 1261 161 [some (vo (some (44, 12, 0))), some (vi (nI m)), some (vi (nI (w 0 0 * w 0 1))), l3, l4, l5, l6, some (vi x7), some (vi (nI j - 1)), l9] [] h = run 2 1261 188 [some (vo (some (44, 12, 0))), some (vi (nI m)), some (vi (nI (w 0 0 * w 0 1))), l3, l4, l5, l6, some (vi x7), some (vi (oI (plF (w 0 0 * w 0 1) m ch j))), l9] [] h := by
  have hcc := cells_le hO
  obtain ⟨F1, F2, F3⟩ := hF
  have w40 : hR h 44 40 = some (68, 13, 4) := hW.2.2.2.2.2.2.2.2.2.2.2.2.2.2.2.2.2.2.2.2.2.2.2.1
  intro j
  induction j with
  | zero =>
    intro _
    have e : nI 0 - 1 = (-1 : Int32) := rfl
    rw [x_1261_161]
    unfold plF
    simp (disch := omega) only [x_1261, xs, e, m10, oI_n]
  | succ j ih =>
    intro hj
    have e : nI (j + 1) - 1 = nI j := by rw [show (1 : Int32) = nI 1 from rfl, pk_sub (by omega)]; rfl
    have e1 := F2 j (by omega)
    have e2 := F3 j (by omega)
    have e3 : nI (w 0 0 * w 0 1) - nI m = nI (w 0 0 * w 0 1 - m) := pk_sub hmA
    have em : nI j + -1 = nI j - 1 := by rw [Int32.sub_eq_add_neg]
    rw [x_1261_161, e]
    unfold plF
    by_cases z : ch j = w 0 0 * w 0 1 - m + j
    · rw [if_pos z, ← ih (by omega)]
      simp (disch := omega) only [x_1261, xs, nl_l0, w40, ↓ib_n, cl_n, e1, e3, nI_add, nl_eq, eq_true z, em]
    · rw [if_neg z]
      simp (disch := omega) only [x_1261, xs, nl_l0, w40, ↓ib_n, cl_n, e1, e3, nI_add, nl_eq, z, oI_s]
theorem m_fs_u (d m p : Nat) (w : Wo) (ch : Nat → Nat) (h : Hp) (hO : WOK d w) (hW : MW h) (hm : m ≤ 4) (hp : p < m) (hb : ∀ i, i < m → ch i < 30) (l2 l3 l5 l6 l7 : Option AV) : ∀ (n k : Nat) (hh : Hp), k + n = m → p ≤ k → kp (fun i _ => i = 68) h hh → (∀ i, i < m → hI hh 68 i = nI (if i < k then nxC p ch i else ch i)) → ∃ h2 : Hp, run 2 1261 204 [some (vo (some (44, 12, 0))), some (vi (nI m)), l2, l3, some (vi 1), l5, l6, l7, some (vi (nI p)), some (vi (nI k))] [] hh = run 2 1261 51 [some (vo (some (44, 12, 0))), some (vi (nI m)), l2, l3, some (vi 1), l5, l6, l7, some (vi (nI p)), some (vi (nI m))] [] h2 ∧ kp (fun i _ => i = 68) h h2 ∧ ∀ i, i < m → hI h2 68 i = nI (nxC p ch i) := by
  intro n
  induction n with
  | zero =>
    intro k hh hk hpk K H
    have : k = m := by omega
    subst this
    refine ⟨hh, ?_, K, fun i hi => by rw [H i hi, if_pos hi]⟩
    rw [x_1261_204]
    simp (disch := omega) only [x_1261, xs, nl_le, Nat.le_refl]
  | succ n ih =>
    intro k hh hk hpk K H
    have hk2 : ¬ m ≤ k := by omega
    have w40 : hR hh 44 40 = some (68, 13, 4) := (MW_k K hW).2.2.2.2.2.2.2.2.2.2.2.2.2.2.2.2.2.2.2.2.2.2.2.1
    have key : ∀ x, x = nxC p ch k → ∃ h2 : Hp, run 2 1261 204 [some (vo (some (44, 12, 0))), some (vi (nI m)), l2, l3, some (vi 1), l5, l6, l7, some (vi (nI p)), some (vi (nI (k + 1)))] [] (hsI hh 68 k (nI x)) = run 2 1261 51 [some (vo (some (44, 12, 0))), some (vi (nI m)), l2, l3, some (vi 1), l5, l6, l7, some (vi (nI p)), some (vi (nI m))] [] h2 ∧ kp (fun i _ => i = 68) h h2 ∧ ∀ i, i < m → hI h2 68 i = nI (nxC p ch i) := by
      intro x hx
      refine ih (k + 1) _ (by omega) (by omega) (kp_t K (kp_I rfl)) (fun i hi => ?_)
      rw [hI_s]
      by_cases e : i = k
      · subst e; rw [if_pos ⟨rfl, rfl⟩, if_pos (by omega), hx]
      · rw [if_neg (by omega), H i hi]
        by_cases e2 : i < k
        · rw [if_pos e2, if_pos (by omega)]
        · rw [if_neg e2, if_neg (by omega)]
    rw [x_1261_204]
    by_cases e : k = p
    · have v := H k (by omega)
      rw [if_neg (by omega)] at v
      obtain ⟨h2, r1, r2⟩ := key (ch k + 1) (by unfold nxC; rw [if_neg (by omega), e]; omega)
      refine ⟨h2, Eq.trans ?_ r1, r2⟩
      simp (disch := omega) only [x_1261, xs, nl_le, hk2, i10, nl_eq, eq_true e, w40, ↓ib_n, cl_n, v, nl_inc]
    · have v := H (k - 1) (by omega)
      rw [if_pos (by omega)] at v
      have e1 : nI k - 1 = nI (k - 1) := by rw [show (1 : Int32) = nI 1 from rfl, pk_sub (by omega)]
      obtain ⟨h2, r1, r2⟩ := key (nxC p ch (k - 1) + 1) (by unfold nxC; rw [if_neg (by omega), if_neg (by omega)]; omega)
      refine ⟨h2, Eq.trans ?_ r1, r2⟩
      simp (disch := omega) only [x_1261, xs, nl_le, hk2, i10, nl_eq, e, w40, ↓ib_n, cl_n, e1, v, nl_inc]
