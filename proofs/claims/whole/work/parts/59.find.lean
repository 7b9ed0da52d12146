/-! THE REFERENCE: findSet, watchers -/
def vlF (ch : Nat → Nat) : Nat → Nat
  | 0 => 0
  | k + 1 => vlF ch k * 31 + ch k
theorem vlF_lt {ch : Nat → Nat} : ∀ m, (∀ k, k < m → ch k ≤ 30) → vlF ch m < 31 ^ m := by
  intro m
  induction m with
  | zero => intro _; exact Nat.zero_lt_one
  | succ m ih =>
    intro h
    have := ih (fun k hk => h k (by omega))
    have := h m (by omega)
    unfold vlF
    rw [Nat.pow_succ]
    omega
theorem vlF_c {ch ch2 : Nat → Nat} : ∀ m, (∀ k, k < m → ch k = ch2 k) → vlF ch m = vlF ch2 m := by
  intro m
  induction m with
  | zero => intro _; rfl
  | succ m ih => intro h; unfold vlF; rw [ih (fun k hk => h k (by omega)), h m (by omega)]
theorem vlF_n {ch : Nat → Nat} {p : Nat} : ∀ m, p < m → (∀ k, k < m → ch k ≤ 30) → vlF ch m < vlF (nxC p ch) m := by
  intro m
  induction m with
  | zero => intro h; omega
  | succ m ih =>
    intro hp h
    have h1 := h m (by omega)
    unfold vlF
    by_cases e : p = m
    · subst e
      rw [vlF_c p (fun k hk => show ch k = nxC p ch k by unfold nxC; rw [if_pos hk])]
      have : nxC p ch p = ch p + 1 := by unfold nxC; rw [if_neg (by omega)]; omega
      omega
    · have := ih (by omega) (fun k hk => h k (by omega))
      omega
theorem plF_s {A m : Nat} {ch : Nat → Nat} : ∀ j p, plF A m ch j = some p → p < j ∧ ch p ≠ A - m + p := by
  intro j
  induction j with
  | zero => intro p h; cases h
  | succ j ih =>
    intro p h
    unfold plF at h
    split at h
    · have := ih p h; exact ⟨by omega, this.2⟩
    · rename_i e; cases h; exact ⟨by omega, e⟩
def fS (i j : Nat) : Prop := i = 68 ∨ (i = 44 ∧ j = 39)
theorem m_fs_l (d m : Nat) (w : Wo) (L : Nat → Nat) (h : Hp) (hO : WOK d w) (hd : d ≤ 129) (hW : MW h) (hS : MS h w) (hm : m ≤ 4) (hm0 : 0 < m) (hmA : m ≤ w 0 0 * w 0 1) : ∀ (n : Nat) (ch : Nat → Nat) (hh : Hp) (l5 l6 l7 l8 l9 : Option AV), 31 ^ m ≤ vlF ch m + n → kp (fun i _ => i = 68) h hh → FS w L m ch hh → ∃ h2 : Hp, run 2 1261 51 [some (vo (some (44, 12, 0))), some (vi (nI m)), some (vi (nI (w 0 0 * w 0 1))), some (vi (nI (frB w))), some (vi 1), l5, l6, l7, l8, l9] [] hh = some (some (vi (bI (fsE w L m n ch).isSome)), h2) ∧ kp fS h h2 ∧ ∀ b, fsE w L m n ch = some b → hI h2 44 39 = nI b := by
  have hcc := cells_le hO
  have hfb := frB_lt hO
  have e0 : (some (vi (0 : Int32)) : Option AV) = some (vi (nI 0)) := rfl
  have e1 : (some (vi (1 : Int32)) : Option AV) = some (vi (bI true)) := rfl
  intro n
  induction n with
  | zero =>
    intro ch hh l5 l6 l7 l8 l9 hv K F
    have := vlF_lt (ch := ch) m (fun k hk => by have := F.2.2 k hk; omega)
    omega
  | succ n ih =>
    intro ch hh l5 l6 l7 l8 l9 hv K F
    have hW1 := MW_k K hW
    have hS1 := MS_o hO hd (fun i j z => by omega) K hS
    have q1 := m_fs_e d m w L ch hh hO hW1 hS1 hm F (some (vi (nI (w 0 0 * w 0 1)))) (some (vi (nI (frB w)))) l9 1 m 0 0 0 true (by omega) (by decide) (by decide)
    have hLlt : evL L ch m 0 0 < 2 ^ 30 := by
      have key : ∀ n k a, k + n = m → a < 2 ^ 30 → evL L ch n k a < 2 ^ 30 := by
        intro n
        induction n with
        | zero => intro k a _ ha; exact ha
        | succ n ih2 =>
          intro k a hk ha
          have := F.2.2 k (by omega)
          exact ih2 _ _ (by omega) (Nat.or_lt_two_pow ha (F.1 _ (by omega)).2)
      exact key m 0 0 (by omega) (by decide)
    have s0 : run 2 1261 51 [some (vo (some (44, 12, 0))), some (vi (nI m)), some (vi (nI (w 0 0 * w 0 1))), some (vi (nI (frB w))), some (vi 1), l5, l6, l7, l8, l9] [] hh = run 2 1261 68 [some (vo (some (44, 12, 0))), some (vi (nI m)), some (vi (nI (w 0 0 * w 0 1))), some (vi (nI (frB w))), some (vi 1), some (vi (nI 0)), some (vi (nI 0)), some (vi (bI true)), some (vi (nI 0)), l9] [] hh := by
      rw [x_1261_51, ← e0, ← e1]
      simp (disch := omega) only [x_1261, xs, i10]
    rw [s0, q1]
    unfold fsE
    by_cases hg : gdC w L m ch = true
    · rw [if_pos hg]
      unfold gdC at hg
      rw [Bool.and_eq_true] at hg
      obtain ⟨g1, g2⟩ := hg
      have g2 := of_decide_eq_true g2
      refine ⟨hsI hh 44 39 (nI (evB ch m 0 0)), ?_, kp_t (kp_m K (fun i j z => Or.inl z)) (kp_I (Or.inr ⟨rfl, rfl⟩)), fun b hb => by cases hb; exact hI_e _ _ _ _⟩
      simp (disch := omega) only [x_1261, xs, g1, bI_t, i10, nl_eq, eq_true g2, Option.isSome]
    · rw [if_neg hg]
      have p1 := m_fs_p d m w L ch hh hO hW1 hm hmA F (some (vi (nI (frB w)))) (some (vi 1)) (some (vi (nI (evB ch m 0 0)))) (some (vi (nI (evL L ch m 0 0)))) l9 (bI (evR w ch m 0 true)) m (Nat.le_refl _)
      have s1 : run 2 1261 137 [some (vo (some (44, 12, 0))), some (vi (nI m)), some (vi (nI (w 0 0 * w 0 1))), some (vi (nI (frB w))), some (vi 1), some (vi (nI (evB ch m 0 0))), some (vi (nI (evL L ch m 0 0))), some (vi (bI (evR w ch m 0 true))), some (vi (nI m)), l9] [] hh = run 2 1261 161 [some (vo (some (44, 12, 0))), some (vi (nI m)), some (vi (nI (w 0 0 * w 0 1))), some (vi (nI (frB w))), some (vi 1), some (vi (nI (evB ch m 0 0))), some (vi (nI (evL L ch m 0 0))), some (vi (bI (evR w ch m 0 true))), some (vi (nI m - 1)), l9] [] hh := by
        unfold gdC at hg
        by_cases g1 : evR w ch m 0 true = true
        · have g2 : ¬ evL L ch m 0 0 = frB w := fun z => hg (by rw [g1, z]; simp)
          simp (disch := omega) only [x_1261, xs, g1, bI_t, i10, nl_eq, g2]
        · have g1 := bnt g1
          simp (disch := omega) only [x_1261, xs, g1, bI_f, i00]
      rw [s1, p1]
      cases hp : plF (w 0 0 * w 0 1) m ch m with
      | none =>
        refine ⟨hh, ?_, kp_m K (fun i j z => Or.inl z), fun b hb => by cases hb⟩
        simp (disch := omega) only [x_1261, xs, oI_n, m10]
        rw [x_1261_204]
        have zm : (nI m ≤ -1) = False := by
          simp only [eq_iff_iff, iff_false]
          rw [Int32.le_iff_toInt_le, nI_toInt (by omega), show (-1 : Int32).toInt = -1 by decide]
          omega
        simp (disch := omega) only [x_1261, xs, zm, i00]
        rw [x_1261_51]
        simp (disch := omega) only [x_1261, xs, i00]
        rfl
      | some p =>
        obtain ⟨hpm, hpn⟩ := plF_s _ _ hp
        have hcp := F.2.2 p hpm
        obtain ⟨h2, u1, u2, u3⟩ := m_fs_u d m p w ch hh hO hW1 hm hpm (fun i hi => by have := F.2.2 i hi; omega) (some (vi (nI (w 0 0 * w 0 1)))) (some (vi (nI (frB w)))) (some (vi (nI (evB ch m 0 0)))) (some (vi (nI (evL L ch m 0 0)))) (some (vi (bI (evR w ch m 0 true)))) (m - p) p hh (by omega) (Nat.le_refl _) (kp_r _ _) (fun i hi => by
          rw [F.2.1 i hi]
          split
          · rename_i z; unfold nxC; rw [if_pos z]
          · rfl)
        have hvn := vlF_n (ch := ch) m hpm (fun k hk => by have := F.2.2 k hk; omega)
        have F2 : FS w L m (nxC p ch) h2 := by
          refine ⟨fun c hc => ?_, u3, fun k hk => ?_⟩
          · rw [u2.2.2 67 c (by omega)]; exact F.1 c hc
          · unfold nxC
            split
            · exact F.2.2 k hk
            · omega
        obtain ⟨h3, t1, t2, t3⟩ := ih (nxC p ch) h2 (some (vi (nI (evB ch m 0 0)))) (some (vi (nI (evL L ch m 0 0)))) (some (vi (bI (evR w ch m 0 true)))) (some (vi (nI p))) (some (vi (nI m))) (by omega) (kp_t K u2) F2
        refine ⟨h3, ?_, t2, t3⟩
        simp only
        rw [← t1, ← u1]
        simp (disch := omega) only [x_1261, xs, oI_s, nl_l0]
