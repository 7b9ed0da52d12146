/-! THE REFERENCE: what watchers look at -/
def lkR (w : Wo) (s : Nat) : Nat → Option Nat → Nat → Nat
  | 0, _, a => a
  | _ + 1, none, a => a
  | n + 1, some t, a => lkR w s n (stp w t s) (a ||| 2 ^ t)
def lkS (w : Wo) (r c : Nat) : Nat → Nat → Nat → Nat
  | 0, _, a => a
  | n + 1, s, a => lkS w r c n (s + 1) (lkR w s r (stp w c s) a)
def lkA (w : Wo) (r c : Nat) : Nat := if fre w c = true then lkS w r c 4 0 (2 ^ c) else 0
theorem hs_hs (h : Hp) (a k : Nat) (x y : Int32) : hsI (hsI h a k x) a k y = hsI h a k y := by
  unfold hsI
  simp only
  congr 2
  funext b j
  by_cases e : b = a ∧ j = k
  · rw [if_pos e, if_pos e]
  · rw [if_neg e, if_neg e, if_neg e]
theorem lkR_lt {w : Wo} {d : Nat} (hk : WOK d w) (s : Nat) : ∀ n to a, a < 2 ^ 30 → (∀ t, to = some t → t < 30) → lkR w s n to a < 2 ^ 30 := by
  intro n
  induction n with
  | zero => intro to a ha _; cases to <;> exact ha
  | succ n ih =>
    intro to a ha ht
    cases to with
    | none => exact ha
    | some t => exact ih _ _ (or_lt ha (ht t rfl)) (fun t2 e => stp_lt hk e)
theorem lkS_lt {w : Wo} {d : Nat} (hk : WOK d w) (r c : Nat) : ∀ n s a, a < 2 ^ 30 → lkS w r c n s a < 2 ^ 30 := by
  intro n
  induction n with
  | zero => intro s a ha; exact ha
  | succ n ih => intro s a ha; exact ih _ _ (lkR_lt hk s r _ a ha (fun t e => stp_lt hk e))
theorem lkA_lt {w : Wo} {d : Nat} (hk : WOK d w) (r c : Nat) : lkA w r c < 2 ^ 30 := by
  unfold lkA
  split
  · rename_i e
    have := fre_lt e
    have := cells_le hk
    exact lkS_lt hk r c _ _ _ (p2_lt (by omega))
  · decide
theorem m_lk_r (d c s r : Nat) (w : Wo) (h : Hp) (hO : WOK d w) (hd : d ≤ 129) (hW : MW h) (hS : MS h w) (hc : c < 30) (hs : s < 4) (hr : r < 2 ^ 31) : ∀ (n k a : Nat) (to : Option Nat), k + n = r → a < 2 ^ 30 → (∀ t, to = some t → fre w t = true) → ∃ l4 l5 : Int32, run 3 1260 62 [some (vo (some (44, 12, 0))), some (vi (nI r)), some (vi (nI c)), some (vi (nI s)), some (vi (oI to)), some (vi (nI k))] [] (hsI h 67 c (nI a)) = run 3 1260 101 [some (vo (some (44, 12, 0))), some (vi (nI r)), some (vi (nI c)), some (vi (nI s)), some (vi l4), some (vi l5)] [] (hsI h 67 c (nI (lkR w s n to a))) := by
  have hcc := cells_le hO
  intro n
  induction n with
  | zero =>
    intro k a to hk ha ht
    have : k = r := by omega
    subst this
    refine ⟨oI to, nI k, ?_⟩
    rw [x_1260_62]
    have e : lkR w s 0 to a = a := by cases to <;> rfl
    rw [e]
    simp (disch := omega) only [x_1260, xs, nl_le, Nat.le_refl]
  | succ n ih =>
    intro k a to hk ha ht
    have hk2 : ¬ r ≤ k := by omega
    rw [x_1260_62]
    cases to with
    | none =>
      refine ⟨-1, nI k, ?_⟩
      simp (disch := omega) only [x_1260, xs, nl_le, hk2, oI_n, m10]
      rfl
    | some t =>
      have hf := ht t rfl
      have hl := fre_lt hf
      have hl2 := p2_lt (show t < 30 by omega)
      have hk3 : kp (fun i _ => i = 67) h (hsI h 67 c (nI (a ||| 2 ^ t))) := kp_I rfl
      have hS1 := MS_o hO hd (fun i j z => by omega) hk3 hS
      have hst := m_stepFrom t s _ w d hS1 hO hl (by omega)
      have w38 : hR (hsI h 67 c (nI a)) 44 38 = some (67, 13, 30) := hW.2.2.2.2.2.2.2.2.2.2.2.2.2.2.2.2.2.2.2.2.2.2.1
      obtain ⟨l4, l5, q⟩ := ih (k + 1) (a ||| 2 ^ t) (stp w t s) (by omega) (or_lt ha (by omega)) (fun t2 e => stp_fre e)
      refine ⟨l4, l5, Eq.trans ?_ q⟩
      simp (disch := omega) only [x_1260, xs, nl_le, hk2, oI_s, nl_l0, w38, ↓ib_n, cl_n, hI_e, nl_s1, nl_or, hs_hs, hst, nl_inc]
theorem m_lk_s (d c r : Nat) (w : Wo) (h : Hp) (hO : WOK d w) (hd : d ≤ 129) (hW : MW h) (hS : MS h w) (hc : fre w c = true) (hr : r < 2 ^ 31) : ∀ (n s a : Nat) (l4 l5 : Option AV), s + n = 4 → a < 2 ^ 30 → ∃ l6 l7 : Option AV, run 3 1260 38 [some (vo (some (44, 12, 0))), some (vi (nI r)), some (vi (nI c)), some (vi (nI s)), l4, l5] [] (hsI h 67 c (nI a)) = run 3 1260 107 [some (vo (some (44, 12, 0))), some (vi (nI r)), some (vi (nI c)), some (vi (nI 4)), l6, l7] [] (hsI h 67 c (nI (lkS w r c n s a))) := by
  have hcc := cells_le hO
  have hl := fre_lt hc
  intro n
  induction n with
  | zero =>
    intro s a l4 l5 hs ha
    have : s = 4 := by omega
    subst this
    refine ⟨l4, l5, ?_⟩
    rw [x_1260_38]
    unfold lkS
    simp (disch := omega) only [x_1260, xs, cz_4, Nat.le_refl]
  | succ n ih =>
    intro s a l4 l5 hs ha
    have h4 : ¬ 4 ≤ s := by omega
    have hk3 : kp (fun i _ => i = 67) h (hsI h 67 c (nI a)) := kp_I rfl
    have hS1 := MS_o hO hd (fun i j z => by omega) hk3 hS
    have hf := m_isFree (nI c) _ w d hS1 hO
    rw [freI_n hO (by omega)] at hf
    have hst := m_stepFrom c s _ w d hS1 hO hl (by omega)
    obtain ⟨x4, x5, q⟩ := m_lk_r d c s r w h hO hd hW hS (by omega) (by omega) hr r 0 a (stp w c s) (by omega) ha (fun t e => stp_fre e)
    obtain ⟨l6, l7, q2⟩ := ih (s + 1) (lkR w s r (stp w c s) a) (some (vi x4)) (some (vi x5)) (by omega) (lkR_lt hO s r _ a ha (fun t e => stp_lt hO e))
    refine ⟨l6, l7, ?_⟩
    unfold lkS
    rw [x_1260_38]
    have e0 : (some (vi (0 : Int32)) : Option AV) = some (vi (nI 0)) := rfl
    have s0 : run 3 1260 39 [some (vo (some (44, 12, 0))), some (vi (nI r)), some (vi (nI c)), some (vi (nI s)), l4, l5] [vi (nI s)] (hsI h 67 c (nI a)) = run 3 1260 62 [some (vo (some (44, 12, 0))), some (vi (nI r)), some (vi (nI c)), some (vi (nI s)), some (vi (oI (stp w c s))), some (vi (nI 0))] [] (hsI h 67 c (nI a)) := by
      rw [← e0]
      simp (disch := omega) only [x_1260, xs, cz_4, h4, hf, hc, bI_t, i10, hst]
    rw [s0, q]
    refine Eq.trans ?_ q2
    simp (disch := omega) only [x_1260, xs, nl_inc]
theorem m_lk_c (d r : Nat) (w : Wo) (h : Hp) (hO : WOK d w) (hd : d ≤ 129) (hW : MW h) (hS : MS h w) (hr : r < 2 ^ 31) : ∀ (n c : Nat) (hh : Hp) (l3 l4 l5 : Option AV), c + n = w 0 0 * w 0 1 → kp (fun i _ => i = 67) h hh → (∀ k, k < c → hI hh 67 k = nI (lkA w r k)) → ∃ h2 : Hp, run 3 1260 2 [some (vo (some (44, 12, 0))), some (vi (nI r)), some (vi (nI c)), l3, l4, l5] [] hh = some (none, h2) ∧ kp (fun i _ => i = 67) h h2 ∧ ∀ k, k < w 0 0 * w 0 1 → hI h2 67 k = nI (lkA w r k) := by
  have hcc := cells_le hO
  intro n
  induction n with
  | zero =>
    intro c hh l3 l4 l5 hc K H
    have : c = w 0 0 * w 0 1 := by omega
    subst this
    obtain ⟨f0, f1, -⟩ := (MS_o hO hd (fun i j z => by omega) K hS).1
    refine ⟨hh, ?_, K, H⟩
    rw [x_1260_2]
    simp (disch := omega) only [x_1260, xs, f0, f1, pk_mul, nl_le, Nat.le_refl]
  | succ n ih =>
    intro c hh l3 l4 l5 hc K H
    have hW1 := MW_k K hW
    have hS1 := MS_o hO hd (fun i j z => by omega) K hS
    obtain ⟨f0, f1, -⟩ := hS1.1
    have hc2 : ¬ w 0 0 * w 0 1 ≤ c := by omega
    have hf := m_isFree (nI c) _ w d hS1 hO
    rw [freI_n hO (by omega)] at hf
    have w38 : hR hh 44 38 = some (67, 13, 30) := hW1.2.2.2.2.2.2.2.2.2.2.2.2.2.2.2.2.2.2.2.2.2.2.1
    have key : ∀ x : Nat, x = lkA w r c → ∀ l3 l4 l5 : Option AV, ∃ h2 : Hp, run 3 1260 2 [some (vo (some (44, 12, 0))), some (vi (nI r)), some (vi (nI (c + 1))), l3, l4, l5] [] (hsI hh 67 c (nI x)) = some (none, h2) ∧ kp (fun i _ => i = 67) h h2 ∧ ∀ k, k < w 0 0 * w 0 1 → hI h2 67 k = nI (lkA w r k) := by
      intro x hx l3 l4 l5
      refine ih (c + 1) _ l3 l4 l5 (by omega) (kp_t K (kp_I rfl)) (fun k hk => ?_)
      rw [hI_s]
      by_cases e : k = c
      · subst e; rw [if_pos ⟨rfl, rfl⟩, hx]
      · rw [if_neg (by omega)]; exact H k (by omega)
    rw [x_1260_2]
    by_cases hfc : fre w c = true
    · obtain ⟨l6, l7, q⟩ := m_lk_s d c r w hh hO hd hW1 hS1 hfc hr 4 0 (2 ^ c) l4 l5 rfl (p2_lt (by omega))
      obtain ⟨h2, r1, r2⟩ := key (lkS w r c 4 0 (2 ^ c)) (by unfold lkA; rw [if_pos hfc]) (some (vi (nI 4))) l6 l7
      refine ⟨h2, ?_, r2⟩
      have e0 : (some (vi (0 : Int32)) : Option AV) = some (vi (nI 0)) := rfl
      simp (disch := omega) only [x_1260, xs, f0, f1, pk_mul, nl_le, hc2, w38, hf, hfc, bI_t, i10, nl_s1, ↓ib_n, cl_n]
      rw [e0, q]
      simp (disch := omega) only [x_1260, xs, nl_inc]
      exact r1
    · have hfc := bnt hfc
      obtain ⟨h2, r1, r2⟩ := key 0 (by unfold lkA; rw [hfc]; simp) (some (vi (0 : Int32))) l4 l5
      refine ⟨h2, ?_, r2⟩
      have z4 : ((4 : Int32) ≤ 0) = False := by simp only [eq_iff_iff, iff_false]; decide
      have hf2 := m_isFree (nI c) (hsI hh 67 c 0) w d (MS_o hO hd (fun i j z => by omega) (kp_I (S := fun i _ => i = 67) rfl) hS1) hO
      rw [freI_n hO (by omega)] at hf2
      simp (disch := omega) only [x_1260, xs, f0, f1, pk_mul, nl_le, hc2, w38, hf, hfc, bI_f, i00, ↓ib_n, cl_n]
      rw [x_1260_38]
      simp (disch := omega) only [x_1260, xs, z4, hf2, hfc, bI_f, i00, nl_inc]
      exact r1
theorem m_lookAll (d r : Nat) (w : Wo) (h : Hp) (hO : WOK d w) (hd : d ≤ 129) (hW : MW h) (hS : MS h w) (hr : r < 2 ^ 31) : ∃ h2 : Hp, call 1260 [vo (some (44, 12, 0)), vi (nI r)] h = some (none, h2) ∧ kp (fun i _ => i = 67) h h2 ∧ ∀ k, k < w 0 0 * w 0 1 → hI h2 67 k = nI (lkA w r k) := by
  obtain ⟨h2, r1, r2⟩ := m_lk_c d r w h hO hd hW hS hr (w 0 0 * w 0 1) 0 h none none none (by omega) (kp_r _ _) (fun k hk => absurd hk (by omega))
  refine ⟨h2, ?_, r2⟩
  simp only [e_1260, x_1260, xs]
  exact r1
