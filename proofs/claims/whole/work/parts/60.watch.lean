/-! THE REFERENCE: watchers -/
def fnd (w : Wo) (r m : Nat) : Option Nat := fsE w (lkA w r) m 923521 (fun k => k)
theorem m_fs_0 (m : Nat) (h : Hp) (hW : MW h) (hm : m ≤ 4) (l2 : Option AV) (x3 : Int32) : ∀ (n k : Nat) (hh : Hp), k + n = m → kp (fun i _ => i = 68) h hh → (∀ i, i < k → hI hh 68 i = nI i) → ∃ h2 : Hp, run 2 1261 18 [some (vo (some (44, 12, 0))), some (vi (nI m)), l2, some (vi x3), some (vi (nI k)), none, none, none, none, none] [] hh = run 2 1261 39 [some (vo (some (44, 12, 0))), some (vi (nI m)), l2, some (vi x3), some (vi (nI m)), none, none, none, none, none] [] h2 ∧ kp (fun i _ => i = 68) h h2 ∧ ∀ i, i < m → hI h2 68 i = nI i := by
  intro n
  induction n with
  | zero =>
    intro k hh hk K H
    have : k = m := by omega
    subst this
    refine ⟨hh, ?_, K, H⟩
    rw [x_1261_18]
    simp (disch := omega) only [x_1261, xs, nl_le, Nat.le_refl]
  | succ n ih =>
    intro k hh hk K H
    have hk2 : ¬ m ≤ k := by omega
    have w40 : hR hh 44 40 = some (68, 13, 4) := (MW_k K hW).2.2.2.2.2.2.2.2.2.2.2.2.2.2.2.2.2.2.2.2.2.2.2.1
    obtain ⟨h2, r1, r2⟩ := ih (k + 1) (hsI hh 68 k (nI k)) (by omega) (kp_t K (kp_I rfl)) (fun i hi => by
      rw [hI_s]
      by_cases e : i = k
      · subst e; rw [if_pos ⟨rfl, rfl⟩]
      · rw [if_neg (by omega)]; exact H i (by omega))
    refine ⟨h2, Eq.trans ?_ r1, r2⟩
    rw [x_1261_18]
    simp (disch := omega) only [x_1261, xs, nl_le, hk2, w40, ↓ib_n, cl_n, nl_inc]
theorem m_findSet (d m r : Nat) (w : Wo) (h : Hp) (hO : WOK d w) (hd : d ≤ 129) (hW : MW h) (hS : MS h w) (hm : m ≤ 4) (hm0 : 0 < m) (hL : ∀ c, c < w 0 0 * w 0 1 → hI h 67 c = nI (lkA w r c)) : ∃ h2 : Hp, call 1261 [vo (some (44, 12, 0)), vi (nI m)] h = some (some (vi (bI (fnd w r m).isSome)), h2) ∧ kp fS h h2 ∧ ∀ b, fnd w r m = some b → hI h2 44 39 = nI b := by
  have hcc := cells_le hO
  obtain ⟨f0, f1, -⟩ := hS.1
  have hfb := m_freeBits h w d hS hO
  obtain ⟨h1, r1, K, H⟩ := m_fs_0 m h hW hm (some (vi (nI (w 0 0 * w 0 1)))) (nI (frB w)) m 0 h (by omega) (kp_r _ _) (fun i hi => absurd hi (by omega))
  have F : FS w (lkA w r) m (fun k => k) h1 := ⟨fun c hc => ⟨by rw [K.2.2 67 c (by omega)]; exact hL c hc, lkA_lt hO r c⟩, H, fun k hk => by simp only; omega⟩
  have hf : 31 ^ m ≤ vlF (fun k => k) m + 923521 := Nat.le_trans (Nat.le_trans (Nat.pow_le_pow_right (by decide) hm) (by decide : 31 ^ 4 ≤ 923521)) (Nat.le_add_left _ _)
  obtain ⟨h2, t1, t2, t3⟩ := m_fs_l d m w (lkA w r) h hO hd hW hS hm hm0 (by omega) 923521 (fun k => k) h1 none none none none none hf K F
  refine ⟨h2, ?_, t2, t3⟩
  have r1' : run 2 1261 18 [some (vo (some (44, 12, 0))), some (vi (nI m)), some (vi (nI (w 0 0 * w 0 1))), some (vi (nI (frB w))), some (vi 0), none, none, none, none, none] [] h = _ := r1
  have hmA : ¬ w 0 0 * w 0 1 < m := by omega
  simp (disch := omega) only [e_1261, x_1261, xs, f0, f1, pk_mul, hfb]
  rw [r1']
  simp (disch := omega) only [x_1261, xs, nl_lt, hmA]
  exact t1
def wtF (w : Wo) (r : Nat) : Nat → Nat → Option (Nat × Nat)
  | 0, _ => none
  | n + 1, m => match fnd w r m with
    | some b => some (m, b)
    | none => wtF w r n (m + 1)
def wtA (e : Nat) (o : Option (Nat × Nat)) : Int32 := match o with
  | none => -9
  | some (m, b) => if e = 0 then nI m else nI b
theorem m_wt_l (d r e : Nat) (w : Wo) (h : Hp) (hO : WOK d w) (hd : d ≤ 129) (hW : MW h) (hS : MS h w) (he : e ≤ 1) (hfr : frB w ≠ 0) (l1 : Option AV) (x3 : Int32) : ∀ (n m : Nat) (hh : Hp), m + n = 5 → 0 < m → kp fS h hh → (∀ c, c < w 0 0 * w 0 1 → hI hh 67 c = nI (lkA w r c)) → ∃ h2 : Hp, run 4 1262 51 [some (vo (some (44, 12, 0))), l1, some (vi (nI e)), some (vi x3), some (vi (nI m))] [] hh = some (some (vi (wtA e (wtF w r n m))), h2) ∧ kp fS h h2 := by
  have hfl := frB_lt hO
  intro n
  induction n with
  | zero =>
    intro m hh hm hm0 K H
    have : m = 5 := by omega
    subst this
    refine ⟨hh, ?_, K⟩
    rw [x_1262_51]
    simp (disch := omega) only [x_1262, xs, cz_5, Nat.le_refl]
    rfl
  | succ n ih =>
    intro m hh hm hm0 K H
    have h5 : ¬ 5 ≤ m := by omega
    have hW1 := MW_k K hW
    have hS1 : MS hh w := by
      have un : ∀ i j, i ≤ 50 → (i ≠ 44 ∨ j ≠ 39) → hI hh i j = hI h i j := fun i j hi hj => K.2.2 i j (fun z => by unfold fS at z; omega)
      exact MSg_d hO hd hS (fun j hj => un _ _ (by decide) (by omega)) (fun p _ => ⟨un _ _ (by decide) (by omega), un _ _ (by decide) (by omega), un _ _ (by decide) (by omega), un _ _ (by decide) (by omega)⟩) (fun i _ => un _ _ (by decide) (by omega)) (fun j _ => un _ _ (by decide) (by omega))
    have hfb := m_freeBits hh w d hS1 hO
    have hfz : ¬ nI (frB w) = 0 := by rw [nl_e0 (by omega)]; exact hfr
    obtain ⟨h2, t1, t2, t3⟩ := m_findSet d m r w hh hO hd hW1 hS1 (by omega) hm0 H
    rw [x_1262_51]
    unfold wtF
    cases hq : fnd w r m with
    | some b =>
      rw [hq] at t1
      have t3 := t3 b hq
      refine ⟨h2, ?_, kp_t K t2⟩
      rcases (show e = 0 ∨ e = 1 by omega) with rfl | rfl
      · simp (disch := omega) only [x_1262, xs, cz_5, h5, hfb, hfz, t1, Option.isSome, bI_t, i10, dz]
        rfl
      · simp (disch := omega) only [x_1262, xs, cz_5, h5, hfb, hfz, t1, Option.isSome, bI_t, i10, dz, t3]
        rfl
    | none =>
      rw [hq] at t1
      obtain ⟨h3, u1, u2⟩ := ih (m + 1) h2 (by omega) (by omega) (kp_t K t2) (fun c hc => by rw [t2.2.2 67 c (by unfold fS; omega)]; exact H c hc)
      refine ⟨h3, Eq.trans ?_ u1, u2⟩
      simp (disch := omega) only [x_1262, xs, cz_5, h5, hfb, hfz, t1, Option.isSome, bI_f, i00, nl_inc]
def s_watch (r x : Int32) (σ : St) : Int32 × St := if r < nI 1 then (-4, rz σ 4) else if nI 5 < r then (-6, rz σ 6) else if x < 0 ∨ 1 < x then (-2, rz σ 2) else (if frB σ.1 = 0 then -9 else wtA x.toNatClampNeg (wtF σ.1 r.toNatClampNeg 4 1), σ)
theorem p_watch (r x : Int32) : Mok 1262 [r, x] (s_watch r x) := by
  intro σ h I
  have I2 := IM_th I
  obtain ⟨hW, hS, hG, -⟩ := id I2
  have hcc := cells_le hG.1
  have hfl := frB_lt hG.1
  unfold s_watch
  simp only [List.map]
  have hwd : call 1239 [vi r, vi 1, vi 5] (hsI h 44 12 0) = some (some (vi (wdI r (nI 1) (nI 5))), hsI h 44 12 0) := m_wd r 1 5 _
  rcases wd_3 r 1 5 (by decide) (by decide) with ⟨a, b⟩ | ⟨a, b, c⟩ | ⟨a, b, c, j, rfl, hj0, hj⟩
  · rw [if_pos a]
    refine ⟨rh (hsI h 44 12 0) 4, ?_, IM_rz (by decide) I2⟩
    simp only [e_1262, x_1262, xs, hwd, b, ltm, m_rf4 hW]
  · rw [if_neg a, if_pos b]
    refine ⟨rh (hsI h 44 12 0) 6, ?_, IM_rz (by decide) I2⟩
    simp only [e_1262, x_1262, xs, hwd, c, ltm, m_rf6 hW]
  · rw [if_neg a, if_neg b]
    by_cases h2 : x < 0 ∨ 1 < x
    · rw [if_pos h2]
      refine ⟨rh (hsI h 44 12 0) 2, ?_, IM_rz (by decide) I2⟩
      simp only [e_1262, x_1262, xs, hwd, c, ltm, m_in01, in1_f h2, decide_false, bI_f, i00, m_rf2 hW]
    · rw [if_neg h2]
      obtain ⟨h3, e, rfl, he⟩ := in1_t h2
      obtain ⟨hN, r1, K, H⟩ := m_lookAll 60 j σ.1 _ hG.1 (by decide) hW hS (by omega)
      have hW1 := MW_k K hW
      have hS1 := MS_o hG.1 (by decide) (fun i j z => by omega) K hS
      have hfb := m_freeBits hN σ.1 60 hS1 hG.1
      simp only [cl_n (show j < 2 ^ 31 by omega), cl_n (show e < 2 ^ 31 by omega)]
      by_cases hz : frB σ.1 = 0
      · rw [if_pos hz]
        have z1 : ((5 : Int32) ≤ 1) = False := by simp only [eq_iff_iff, iff_false]; decide
        have hfz : nI (frB σ.1) = 0 := by rw [hz]; rfl
        refine ⟨hN, ?_, IM_k (kp_m K (fun i j z => by unfold sc; omega)) I2⟩
        simp (disch := omega) only [e_1262, x_1262, xs, hwd, c, ltm, m_in01, h3, and_self, decide_true, bI_t, i10, r1]
        rw [x_1262_51]
        simp (disch := omega) only [x_1262, xs, z1, hfb, hfz, i00]
      · rw [if_neg hz]
        obtain ⟨h4, t1, t2⟩ := m_wt_l 60 j e σ.1 hN hG.1 (by decide) hW1 hS1 he hz (some (vi (nI j))) 0 4 1 hN (by omega) (by omega) (kp_r _ _) H
        refine ⟨h4, ?_, IM_k (kp_t (kp_m K (fun i j z => by unfold sc; omega)) (kp_m t2 (fun i j z => by unfold fS at z; unfold sc; omega))) I2⟩
        simp (disch := omega) only [e_1262, x_1262, xs, hwd, c, ltm, m_in01, h3, and_self, decide_true, bI_t, i10, r1]
        exact t1
