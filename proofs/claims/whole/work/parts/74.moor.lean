/-! THE REFERENCE: moor -/
theorem m_comes {h : Hp} {n k p : Nat} {l : Nat → Nat} {w : Wo} (hW : MW h) (hS : MS h w) (hk : WOK 60 w) (S : SK h n l k p) (k28 : k < 28) (g : (rd1 n l p).2 = false) (hl : ∀ i, i < n → l i ≤ 255) : ∃ h2, call 1232 [vo (some (44, 12, 0)), vi (nI k)] h = some (some (vi (bI (cmF n l p w).isSome)), h2) ∧ kp cS h h2 ∧ ∀ w2, cmF n l p w = some w2 → MS h2 w2 ∧ WOK 60 w2 := by
  obtain ⟨s1, s2, s3, s4, s5⟩ := S
  have w26 : hR h 44 26 = some (56, 13, 28) := hW.2.2.2.2.2.2.2.2.2.2.2.1
  have kn := of_decide_eq_true (rd1_p g).2
  unfold rd1 at g
  unfold cmF
  by_cases c1 : hr n l p = some 109
  · rw [if_pos c1] at g ⊢
    obtain ⟨a1, a2, a3⟩ := s3 c1
    obtain ⟨h2, u1, u2, u3⟩ := m_cm_m (w := w) hW hS k28 a1 a2 a3
    have s2' : hI h 56 k = nI 109 := by rw [s2, c1]; rfl
    obtain ⟨b1, b2, b3, -⟩ := rdM_ok g
    refine ⟨h2, ?_, u2, fun w2 e => by cases e; exact ⟨u3, WOK_moo hk b1 b2 b3⟩⟩
    have z1 : (nI 109 = (109 : Int32)) = True := eq_true rfl
    simp (disch := omega) only [e_1232, x_1232, xs, ↓reduceIte, hR_s, w26, ↓ib_n, cl_n, s2', z1, u1]
    rfl
  · rw [if_neg c1] at g ⊢
    by_cases c3 : hr n l p = some 100
    · have c2 : ¬ hr n l p = some 112 := by rw [c3]; simp
      rw [if_pos c3]
      have s2' : hI h 56 k = nI 100 := by rw [s2, c3]; rfl
      obtain ⟨h2, u1, u2, u3⟩ := m_cm_d (w := w) hW hS hk k28 (rdD_ok n l (p + 1) false).1 s2' (s5 c3)
      refine ⟨h2, ?_, u2, fun w2 e => ?_⟩
      · rw [u1]
        by_cases v : (rdD n l (p + 1) false).1 < 4
        · rw [if_pos v, decide_eq_true v]; rfl
        · rw [if_neg v, decide_eq_false v]; rfl
      · split at e
        · cases e; exact ⟨u3, WOK_lag hk (by omega)⟩
        · cases e
    · have c2 : hr n l p = some 112 := by
        rcases kn with z | z | z
        · exact absurd z c1
        · exact z
        · exact absurd z c3
      rw [if_neg c3]
      rw [if_pos c2] at g
      have s2' : hI h 56 k = nI 112 := by rw [s2, c2]; rfl
      obtain ⟨a1, a2, a3, a4, a5⟩ := s4 c2
      have d1 := (rdD_ok n l (p + 1) false).1
      have d2 := (rdD_ok n l (dg1 n l (p + 1)).2.1 (dg1 n l (p + 1)).2.2).1
      have d5 := dg5_ok g
      have d4 := dg4_ok g
      have dc : (dg4 n l (p + 1)).1 < 1000 := by
        obtain ⟨-, -, -, -, -, -, -, -, i3, -, -, -, z | z⟩ := d4
        · have := isD_l i3; have := isD_l z.1; omega
        · have := isD_l i3; omega
      have hq : ∀ i, i < (dg5 n l (p + 1)).1 → plQ n l (dg4 n l (p + 1)).2.1 i ≤ 4 ∧ hI h 61 (6 * k + i) = nI (plQ n l (dg4 n l (p + 1)).2.1 i) := fun i hi => by
        obtain ⟨s, e1, e2⟩ := a5 i hi
        unfold plQ
        rw [e1]
        exact ⟨stO_lt e1, e2⟩
      obtain ⟨h2, u1, u2, u3⟩ := m_cm_p (w := w) hW hS hk k28 d1 d2 d5.1 (fun i hi => (hq i hi).1) dc s2' a1 a2 a3 a4 (fun i hi => (hq i hi).2)
      refine ⟨h2, ?_, u2, fun w2 e => ?_⟩
      · refine u1.trans ?_
        by_cases v : 5 < (dg1 n l (p + 1)).1 ∨ fre w (dg4 n l (p + 1)).1 = false ∨ w 0 3 = 5
        · rw [if_pos v]
          have : decide (5 < (rdD n l (p + 1) false).1 ∨ fre w (dg4 n l (p + 1)).1 = false ∨ w 0 3 = 5) = true := decide_eq_true v
          rw [this]; rfl
        · rw [if_neg v]
          have : decide (5 < (rdD n l (p + 1) false).1 ∨ fre w (dg4 n l (p + 1)).1 = false ∨ w 0 3 = 5) = false := decide_eq_false v
          rw [this]; rfl
      · split at e
        · cases e
        · rename_i v
          have k3 := hk.2.2.2.1
          have v3 : w 0 3 ≠ 5 := fun z => v (Or.inr (Or.inr z))
          have v2 : fre w (dg4 n l (p + 1)).1 = true := by
            cases z : fre w (dg4 n l (p + 1)).1 with
            | true => rfl
            | false => exact absurd (Or.inr (Or.inl z)) v
          cases e
          exact ⟨u3 v, WOK_prs hk (by omega) (Nat.le_of_not_lt (fun z => v (Or.inl z))) d2 d5.1 (fun i hi => (hq i hi).1) v2⟩
/-- where statement k begins -/
def pl (n : Nat) (l : Nat → Nat) : Nat → Nat
  | 0 => 0
  | k + 1 => (rdS n l (pl n l k)).1
/-- all read, from statement k at p on: how many, the place behind, is it bad -/
def pF (n : Nat) (l : Nat → Nat) : Nat → Nat → Nat → Nat × Nat × Bool
  | 0, k, p => (k, p, false)
  | f + 1, k, p => if k ≠ 0 ∧ n ≤ p then (k, p, false) else if (rdS n l p).2 = true then (k + 1, (rdS n l p).1, true) else pF n l f (k + 1) (rdS n l p).1
/-- m statements told, from the k-th on -/
def tlF (n : Nat) (l : Nat → Nat) : Nat → Nat → Wo → Wo × Option Nat
  | 0, _, w => (w, none)
  | m + 1, k, w => match cmF n l (pl n l k) w with
    | none => (w, some (pl n l k))
    | some w2 => tlF n l m (k + 1) w2
def rS8 (i j : Nat) : Prop := (i = 44 ∧ (j = 22 ∨ j = 23 ∨ j = 24)) ∨ (55 ≤ i ∧ i ≤ 61)
theorem SK_k {S : Nat → Nat → Prop} {h h2 : Hp} {n k p : Nat} {l : Nat → Nat} (a : kp S h h2) (s1 : ∀ i, 55 ≤ i → i ≤ 60 → ¬ S i k) (s2 : ∀ j, 6 * k ≤ j → j < 6 * k + 6 → ¬ S 61 j) (g : (rd1 n l p).2 = false) (s : SK h n l k p) : SK h2 n l k p := by
  have e : ∀ i, 55 ≤ i → i ≤ 60 → hI h2 i k = hI h i k := fun i a1 a2 => a.2.2 i k (s1 i a1 a2)
  obtain ⟨t1, t2, t3, t4, t5⟩ := s
  refine ⟨(e _ (by omega) (by omega)).trans t1, (e _ (by omega) (by omega)).trans t2, fun z => ?_, fun z => ?_, fun z => (e _ (by omega) (by omega)).trans (t5 z)⟩
  · obtain ⟨b1, b2, b3⟩ := t3 z
    exact ⟨(e _ (by omega) (by omega)).trans b1, (e _ (by omega) (by omega)).trans b2, (e _ (by omega) (by omega)).trans b3⟩
  · obtain ⟨b1, b2, b3, b4, b5⟩ := t4 z
    refine ⟨(e _ (by omega) (by omega)).trans b1, (e _ (by omega) (by omega)).trans b2, (e _ (by omega) (by omega)).trans b3, (e _ (by omega) (by omega)).trans b4, fun i hi => ?_⟩
    obtain ⟨s, x, y⟩ := b5 i hi
    have g4 : (dg4 n l (p + 1)).2.2 = false := by
      unfold rd1 at g
      have c1 : ¬ hr n l p = some 109 := by rw [z]; simp
      rw [if_neg c1, if_pos z] at g
      exact g
    have := dg5_ok g4
    exact ⟨s, x, (a.2.2 61 _ (s2 _ (by omega) (by omega))).trans y⟩
/-- the reading loop -/
theorem m_mo_1 {h : Hp} {n : Nat} {l : Nat → Nat} {l1 : Option AV} (hW : MW h) : ∀ (f k p : Nat) (hh : Hp), n ≤ 80 → k + f = 28 → p = pl n l k → 3 * k ≤ p → kp rS8 h hh → RS hh n l p false → hI hh 44 24 = nI k → (∀ i, i < k → SK hh n l i (pl n l i) ∧ (rd1 n l (pl n l i)).2 = false) → ∃ h2, run 4 1233 20 [some (vo (some (44, 12, 0))), l1] [] hh = run 4 1233 52 [some (vo (some (44, 12, 0))), l1] [] h2 ∧ kp rS8 h h2 ∧ RS h2 n l (pF n l f k p).2.1 (pF n l f k p).2.2 ∧ hI h2 44 24 = nI (pF n l f k p).1 ∧ (pF n l f k p).1 ≤ 28 ∧ ((pF n l f k p).2.2 = false → ∀ i, i < (pF n l f k p).1 → SK h2 n l i (pl n l i) ∧ (rd1 n l (pl n l i)).2 = false) := by
  intro f
  induction f with
  | zero => intro k p hh hn hk hp h3 K R v24 U; have := R.2.1; omega
  | succ f ih =>
    intro k p hh hn hk hp h3 K R v24 U
    have WH := MW_k K hW
    obtain ⟨r1, r2, r3, r4, r5, r6⟩ := id R
    by_cases e : k ≠ 0 ∧ n ≤ p
    · have eF : pF n l (f + 1) k p = (k, p, false) := by unfold pF; rw [if_pos e]
      rw [eF]
      refine ⟨hh, ?_, K, R, v24, by omega, fun _ => U⟩
      rw [x_1233_20]
      generalize hX : run 4 1233 52 _ _ _ = X
      simp (disch := omega) only [x_1233, xs, ↓reduceIte, hR_s, r6, bI_f, i00, v24, nl_e0, e.1, r5, r3, nl_le, eq_true e.2, ↓hX]
    · obtain ⟨h2, u1, u2, u3, u4, u5⟩ := m_readStatement WH R v24 (by omega)
      have s0 : run 4 1233 20 [some (vo (some (44, 12, 0))), l1] [] hh = run 4 1233 20 [some (vo (some (44, 12, 0))), l1] [] h2 := by
        rw [x_1233_20]
        by_cases k0 : k = 0
        · simp (disch := omega) only [x_1233, xs, ↓reduceIte, hR_s, r6, bI_f, i00, v24, nl_e0, eq_true k0, u1]
        · have e2 : ¬ n ≤ p := fun z => e ⟨k0, z⟩
          simp (disch := omega) only [x_1233, xs, ↓reduceIte, hR_s, r6, bI_f, i00, v24, nl_e0, k0, r5, r3, nl_le, e2, u1]
      have K2 : kp rS8 h h2 := kp_t K (kp_m u3 (fun i j z => by unfold rS6 at z; unfold rS8; omega))
      by_cases b : (rdS n l p).2 = true
      · have eF : pF n l (f + 1) k p = (k + 1, (rdS n l p).1, true) := by rw [pF, if_neg e, if_pos b]
        rw [eF]
        rw [b] at u2
        refine ⟨h2, s0.trans ?_, K2, u2, u5, by show k + 1 ≤ 28; omega, fun z => by cases z⟩
        have r62 := u2.2.2.2.2.2
        rw [x_1233_20]
        generalize hX : run 4 1233 52 _ _ _ = X
        simp (disch := omega) only [x_1233, xs, ↓reduceIte, hR_s, r62, bI_t, i10, ↓hX]
      · have b := bnt b
        have eF : pF n l (f + 1) k p = pF n l f (k + 1) (rdS n l p).1 := by rw [pF, if_neg e, if_neg (by rw [b]; decide)]
        rw [eF, s0]
        rw [b] at u2
        have q := rdS_p b
        refine ih (k + 1) (rdS n l p).1 h2 hn (by omega) (by rw [hp]; rfl) (by omega) K2 u2 u5 (fun i hi => ?_)
        by_cases ei : i = k
        · subst ei; rw [← hp]; exact ⟨u4, q.2.1⟩
        · have g := U i (by omega)
          exact ⟨SK_k u3 (fun a _ _ z => by unfold rS6 at z; omega) (fun j _ _ z => by unfold rS6 at z; omega) g.2 g.1, g.2⟩
/-- the telling loop -/
theorem m_mo_2 {h : Hp} {n K : Nat} {l : Nat → Nat} (hW : MW h) (hl : ∀ i, i < n → l i ≤ 255) (v24 : hI h 44 24 = nI K) (hK : K ≤ 28) (U : ∀ i, i < K → SK h n l i (pl n l i) ∧ (rd1 n l (pl n l i)).2 = false) : ∀ (m k : Nat) (w : Wo) (hh : Hp), k + m = K → kp cS h hh → MS hh w → WOK 60 w → ∃ h2, kp cS h h2 ∧ ((tlF n l m k w).2 = none → run 4 1233 84 [some (vo (some (44, 12, 0))), some (vi (nI k))] [] hh = some (some (vi (nI K)), h2) ∧ MS h2 (tlF n l m k w).1 ∧ WOK 60 (tlF n l m k w).1) ∧ (∀ p, (tlF n l m k w).2 = some p → ∃ j, j < K ∧ p = pl n l j ∧ run 4 1233 84 [some (vo (some (44, 12, 0))), some (vi (nI k))] [] hh = run 4 1233 100 [some (vo (some (44, 12, 0))), some (vi (nI j))] [] h2) := by
  intro m
  induction m with
  | zero =>
    intro k w hh hk K1 hS hw
    obtain rfl : k = K := by omega
    have v : hI hh 44 24 = nI k := (K1.2.2 _ _ (by unfold cS; omega)).trans v24
    refine ⟨hh, K1, fun _ => ⟨?_, hS, hw⟩, fun p z => by cases z⟩
    rw [x_1233_84]
    simp (disch := omega) only [x_1233, xs, ↓reduceIte, v, nl_le, Nat.le_refl]
  | succ m ih =>
    intro k w hh hk K1 hS hw
    have WH := MW_k K1 hW
    have v : hI hh 44 24 = nI K := (K1.2.2 _ _ (by unfold cS; omega)).trans v24
    obtain ⟨sk, gd⟩ := U k (by omega)
    have sk2 := SK_k K1 (fun a _ _ z => by unfold cS at z; omega) (fun j _ _ z => by unfold cS at z; omega) gd sk
    obtain ⟨h2, u1, u2, u3⟩ := m_comes WH hS hw sk2 (by omega) gd hl
    have n1 : ¬ K ≤ k := by omega
    cases e : cmF n l (pl n l k) w with
    | none =>
      have eF : tlF n l (m + 1) k w = (w, some (pl n l k)) := by rw [tlF, e]
      rw [eF]
      rw [e] at u1
      have u1' : call 1232 [vo (some (44, 12, 0)), vi (nI k)] hh = some (some (vi 0), h2) := u1
      refine ⟨h2, kp_t K1 u2, (fun z => by cases z), fun p z => ⟨k, by omega, by cases z; rfl, ?_⟩⟩
      rw [x_1233_84]
      generalize hX : run 4 1233 100 _ _ _ = X
      simp (disch := omega) only [x_1233, xs, ↓reduceIte, v, nl_le, n1, u1', i00, ↓hX]
    | some w2 =>
      have eF : tlF n l (m + 1) k w = tlF n l m (k + 1) w2 := by rw [tlF, e]
      rw [eF]
      rw [e] at u1
      have u1' : call 1232 [vo (some (44, 12, 0)), vi (nI k)] hh = some (some (vi 1), h2) := u1
      obtain ⟨q1, q2⟩ := u3 w2 e
      have s0 : run 4 1233 84 [some (vo (some (44, 12, 0))), some (vi (nI k))] [] hh = run 4 1233 84 [some (vo (some (44, 12, 0))), some (vi (nI (k + 1)))] [] h2 := by
        rw [x_1233_84]
        simp (disch := omega) only [x_1233, xs, ↓reduceIte, v, nl_le, n1, u1', i10, nl_inc]
      rw [s0]
      exact ih (k + 1) w2 h2 (by omega) (kp_t K1 u2) q1 q2
def s_moor (σ : St) : Int32 × St :=
  if (pF (σ.2.2 0 1) (σ.2.2 1) 28 0 0).2.2 = true then (-1000 - nI (pF (σ.2.2 0 1) (σ.2.2 1) 28 0 0).2.1, (σ.1, σ.2.1, upw σ.2.2 0 1 0))
  else match tlF (σ.2.2 0 1) (σ.2.2 1) (pF (σ.2.2 0 1) (σ.2.2 1) 28 0 0).1 0 σ.1 with
    | (w, none) => (nI (pF (σ.2.2 0 1) (σ.2.2 1) 28 0 0).1, (w, σ.2.1, upw σ.2.2 0 1 0))
    | (_, some p) => (-2000 - nI p, (σ.1, σ.2.1, upw σ.2.2 0 1 0))
theorem p_moor : Mok 1233 [] s_moor := by
  intro σ h I
  simp only [List.map]
  have J : ∀ h2, kp (fun i j => rS8 i j ∨ (i = 44 ∧ (j = 12 ∨ j = 17 ∨ j = 18 ∨ j = 21)) ∨ i = 52) h h2 → hI h2 44 21 = 0 → IM (σ.1, σ.2.1, upw σ.2.2 0 1 0) h2 := by
    intro h2 K z
    obtain ⟨hW, hS, ⟨G1, G2, G3, G4, G5, G6⟩, hi, g1, ⟨g2, g3⟩, ⟨g4, g5⟩, ⟨g6, g7⟩, g8⟩ := id I
    have un : ∀ a b, (a ≠ 0 ∨ b ≠ 1) → upw σ.2.2 0 1 0 a b = σ.2.2 a b := fun a b n => upw_n (by omega)
    have hn : ∀ i j, (i < 44 ∨ (i = 44 ∧ (j = 16 ∨ j = 36 ∨ j = 42)) ∨ (44 < i ∧ i < 52) ∨ i = 53 ∨ 61 < i) → hI h2 i j = hI h i j := fun i j y => K.2.2 i j (by unfold rS8; omega)
    refine IM_g (kp_m K (fun i j y => by unfold rS8 at y; unfold gS; omega)) I ?_ (fun y => ?_) ?_
    · unfold GOK
      simp (disch := omega) only [un, upw_e]
      exact ⟨G1, G2, G3, ⟨by omega, fun i y => by omega⟩, G5, G6⟩
    · rw [un _ _ (by omega)] at y
      have := (G3 y).2.2.2.2.2.1
      exact MSg_c (hi y) (by omega) (fun j hj => hn _ _ (by omega)) (fun p _ => ⟨hn _ _ (by omega), hn _ _ (by omega), hn _ _ (by omega), hn _ _ (by omega)⟩) (fun i => hn _ _ (by omega)) (fun p j hj => hn _ _ (by omega))
    · unfold MG
      simp (disch := omega) only [un, upw_e, hn]
      exact ⟨g1, ⟨z, fun i y => by omega⟩, ⟨g4, g5⟩, ⟨g6, g7⟩, g8⟩
  obtain ⟨hW, hS, ⟨G1, G2, G3, G4, G5, G6⟩, hi, g1, ⟨g2, g3⟩, ⟨g4, g5⟩, ⟨g6, g7⟩, g8⟩ := id I
  generalize hn : σ.2.2 0 1 = n at *
  generalize hl : σ.2.2 1 = l at *
  have K0 : kp (fun i j => i = 44 ∧ (j = 12 ∨ j = 22 ∨ j = 23 ∨ j = 24)) h (hsI (hsI (hsI (hsI h 44 12 0) 44 22 0) 44 23 0) 44 24 0) := kp_t (kp_t (kp_t (kp_I (by omega)) (kp_I (by omega))) (kp_I (by omega))) (kp_I (by omega))
  have R0 : RS (hsI (hsI (hsI (hsI h 44 12 0) 44 22 0) 44 23 0) 44 24 0) n l 0 false := by
    refine ⟨G4.1, Nat.zero_le _, ?_, fun i hi => ⟨?_, G4.2 i hi⟩, ?_, ?_⟩
    · rw [K0.2.2 _ _ (by omega)]; exact g2
    · rw [K0.2.2 _ _ (by omega)]; exact g3 i hi
    · rw [hI_n (by decide), hI_n (by decide), hI_e]; rfl
    · rw [hI_n (by decide), hI_e]; rfl
  have v24 : hI (hsI (hsI (hsI (hsI h 44 12 0) 44 22 0) 44 23 0) 44 24 0) 44 24 = nI 0 := hI_e _ _ _ _
  obtain ⟨h1, a1, a2, a3, a4, a5, a6⟩ := m_mo_1 (h := hsI (hsI (hsI (hsI h 44 12 0) 44 22 0) 44 23 0) 44 24 0) (l1 := none) hW 28 0 0 _ G4.1 rfl rfl (Nat.le_refl _) (kp_r _ _) R0 v24 (fun i hi => absurd hi (by omega))
  have s0 : call 1233 [vo (some (44, 12, 0))] h = run 4 1233 20 [some (vo (some (44, 12, 0))), none] [] (hsI (hsI (hsI (hsI h 44 12 0) 44 22 0) 44 23 0) 44 24 0) := by
    simp only [e_1233, x_1233, xs]
  unfold s_moor
  rw [hn, hl, s0, a1]
  clear s0 a1
  generalize pF n l 28 0 0 = r at *
  have KA : kp (fun i j => rS8 i j ∨ (i = 44 ∧ (j = 12 ∨ j = 17 ∨ j = 18 ∨ j = 21)) ∨ i = 52) h (hsI h1 44 21 0) := kp_t (kp_m K0 (fun i j z => by unfold rS8; omega)) (kp_t (kp_m a2 (fun i j z => Or.inl z)) (kp_I (by omega)))
  have W1 : MW (hsI h1 44 21 0) := MW_k KA hW
  have q23 : hI (hsI h1 44 21 0) 44 23 = bI r.2.2 := by rw [hI_n (by decide)]; exact a3.2.2.2.2.2
  have q22 : hI (hsI h1 44 21 0) 44 22 = nI r.2.1 := by rw [hI_n (by decide)]; exact a3.2.2.2.2.1
  by_cases b : r.2.2 = true
  · rw [if_pos b]
    rw [b] at q23
    refine ⟨hsI h1 44 21 0, ?_, J _ KA (hI_e _ _ _ _)⟩
    simp (disch := omega) only [x_1233, xs, ↓reduceIte, q23, bI_t, i10, q22]
  · rw [if_neg b]
    have b := bnt b
    rw [b] at q23
    have S1 : MS (hsI h1 44 21 0) σ.1 := by
      have k5 := G1.2.2.2.2.2.1
      have hx : ∀ i j, (i = 44 ∧ j < 6) ∨ (44 < i ∧ i < 52) → hI (hsI h1 44 21 0) i j = hI h i j := fun i j y => KA.2.2 i j (by unfold rS8; omega)
      exact MSg_c hS (by omega) (fun j hj => hx _ _ (by omega)) (fun p _ => ⟨hx _ _ (by omega), hx _ _ (by omega), hx _ _ (by omega), hx _ _ (by omega)⟩) (fun i => hx _ _ (by omega)) (fun p j hj => hx _ _ (by omega))
    obtain ⟨h2, c1, c2⟩ := m_carryAll true 52 (hsI h1 44 21 0) (by decide) W1
    obtain ⟨m1, m2⟩ := CI_t (by decide) c2 G1 (by decide) S1
    have KB : kp (fun i j => (i = 44 ∧ (j = 17 ∨ j = 18)) ∨ i = 52) (hsI h1 44 21 0) h2 := ⟨c2.1, c2.2.1, fun i j y => m2 i j (by omega) (by omega)⟩
    have KC := kp_t KA (kp_m KB (fun i j z => show rS8 i j ∨ (i = 44 ∧ (j = 12 ∨ j = 17 ∨ j = 18 ∨ j = 21)) ∨ i = 52 by omega))
    have J2 := J h2 KC (by rw [m2 _ _ (by omega) (by omega), hI_e])
    have W2 := J2.1
    have w14 : hR (hsI h1 44 21 0) 44 14 = some (52, 13, 706) := W1.2.2.2.2.2.2.2.1
    have q24 : hI h2 44 24 = nI r.1 := by rw [m2 _ _ (by omega) (by omega), hI_n (by decide)]; exact a4
    have U : ∀ i, i < r.1 → SK h2 n l i (pl n l i) ∧ (rd1 n l (pl n l i)).2 = false := fun i hi => by
      obtain ⟨x, y⟩ := a6 b i hi
      have KD : kp (fun i j => (i = 44 ∧ (j = 17 ∨ j = 18 ∨ j = 21)) ∨ i = 52) h1 h2 := kp_t (kp_I (by omega)) (kp_m KB (fun i j z => by omega))
      exact ⟨SK_k KD (fun a _ _ z => by omega) (fun j _ _ z => by omega) y x, y⟩
    obtain ⟨h3, d1, d2, d3⟩ := m_mo_2 W2 G4.2 q24 a5 U r.1 0 σ.1 h2 (by omega) (kp_r _ _) J2.2.1 G1
    have s1 : run 4 1233 52 [some (vo (some (44, 12, 0))), none] [] h1 = run 4 1233 84 [some (vo (some (44, 12, 0))), some (vi (nI 0))] [] h2 := by
      have c1' : call 1220 [vo (some (44, 12, 0)), vo (some (52, 13, 706)), vi 1] (hsI h1 44 21 0) = some (none, h2) := c1
      simp (disch := omega) only [x_1233, xs, ↓reduceIte, q23, bI_f, i00, w14, c1']
      rfl
    rw [s1]
    cases et : tlF n l r.1 0 σ.1 with
    | mk w2 o =>
      rw [et] at d2 d3
      cases o with
      | none =>
        obtain ⟨x1, x2, x3⟩ := d2 rfl
        exact ⟨h3, x1, IM_w (kp_m d1 (fun i j z => by unfold cS at z; unfold wS; omega)) J2 x2 x3⟩
      | some p =>
        obtain ⟨j, j1, j2, j3⟩ := d3 p rfl
        have W3 := MW_k d1 W2
        obtain ⟨h4, t1, t2⟩ := m_carryAll false 52 h3 (by decide) W3
        have m3 : MSi h3 52 σ.1 := by
          have k5 := G1.2.2.2.2.2.1
          have hx : ∀ j, hI h3 52 j = hI h2 52 j := fun j => d1.2.2 _ _ (by unfold cS; omega)
          exact MSg_c m1 (by omega) (fun j hj => hx _) (fun p _ => ⟨hx _, hx _, hx _, hx _⟩) (fun i => hx _) (fun p j hj => hx _)
        obtain ⟨e1, e2⟩ := CI_f (by decide) t2 G1 (by decide) m3
        have KE : kp wS h2 h4 := kp_t (kp_m d1 (fun i j z => by unfold cS at z; unfold wS; omega)) ⟨t2.1, t2.2.1, fun i j z => e2 i j (by unfold wS at z; omega)⟩
        refine ⟨h4, j3.trans ?_, IM_w KE J2 e1 G1⟩
        have w14b : hR h3 44 14 = some (52, 13, 706) := W3.2.2.2.2.2.2.2.1
        have W4 := MW_k KE W2
        have w25 : hR h4 44 25 = some (55, 13, 28) := W4.2.2.2.2.2.2.2.2.2.2.1
        have t1' : call 1220 [vo (some (44, 12, 0)), vo (some (52, 13, 706)), vi 0] h3 = some (none, h4) := t1
        have v55 : hI h4 55 j = nI p := by
          rw [e2 _ _ (by omega), d1.2.2 _ _ (by unfold cS; omega), (U j j1).1.1, j2]
        simp (disch := omega) only [x_1233, xs, ↓reduceIte, w14b, t1', w25, ↓ib_n, cl_n, v55]
