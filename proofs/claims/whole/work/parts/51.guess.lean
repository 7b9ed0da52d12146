/-! THE REFERENCE: guess -/
theorem q_toInt {n : Nat} (h : n < 2 ^ 62) : (Int64.ofNat n).toInt = n := Int64.toInt_ofNat_of_lt (by omega)
theorem q_mul {a b : Nat} (ha : a < 2 ^ 31) (hb : b < 2 ^ 31) : (nI a).toInt64 * (nI b).toInt64 = Int64.ofNat (a * b) := by
  have hab : a * b < 2 ^ 62 := Nat.lt_of_lt_of_le (Nat.mul_lt_mul'' ha hb) (by decide)
  rw [← Int64.toInt_inj, Int64.toInt_mul, Int32.toInt_toInt64, Int32.toInt_toInt64, nI_toInt ha, nI_toInt hb, q_toInt hab, ← Int.natCast_mul]
  refine Int.bmod_eq_of_le ?_ ?_ <;> omega
theorem q_le {a b : Nat} (ha : a < 2 ^ 62) (hb : b < 2 ^ 62) : (Int64.ofNat a ≤ Int64.ofNat b) = (a ≤ b) := by
  rw [eq_iff_iff, Int64.le_iff_toInt_le, q_toInt ha, q_toInt hb]
  omega
theorem cmp_le {x y : Int64} : (lg_cmp x y ≤ 0) = (x ≤ y) := by
  have h := cmp_gt (x := x) (y := y)
  rw [eq_iff_iff] at h ⊢
  rw [← Int32.not_lt, h, Int64.not_lt]
def mxF (v : Nat → Nat) : Nat → Nat → Nat × Option Nat → Nat × Option Nat
  | 0, _, b => b
  | n + 1, c, b => mxF v n (c + 1) (if b.1 < v c then (v c, some c) else b)
theorem m_guess_l (d N : Nat) (w : Wo) (h : Hp) (F G : Nat → Nat) (hO : WOK d w) (hW : MW h) (hS : MS h w) (hN : N ≤ 10) (hF : ∀ t, t < w 0 0 * w 0 1 → hI h 62 (30 * N + t) = nI (F t)) (hG : ∀ t, t < w 0 0 * w 0 1 → hI h 63 (30 * N + t) = nI (G t)) (bF : ∀ t, F t < 2 ^ 31) (bG : ∀ t, G t < 2 ^ 31) (l1 : Option AV) (x3 : Int32) : ∀ (n c : Nat) (b : Nat × Option Nat) (l8 l9 : Option AV), c + n = w 0 0 * w 0 1 → b.1 < 2 ^ 62 → run 4 1255 62 [some (vo (some (44, 12, 0))), l1, some (vi (nI N)), some (vi x3), some (vl (Int64.ofNat b.1)), none, some (vi (oN b.2)), some (vi (nI c)), l8, l9] [] h = some (some (vi (oN (mxF (fun c => F c * G c) n c b).2)), h) := by
  have hcc := cells_le hO
  obtain ⟨f0, f1, -⟩ := hS.1
  have w32 : hR h 44 32 = some (62, 13, 330) := hW.2.2.2.2.2.2.2.2.2.2.2.2.2.2.2.2.2.1
  have w33 : hR h 44 33 = some (63, 13, 330) := hW.2.2.2.2.2.2.2.2.2.2.2.2.2.2.2.2.2.2.1
  intro n
  induction n with
  | zero =>
    intro c b l8 l9 hc hb
    have : c = w 0 0 * w 0 1 := by omega
    subst this
    rw [x_1255_62]
    simp (disch := omega) only [x_1255, xs, f0, f1, pk_mul, nl_le, Nat.le_refl]
    rfl
  | succ n ih =>
    intro c b l8 l9 hc hb
    have hc2 : ¬ w 0 0 * w 0 1 ≤ c := by omega
    have hf := hF c (by omega)
    have hg := hG c (by omega)
    have hm := q_mul (bF c) (bG c)
    have hp : F c * G c < 2 ^ 62 := Nat.lt_of_lt_of_le (Nat.mul_lt_mul'' (bF c) (bG c)) (by decide)
    rw [x_1255_62]
    unfold mxF
    by_cases e : b.1 < F c * G c
    · have e2 : ¬ F c * G c ≤ b.1 := by omega
      rw [if_pos e, ← ih (c + 1) (F c * G c, some c) (some (vl (Int64.ofNat (F c * G c)))) none (by omega) hp]
      simp (disch := omega) only [x_1255, xs, f0, f1, pk_mul, nl_le, hc2, w32, w33, e30, nI_add, ↓ib_n, cl_n, hf, hg, hm, cmp_le, q_le, e2, oN_s, nl_inc]
    · have e2 : F c * G c ≤ b.1 := by omega
      rw [if_neg e, ← ih (c + 1) b (some (vl (Int64.ofNat (F c * G c)))) none (by omega) hb]
      simp (disch := omega) only [x_1255, xs, f0, f1, pk_mul, nl_le, hc2, w32, w33, e30, nI_add, ↓ib_n, cl_n, hf, hg, hm, cmp_le, q_le, eq_true e2, nl_inc]
def s_guess (a n : Int32) (σ : St) : Int32 × St := if freI σ.1 a = true then (if n < nI 0 then (-4, rz σ 4) else if nI (lat σ.2.2) < n then (-6, rz σ 6) else (oN (mxF (fun c => wyF σ.1 (sn1 σ.2.2) a.toNatClampNeg n.toNatClampNeg c * bkF σ.1 (sn1 σ.2.2) (lat σ.2.2) (lat σ.2.2 - n.toNatClampNeg) c) (σ.1 0 0 * σ.1 0 1) 0 (0, none)).2, σ)) else (-1, rz σ 1)
theorem p_guess (a n : Int32) : Mok 1255 [a, n] (s_guess a n) := by
  intro σ h I
  have I2 := IM_th I
  obtain ⟨hW, hS, hG, -⟩ := id I2
  have hg := IM_SG I2
  have hcc := cells_le hG.1
  have hf := m_isFree a _ _ _ hS hG.1
  have hl := m_latest _ _ hW hg
  have hle := lat_le hg
  unfold s_guess
  simp only [List.map]
  by_cases h1 : freI σ.1 a = true
  · rw [if_pos h1]
    obtain ⟨k, rfl, hk, hk30⟩ := freI_of hG.1 h1
    have hwd : call 1239 [vi n, vi 0, vi (nI (lat σ.2.2))] (hsI h 44 12 0) = some (some (vi (wdI n (nI 0) (nI (lat σ.2.2)))), hsI h 44 12 0) := m_wd n 0 _ _
    rcases wd_3 n 0 (lat σ.2.2) (by decide) (by omega) with ⟨a, b⟩ | ⟨a, b, c⟩ | ⟨a, b, c, j, rfl, -, hj⟩
    · rw [if_pos a]
      refine ⟨rh (hsI h 44 12 0) 4, ?_, IM_rz (by decide) I2⟩
      simp only [e_1255, x_1255, xs, hf, h1, bI_t, i10, hl, hwd, b, ltm, m_rf4 hW]
    · rw [if_neg a, if_pos b]
      refine ⟨rh (hsI h 44 12 0) 6, ?_, IM_rz (by decide) I2⟩
      simp only [e_1255, x_1255, xs, hf, h1, bI_t, i10, hl, hwd, c, ltm, m_rf6 hW]
    · rw [if_neg a, if_neg b]
      obtain ⟨h2, r, J1, J2⟩ := m_countWays 60 k j σ.1 σ.2.2 _ true hG.1 (by decide) hW hS hg hk30 (by omega)
      rw [snb_t] at J2
      have r' : call 1249 [vo (some (44, 12, 0)), vi (nI k), vi (nI j), vi 1] (hsI h 44 12 0) = some (none, h2) := r
      have hW2 := MW_k J1 hW
      have hS2 := MS_o hG.1 (by decide) (fun i j z => by unfold wS62 at z; omega) J1 hS
      have hg2 := SG_o (fun i j z => by unfold wS62 at z; omega) J1 hg
      have hl2 := m_latest _ _ hW2 hg2
      obtain ⟨h3, r3, K1, K2⟩ := m_countBack 60 (lat σ.2.2) σ.1 σ.2.2 h2 hG.1 (by decide) hW2 hS2 hg2 hle
      have hW3 := MW_k K1 hW2
      have hS3 := MS_o hG.1 (by decide) (fun i j z => by unfold wS63 at z; omega) K1 hS2
      have b5 : ∀ q, q ≤ 10 → 5 ^ q < 2 ^ 31 := fun q hq => Nat.lt_of_le_of_lt (p5_le hq) (by decide)
      have q := m_guess_l 60 j σ.1 h3 (wyF σ.1 (sn1 σ.2.2) k j) (bkF σ.1 (sn1 σ.2.2) (lat σ.2.2) (lat σ.2.2 - j)) hG.1 hW3 hS3 (by omega) (fun t ht => by rw [K1.2.2 62 _ (by unfold wS63; decide)]; exact J2 _ t ht (Or.inl (by omega))) (fun t ht => by have := K2 (lat σ.2.2 - j) t ht (by omega) (Or.inl (by omega)); rwa [show lat σ.2.2 - (lat σ.2.2 - j) = j by omega] at this) (fun t => Nat.lt_of_le_of_lt (wyF_le _ _ _ _ _) (b5 _ (by omega))) (fun t => Nat.lt_of_le_of_lt (bkF_le _ _ _ _ _) (b5 _ (by omega))) (some (vi (nI k))) 0 (σ.1 0 0 * σ.1 0 1) 0 (0, none) none none (by omega) (by decide)
      refine ⟨_, ?_, IM_k (kp_t (kp_m J1 sc_62) (kp_m K1 sc_63)) I2⟩
      simp (disch := omega) only [e_1255, x_1255, xs, hf, h1, bI_t, i10, hl, hwd, c, ltm, r', hl2, r3, cl_n]
      exact q
  · have h1 := bnt h1
    refine ⟨rh (hsI h 44 12 0) 1, ?_, by rw [h1]; exact IM_rz (by decide) I2⟩
    simp only [e_1255, x_1255, xs, hf, h1, bI_f, i00, ltm, m_rf1 hW, Bool.false_eq_true, if_false]
