/-! what a call leaves as it was -/
def kp (S : Nat → Nat → Prop) (h h2 : Hp) : Prop := h2.1 = h.1 ∧ (∀ i j, (i ≠ 44 ∨ j ≠ 19) → hR h2 i j = hR h i j) ∧ ∀ i j, ¬ S i j → hI h2 i j = hI h i j
theorem kp_r (S : Nat → Nat → Prop) (h : Hp) : kp S h h := ⟨rfl, fun _ _ _ => rfl, fun _ _ _ => rfl⟩
theorem kp_t {S : Nat → Nat → Prop} {h h2 h3 : Hp} (a : kp S h h2) (b : kp S h2 h3) : kp S h h3 := ⟨b.1.trans a.1, fun i j n => (b.2.1 i j n).trans (a.2.1 i j n), fun i j n => (b.2.2 i j n).trans (a.2.2 i j n)⟩
theorem kp_m {S T : Nat → Nat → Prop} {h h2 : Hp} (a : kp S h h2) (st : ∀ i j, S i j → T i j) : kp T h h2 := ⟨a.1, a.2.1, fun i j n => a.2.2 i j (fun z => n (st i j z))⟩
theorem kp_I {S : Nat → Nat → Prop} {h : Hp} {a k : Nat} {v : Int32} (s : S a k) : kp S h (hsI h a k v) := ⟨rfl, fun _ _ _ => rfl, fun i j n => by
  unfold hI hsI
  exact if_neg (fun z => n (by rw [z.1, z.2]; exact s))⟩
theorem kp_R {S : Nat → Nat → Prop} {h h2 : Hp} (a : kp S h h2) (j : Nat) (n : j ≠ 19) : hR h2 44 j = hR h 44 j := a.2.1 44 j (Or.inr n)
theorem hI_s (h : Hp) (a k : Nat) (v : Int32) (b j : Nat) : hI (hsI h a k v) b j = if b = a ∧ j = k then v else hI h b j := rfl
theorem hI_e (h : Hp) (a k : Nat) (v : Int32) : hI (hsI h a k v) a k = v := if_pos ⟨rfl, rfl⟩
theorem hI_n {h : Hp} {a k b j : Nat} {v : Int32} (n : ¬ (b = a ∧ j = k)) : hI (hsI h a k v) b j = hI h b j := if_neg n
theorem hR_s (h : Hp) (a k : Nat) (v : Int32) (b j : Nat) : hR (hsI h a k v) b j = hR h b j := rfl
theorem MW_k {S : Nat → Nat → Prop} {h h2 : Hp} (a : kp S h h2) (w : MW h) : MW h2 := by
  unfold MW at *
  simp (disch := decide) only [kp_R a]
  exact w
theorem MW_s {h : Hp} {a k : Nat} {v : Int32} (w : MW h) : MW (hsI h a k v) := w
/-- what the days change: today, and the trail behind day t -/
def dS (t i j : Nat) : Prop := (i = 44 ∧ j = 5) ∨ (i = 50 ∧ t < j % 130)
theorem dS_m {t t2 : Nat} (h : t ≤ t2) : ∀ i j, dS t2 i j → dS t i j := fun i j z => z.elim Or.inl (fun z => Or.inr ⟨z.1, by omega⟩)
theorem dS_n {t i j : Nat} (h : i ≠ 44 ∨ j ≠ 5) (h2 : i ≠ 50 ∨ j % 130 ≤ t) : ¬ dS t i j := by unfold dS; omega
theorem MS_k {h h2 : Hp} {w : Wo} {d t : Nat} (hk : WOK d w) (hd : d ≤ 129) (hw : MS h w) (ht : w 0 5 ≤ t) (a : kp (dS t) h h2) (h5 : hI h2 44 5 = nI (w 0 5)) : MS h2 w := by
  obtain ⟨⟨f0, f1, f2, f3, f4, -⟩, hp⟩ := hw
  have hf : ∀ j, j ≠ 5 → hI h2 44 j = hI h 44 j := fun j hj => a.2.2 44 j (dS_n (Or.inr hj) (Or.inl (by decide)))
  have ho : ∀ i, i ≠ 44 → i ≠ 50 → ∀ j, hI h2 i j = hI h i j := fun i h1 h3 j => a.2.2 i j (dS_n (Or.inl h1) (Or.inl h3))
  refine ⟨⟨by rw [hf 0 (by decide)]; exact f0, by rw [hf 1 (by decide)]; exact f1, by rw [hf 2 (by decide)]; exact f2, by rw [hf 3 (by decide)]; exact f3, by rw [hf 4 (by decide)]; exact f4, h5⟩, fun p hpp => ?_⟩
  obtain ⟨g1, g2, g3, g4, g5, g6⟩ := hp p hpp
  have k5 := hk.2.2.2.2.2.1
  refine ⟨by rw [ho 45 (by decide) (by decide)]; exact g1, by rw [ho 46 (by decide) (by decide)]; exact g2, by rw [ho 47 (by decide) (by decide)]; exact g3, by rw [ho 49 (by decide) (by decide)]; exact g4, fun i hi => by rw [ho 48 (by decide) (by decide)]; exact g5 i hi, fun j h1 h3 => ?_⟩
  rw [a.2.2 50 (130 * p + j) (dS_n (Or.inl (by decide)) (Or.inr (by omega)))]
  exact g6 j h1 h3
/-- how many change their cell -/
def chN (w : Wo) : Nat → Nat → Nat → Nat
  | 0, _, a => a
  | n + 1, p, a => chN w n (p + 1) (if nxt w p = cel w p then a else a + 1)
theorem nxt_fre {w : Wo} {d p : Nat} (hk : WOK d w) (hp : p < w 0 3) : fre w (nxt w p) = true := by
  obtain ⟨-, t, ht⟩ := sOf_ok hk hp
  unfold nxt
  rw [ht]
  exact stp_fre ht
theorem m_dayOn_l (h : Hp) (w : Wo) (d : Nat) (hW : MW h) (hw : MS h w) (hk : WOK d w) (hd : d ≤ 128) : ∀ (n p a : Nat) (hh : Hp) (l3 : Option AV), p + n = w 0 3 → a ≤ p → kp (dS (w 0 5)) h hh → hI hh 44 5 = nI (w 0 5) → (∀ q, q < p → hI hh 50 (130 * q + (w 0 5 + 1)) = nI (nxt w q)) →
    ∃ h2, run 5 1217 4 [some (vo (some (44, 12, 0))), some (vi (nI a)), some (vi (nI p)), l3] [] hh = some (some (vi (nI (chN w n p a))), h2) ∧ kp (dS (w 0 5)) h h2 ∧ hI h2 44 5 = nI (w 0 5 + 1) ∧ ∀ q, q < w 0 3 → hI h2 50 (130 * q + (w 0 5 + 1)) = nI (nxt w q) := by
  have k3 := hk.2.2.2.1
  have k5 := hk.2.2.2.2.2.1
  intro n
  induction n with
  | zero =>
    intro p a hh l3 hp ha hkp h5 hq
    have hp3 : p = w 0 3 := by omega
    subst hp3
    have hws := MS_k hk (by omega) hw (Nat.le_refl _) hkp h5
    have f3 := hws.1.2.2.2.1
    rw [x_1217_4]
    simp (disch := omega) only [x_1217, xs, f3, nl_le, Nat.le_refl, h5, nl_inc]
    refine ⟨_, rfl, kp_t hkp (kp_I (Or.inl ⟨rfl, rfl⟩)), hI_e _ _ _ _, fun q hq3 => ?_⟩
    rw [hI_n (by omega)]
    exact hq q hq3
  | succ n ih =>
    intro p a hh l3 hp ha hkp h5 hq
    have hp3 : p < w 0 3 := by omega
    have hWs := MW_k hkp hW
    have hws := MS_k hk (by omega) hw (Nat.le_refl _) hkp h5
    have f3 := hws.1.2.2.2.1
    have h3 : (w 0 3 ≤ p) = False := by simp; omega
    have hcel := m_cellOf p hh w d hWs hws hk (by omega) hp3
    have hso := m_stepOf p hh w d hWs hws hk (by omega) hp3
    obtain ⟨hs5, t, ht⟩ := sOf_ok hk hp3
    have hst := m_stepFrom (cel w p) (sOf w p) hh w d hws hk (fre_lt (cel_fre hk hp3)) hs5
    have hnx : nxt w p = t := by unfold nxt; rw [ht]
    have ht30 := stp_lt hk ht
    have hc30 := fre_lt (cel_fre hk hp3)
    have hcc := cells_le hk
    have w11 := hWs.2.2.2.2.2.1
    have e130 : (130 : Int32) * nI p = nI (130 * p) := by rw [show (130 : Int32) = nI 130 from rfl, pk_mul]
    have hk2 : kp (dS (w 0 5)) hh (hsI hh 50 (130 * p + w 0 5 + 1) (nI t)) := kp_I (Or.inr ⟨rfl, by omega⟩)
    have h52 : hI (hsI hh 50 (130 * p + w 0 5 + 1) (nI t)) 44 5 = nI (w 0 5) := by rw [hI_n (by omega)]; exact h5
    have hws2 := MS_k hk (by omega) hws (Nat.le_refl _) hk2 h52
    have hcel2 := m_cellOf p _ w d (MW_s hWs) hws2 hk (by omega) hp3
    have hq2 : ∀ q, q < p + 1 → hI (hsI hh 50 (130 * p + w 0 5 + 1) (nI t)) 50 (130 * q + (w 0 5 + 1)) = nI (nxt w q) := fun q hqp => by
      rw [hI_s]
      split
      · rename_i e
        have : q = p := by omega
        rw [this, hnx]
      · exact hq q (by omega)
    rw [x_1217_4]
    unfold chN
    rw [hnx]
    by_cases hcg : t = cel w p
    · obtain ⟨h2, r1, r2⟩ := ih (p + 1) a _ (some (vi (nI t))) (by omega) (by omega) (kp_t hkp hk2) h52 hq2
      refine ⟨h2, ?_, r2⟩
      rw [if_pos hcg, ← r1]
      simp (disch := omega) only [x_1217, xs, f3, nl_le, h3, hcel, hso, hst, ht, oI_s, w11, h5, e130, nI_add, nl_inc, ↓ib_n, cl_n, hcel2, nl_eq, eq_true hcg, show (nI a + 0) = nI a from nI_add a 0]
    · obtain ⟨h2, r1, r2⟩ := ih (p + 1) (a + 1) _ (some (vi (nI t))) (by omega) (by omega) (kp_t hkp hk2) h52 hq2
      refine ⟨h2, ?_, r2⟩
      rw [if_neg hcg, ← r1]
      simp (disch := omega) only [x_1217, xs, f3, nl_le, h3, hcel, hso, hst, ht, oI_s, w11, h5, e130, nI_add, nl_inc, ↓ib_n, cl_n, hcel2, nl_eq, hcg]
/-- the world a day later -/
theorem dayW_0 (w : Wo) (j : Nat) (h : j ≠ 5) : dayW w 0 j = w 0 j := by unfold dayW; simp [h]
theorem dayW_5 (w : Wo) : dayW w 0 5 = w 0 5 + 1 := by unfold dayW; simp
theorem dayW_i (w : Wo) {i : Nat} (h0 : i ≠ 0) (h : i < 20) (j : Nat) : dayW w i j = w i j := by unfold dayW; rw [if_neg (by omega), if_neg (by omega)]
theorem dayW_t (w : Wo) {p j : Nat} (hj : j ≤ w 0 5) : dayW w (20 + p) j = w (20 + p) j := by unfold dayW; rw [if_neg (by omega), if_neg (by omega)]
theorem dayW_n (w : Wo) {p : Nat} (hp : p < w 0 3) : dayW w (20 + p) (w 0 5 + 1) = nxt w p := by unfold dayW; rw [if_neg (by omega), if_pos (by omega)]; congr 1; omega
theorem dayW_f (w : Wo) (c : Nat) : fre (dayW w) c = fre w c := by unfold fre; rw [dayW_0 _ 0 (by decide), dayW_0 _ 1 (by decide), dayW_0 _ 2 (by decide)]
theorem dayW_ok {w : Wo} {d : Nat} (hk : WOK d w) : WOK (d + 1) (dayW w) := by
  have hk2 := hk
  obtain ⟨k0, k1, k2, k3, k4, k5, kp⟩ := hk2
  unfold WOK
  rw [dayW_0 _ 0 (by decide), dayW_0 _ 1 (by decide), dayW_0 _ 2 (by decide), dayW_0 _ 3 (by decide), dayW_0 _ 4 (by decide), dayW_5]
  refine ⟨k0, k1, k2, k3, k4, by omega, fun p hp => ?_⟩
  obtain ⟨g1, g2, g3, g4, g5, g6, g7⟩ := kp p hp
  have k3 := hk.2.2.2.1
  rw [dayW_i w (by decide) (by decide), dayW_i w (by decide) (by decide), dayW_i w (by decide) (by decide), dayW_i w (by decide) (by decide)]
  refine ⟨g1, g2, g3, by omega, fun k hkk => by rw [dayW_i w (by omega) (by omega)]; exact g5 k hkk, fun j hj => ?_, fun j hj => by rw [dayW_t w (by omega), dayW_t w (by omega)]; exact g7 j hj⟩
  rw [dayW_f]
  by_cases hj2 : j ≤ w 0 5
  · rw [dayW_t w hj2]; exact g6 j hj2
  · have : j = w 0 5 + 1 := by omega
    rw [this, dayW_n w hp]
    exact nxt_fre hk hp
theorem m_dayOn (h : Hp) (w : Wo) (d : Nat) (hW : MW h) (hw : MS h w) (hk : WOK d w) (hd : d ≤ 128) : ∃ h2, call 1217 [vo (some (44, 12, 0))] h = some (some (vi (nI (chN w (w 0 3) 0 0))), h2) ∧ kp (dS (w 0 5)) h h2 ∧ MS h2 (dayW w) := by
  obtain ⟨h2, r1, r2, r3, r4⟩ := m_dayOn_l h w d hW hw hk hd (w 0 3) 0 0 h none (by omega) (by omega) (kp_r _ _) hw.1.2.2.2.2.2 (fun q hq => absurd hq (by omega))
  have k5 := hk.2.2.2.2.2.1
  refine ⟨h2, ?_, r2, ?_⟩
  · simp only [e_1217, x_1217]
    exact r1
  · obtain ⟨⟨f0, f1, f2, f3, f4, -⟩, hp⟩ := hw
    have hf : ∀ j, j ≠ 5 → hI h2 44 j = hI h 44 j := fun j hj => r2.2.2 44 j (dS_n (Or.inr hj) (Or.inl (by decide)))
    have ho : ∀ i, i ≠ 44 → i ≠ 50 → ∀ j, hI h2 i j = hI h i j := fun i h1 h3 j => r2.2.2 i j (dS_n (Or.inl h1) (Or.inl h3))
    unfold MS MSg
    rw [dayW_0 _ 0 (by decide), dayW_0 _ 1 (by decide), dayW_0 _ 2 (by decide), dayW_0 _ 3 (by decide), dayW_0 _ 4 (by decide), dayW_5]
    refine ⟨⟨by rw [hf 0 (by decide)]; exact f0, by rw [hf 1 (by decide)]; exact f1, by rw [hf 2 (by decide)]; exact f2, by rw [hf 3 (by decide)]; exact f3, by rw [hf 4 (by decide)]; exact f4, r3⟩, fun p hpp => ?_⟩
    obtain ⟨g1, g2, g3, g4, g5, g6⟩ := hp p hpp
    have k3 := hk.2.2.2.1
    rw [dayW_i w (by decide) (by decide), dayW_i w (by decide) (by decide), dayW_i w (by decide) (by decide), dayW_i w (by decide) (by decide)]
    refine ⟨by rw [ho 45 (by decide) (by decide)]; exact g1, by rw [ho 46 (by decide) (by decide)]; exact g2, by rw [ho 47 (by decide) (by decide)]; exact g3, by rw [ho 49 (by decide) (by decide)]; exact g4, fun i hi => by rw [ho 48 (by decide) (by decide), dayW_i w (by omega) (by omega)]; exact g5 i hi, fun j h1 h3 => ?_⟩
    by_cases hj : j ≤ w 0 5
    · rw [r2.2.2 50 (130 * p + j) (dS_n (Or.inl (by decide)) (Or.inr (by omega))), dayW_t w hj]
      exact g6 j h1 hj
    · have : j = w 0 5 + 1 := by omega
      rw [this, dayW_n w hpp]
      exact r4 p hpp
/-- n days -/
def dys (w : Wo) : Nat → Wo
  | 0 => w
  | n + 1 => dayW (dys w n)
theorem dys_5 (w : Wo) (n : Nat) : dys w n 0 5 = w 0 5 + n := by
  induction n with
  | zero => rfl
  | succ n ih => show dayW (dys w n) 0 5 = _; rw [dayW_5, ih]; omega
theorem dys_0 (w : Wo) (n j : Nat) (h : j ≠ 5) : dys w n 0 j = w 0 j := by
  induction n with
  | zero => rfl
  | succ n ih => show dayW (dys w n) 0 j = _; rw [dayW_0 _ _ h, ih]
theorem dys_ok {w : Wo} {d : Nat} (hk : WOK d w) (n : Nat) : WOK (d + n) (dys w n) := by
  induction n with
  | zero => exact hk
  | succ n ih => exact dayW_ok ih
theorem dys_i (w : Wo) (n : Nat) {i : Nat} (h0 : i ≠ 0) (h : i < 20) (j : Nat) : dys w n i j = w i j := by
  induction n with
  | zero => rfl
  | succ n ih => show dayW (dys w n) i j = _; rw [dayW_i _ h0 h, ih]
theorem dys_t (w : Wo) (n : Nat) {p j : Nat} (hj : j ≤ w 0 5) : dys w n (20 + p) j = w (20 + p) j := by
  induction n with
  | zero => rfl
  | succ n ih => show dayW (dys w n) (20 + p) j = _; rw [dayW_t _ (by rw [dys_5]; omega), ih]
theorem dys_f (w : Wo) (n c : Nat) : fre (dys w n) c = fre w c := by
  induction n with
  | zero => rfl
  | succ n ih => show fre (dayW (dys w n)) c = _; rw [dayW_f, ih]
