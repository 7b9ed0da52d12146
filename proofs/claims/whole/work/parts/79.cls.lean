/-! THE CLASS: all step -/
def dyS (wid t i j : Nat) : Prop := (wid + 3 ≤ i ∧ i ≤ wid + 7) ∧ t < j
theorem im_n {L : Nat → Prop} {i : Nat} (h : 6 ≤ i ∧ i < 70) : ¬ im L i := fun z => by unfold im at z; omega
theorem CW_t {L : Nat → Prop} {h h2 : Hp} {wid t : Nat} {w : Wo} (hwid : 7 ≤ wid ∧ wid ≤ 23) (k3 : w 0 3 ≤ 5) (ht : w 0 5 ≤ t) (a : ck (dyS wid t) h h2) (C : CW L h wid w) : CW L h2 wid w := by
  refine CW_k a (fun i j z y => im_n (by unfold dyS at y; omega) z) (by unfold dyS; omega) (by unfold dyS; omega) k3 (fun p j hp hj => by unfold dyS; omega) C
theorem CP_w {L : Nat → Prop} {h : Hp} {wid p : Nat} {w v : Wo} (e : ∀ i j, i ≠ 0 → i < 20 → v i j = w i j) (hp : p < 5) (c : CP L h wid w p) : CP L h wid v p := by
  obtain ⟨pid, pla, c1, c2, c3, c4, c5, c6⟩ := c
  refine ⟨pid, pla, by rw [e 1 p (by omega) (by omega)]; exact c1, by rw [e 2 p (by omega) (by omega)]; exact c2, by rw [e 3 p (by omega) (by omega)]; exact c3, fun i hi => ?_, c5, c6⟩
  rw [e 3 p (by omega) (by omega)] at hi
  rw [e _ _ (by omega) (by omega)]
  exact c4 i hi
theorem CG_w {L : Nat → Prop} {h : Hp} {wid : Nat} {w v : Wo} (e0 : v 0 0 = w 0 0) (e1 : v 0 1 = w 0 1) (e2 : v 0 2 = w 0 2) (c : CG L h wid w) : CG L h wid v := by
  obtain ⟨mo, c1, c2, c3, c4⟩ := c
  exact ⟨mo, c1, CM_w e0 e1 e2 c2, c3, c4⟩
theorem c_all_l {L : Nat → Prop} {h : Hp} {wid d : Nat} {w : Wo} (hwid : 7 ≤ wid ∧ wid ≤ 23) (hk : WOK d w) (C : CW L h wid w) (hd : d ≤ 119) : ∀ (n p : Nat) (hh : Hp) (l3 l4 : Option AV), p + n = w 0 3 → ck (dyS wid (w 0 5)) h hh → (∀ q, q < p → hI hh (wid + 3 + q) (w 0 5 + 1) = nI (nxt w q)) → ∃ h2, run 4 1011 13 [some (vo (some (wid, 10, 0))), some (vi (nI (w 0 5))), some (vi (nI p)), l3, l4] [] hh = some (none, h2) ∧ ck (dyS wid (w 0 5)) h h2 ∧ ∀ q, q < w 0 3 → hI h2 (wid + 3 + q) (w 0 5 + 1) = nI (nxt w q) := by
  have k3 := hk.2.2.2.1
  have k5 := hk.2.2.2.2.2.1
  intro n
  induction n with
  | zero =>
    intro p hh l3 l4 hp K U
    obtain rfl : p = w 0 3 := by omega
    have C2 := CW_t hwid k3 (Nat.le_refl _) K C
    have f3 := C2.2.1.2
    refine ⟨hh, ?_, K, U⟩
    rw [x_1011_13]
    simp (disch := omega) only [x_1011, xs, ↓reduceIte, f3, nl_le, Nat.le_refl]
  | succ n ih =>
    intro p hh l3 l4 hp K U
    have C2 := CW_t hwid k3 (Nat.le_refl _) K C
    obtain ⟨mo, m1, m2, -⟩ := C2.1
    have f3 := C2.2.1.2
    obtain ⟨v4, v5, vr⟩ := C2.2.2.1
    obtain ⟨pid, pla, c1, c2, c3, c4, -⟩ := C2.2.2.2.1 p (by omega)
    have r2 := vr p (by omega)
    have pv := C2.2.2.2.2 p (by omega) (w 0 5) (Nat.le_refl _)
    obtain ⟨so, t, st⟩ := sOf_ok hk (p := p) (by omega)
    have cf := cel_fre hk (p := p) (by omega)
    have h1 := c_leads' hk m2 cf so
    rw [st] at h1
    have h1' : call 506 [vo (some (mo, 5, 0)), vi (nI (w (20 + p) (w 0 5))), vi (nI (sOf w p))] hh = some (some (vi (nI t)), hh) := h1
    have t30 := stp_lt hk st
    have o9' : (nI t = -9) = False := by
      have : (oN (some t) = -9) = (some t = none) := oN_9 (fun x z => by cases z; exact t30)
      have : (oN (some t) = -9) = False := by rw [this]; simp
      exact this
    have nx : nxt w p = t := by unfold nxt; rw [st]
    have e1 : ¬ w 0 3 ≤ p := by omega
    have hX : run 4 1011 13 [some (vo (some (wid, 10, 0))), some (vi (nI (w 0 5))), some (vi (nI p)), l3, l4] [] hh = run 4 1011 13 [some (vo (some (wid, 10, 0))), some (vi (nI (w 0 5))), some (vi (nI (p + 1))), some (vi (nI (w (20 + p) (w 0 5)))), some (vi (nI t))] [] (hsI hh (wid + 3 + p) (w 0 5 + 1) (nI t)) := by
      rw [x_1011_13]
      rcases c_chooses hk C2 (p := p) (by omega) (by omega) c2 c3 c4 with ⟨e, ch⟩ | ⟨e, ch⟩ | ⟨e, ch⟩ | ⟨e, ch⟩ | ⟨e, ch⟩ | ⟨e, ch⟩
      · rw [e] at c1
        have c1' : hR hh (wid + 1) p = some (pid, 9, 0) := c1
        simp (disch := omega) only [x_1011, xs, ↓reduceIte, f3, nl_le, e1, v4, v5, ↓ib_n, cl_n, r2, pv, c1', m1, ch, h1', o9', nl_inc]
      · rw [e] at c1
        have c1' : hR hh (wid + 1) p = some (pid, 3, 0) := c1
        simp (disch := omega) only [x_1011, xs, ↓reduceIte, f3, nl_le, e1, v4, v5, ↓ib_n, cl_n, r2, pv, c1', m1, ch, h1', o9', nl_inc]
      · rw [e] at c1
        have c1' : hR hh (wid + 1) p = some (pid, 2, 0) := c1
        simp (disch := omega) only [x_1011, xs, ↓reduceIte, f3, nl_le, e1, v4, v5, ↓ib_n, cl_n, r2, pv, c1', m1, ch, h1', o9', nl_inc]
      · rw [e] at c1
        have c1' : hR hh (wid + 1) p = some (pid, 1, 0) := c1
        simp (disch := omega) only [x_1011, xs, ↓reduceIte, f3, nl_le, e1, v4, v5, ↓ib_n, cl_n, r2, pv, c1', m1, ch, h1', o9', nl_inc]
      · rw [e] at c1
        have c1' : hR hh (wid + 1) p = some (pid, 8, 0) := c1
        simp (disch := omega) only [x_1011, xs, ↓reduceIte, f3, nl_le, e1, v4, v5, ↓ib_n, cl_n, r2, pv, c1', m1, ch, h1', o9', nl_inc]
      · rw [e] at c1
        have c1' : hR hh (wid + 1) p = some (pid, 6, 0) := c1
        simp (disch := omega) only [x_1011, xs, ↓reduceIte, f3, nl_le, e1, v4, v5, ↓ib_n, cl_n, r2, pv, c1', m1, ch, h1', o9', nl_inc]
    rw [hX]
    refine ih (p + 1) _ _ _ (by omega) (ck_t K (ck_I (by unfold dyS; omega))) (fun q hq => ?_)
    by_cases e : q = p
    · subst e; rw [hI_e, nx]
    · rw [hI_n (by omega)]; exact U q (by omega)
theorem c_allStep {L : Nat → Prop} {h : Hp} {wid d : Nat} {w : Wo} (hwid : 7 ≤ wid ∧ wid ≤ 23) (hk : WOK d w) (C : CW L h wid w) (hd : d ≤ 119) : ∃ h2, call 1011 [vo (some (wid, 10, 0)), vi (nI (w 0 5))] h = some (none, h2) ∧ ck (dyS wid (w 0 5)) h h2 ∧ CW L h2 wid (dayW w) := by
  have k3 := hk.2.2.2.1
  have k5 := hk.2.2.2.2.2.1
  obtain ⟨h2, r1, r2, r3⟩ := c_all_l hwid hk C hd (w 0 3) 0 h none none (by omega) (ck_r _ _) (fun q hq => absurd hq (by omega))
  refine ⟨h2, ?_, r2, ?_⟩
  · rw [← r1]
    have e1 : (nI (w 0 5) < 120) = True := by rw [show (120 : Int32) = nI 120 from rfl, nl_lt (by omega) (by decide)]; exact eq_true (by omega)
    simp (disch := omega) only [e_1011, x_1011, xs, ↓reduceIte, nl_l0, e1]
    exact rfl
  · obtain ⟨c1, ⟨c2, c3⟩, c4, c5, c6⟩ := CW_t hwid k3 (Nat.le_refl _) r2 C
    have d0 : ∀ j, j ≠ 5 → dayW w 0 j = w 0 j := dayW_0 w
    refine ⟨CG_w (d0 _ (by decide)) (d0 _ (by decide)) (d0 _ (by decide)) c1, ⟨by rw [d0 _ (by decide)]; exact c2, by rw [d0 _ (by decide)]; exact c3⟩, c4, fun p hp => ?_, fun p hp j hj => ?_⟩
    · rw [d0 _ (by decide)] at hp
      exact CP_w (fun i j a b => dayW_i w a b j) (by omega) (c5 p hp)
    · rw [d0 _ (by decide)] at hp
      rw [dayW_5] at hj
      by_cases e : j ≤ w 0 5
      · rw [dayW_t w e]; exact c6 p hp j e
      · rw [show j = w 0 5 + 1 by omega, dayW_n w hp]; exact r3 p hp
theorem c_fore_l {L : Nat → Prop} {h : Hp} {wid n : Nat} {w : Wo} (hwid : 7 ≤ wid ∧ wid ≤ 23) (hk : WOK 60 w) (hn : n ≤ 60) (ht : hI h wid 2 = nI (w 0 5)) : ∀ (m i : Nat) (hh : Hp), i + m = n → ck (dyS wid (w 0 5)) h hh → CW L hh wid (dys w i) → ∃ h2, run 5 1010 2 [some (vo (some (wid, 10, 0))), some (vi (nI n)), some (vi (nI i))] [] hh = some (none, h2) ∧ ck (dyS wid (w 0 5)) h h2 ∧ CW L h2 wid (dys w n) := by
  have k5 := hk.2.2.2.2.2.1
  intro m
  induction m with
  | zero =>
    intro i hh hi K C
    obtain rfl : i = n := by omega
    refine ⟨hh, ?_, K, C⟩
    rw [x_1010_2]
    simp (disch := omega) only [x_1010, xs, ↓reduceIte, nl_le, Nat.le_refl]
  | succ m ih =>
    intro i hh hi K C
    have e : ¬ n ≤ i := by omega
    obtain ⟨h1, s1, s2, s3⟩ := c_allStep hwid (dys_ok hk i) C (by omega)
    rw [dys_5] at s1 s2
    have f2 : hI hh wid 2 = nI (w 0 5) := (K.2.2 _ _ (by unfold dyS; omega)).trans ht
    obtain ⟨h2, r1, r2, r3⟩ := ih (i + 1) h1 (by omega) (ck_t K (ck_m s2 (fun a b z => by unfold dyS at z ⊢; omega))) s3
    refine ⟨h2, ?_, r2, r3⟩
    rw [x_1010_2, ← r1]
    simp (disch := omega) only [x_1010, xs, ↓reduceIte, nl_le, e, f2, nI_add, s1, nl_inc]
theorem c_foresee {L : Nat → Prop} {h : Hp} {wid n : Nat} {w : Wo} (hwid : 7 ≤ wid ∧ wid ≤ 23) (hk : WOK 60 w) (hn : n ≤ 60) (ht : hI h wid 2 = nI (w 0 5)) (C : CW L h wid w) : ∃ h2, call 1010 [vo (some (wid, 10, 0)), vi (nI n)] h = some (none, h2) ∧ ck (dyS wid (w 0 5)) h h2 ∧ CW L h2 wid (dys w n) := by
  obtain ⟨h2, r1, r2, r3⟩ := c_fore_l hwid hk hn ht n 0 h (by omega) (ck_r _ _) C
  refine ⟨h2, ?_, r2, r3⟩
  rw [← r1]
  simp (disch := omega) only [e_1010, x_1010, xs]
  exact rfl
