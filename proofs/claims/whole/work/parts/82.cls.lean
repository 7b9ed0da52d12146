/-! THE CLASS: person, day -/
theorem c_kind {h : Hp} (pid k : Nat) (hk : k ≤ 5) : (k = 0 ∧ call 902 [vo (some (pid, 9, 0))] h = some (some (vi (nI k)), h)) ∨ (k = 1 ∧ call 301 [vo (some (pid, 3, 0))] h = some (some (vi (nI k)), h)) ∨ (k = 2 ∧ call 201 [vo (some (pid, 2, 0))] h = some (some (vi (nI k)), h)) ∨ (k = 3 ∧ call 101 [vo (some (pid, 1, 0))] h = some (some (vi (nI k)), h)) ∨ (k = 4 ∧ call 801 [vo (some (pid, 8, 0))] h = some (some (vi (nI k)), h)) ∨ (k = 5 ∧ call 601 [vo (some (pid, 6, 0))] h = some (some (vi (nI k)), h)) := by
  rcases (by omega : k = 0 ∨ k = 1 ∨ k = 2 ∨ k = 3 ∨ k = 4 ∨ k = 5) with rfl | rfl | rfl | rfl | rfl | rfl
  · exact Or.inl ⟨rfl, by simp only [e_902, x_902, xs]; rfl⟩
  · exact Or.inr (Or.inl ⟨rfl, by simp only [e_301, x_301, xs]; rfl⟩)
  · exact Or.inr (Or.inr (Or.inl ⟨rfl, by simp only [e_201, x_201, xs]; rfl⟩))
  · exact Or.inr (Or.inr (Or.inr (Or.inl ⟨rfl, by simp only [e_101, x_101, xs]; rfl⟩)))
  · exact Or.inr (Or.inr (Or.inr (Or.inr (Or.inl ⟨rfl, by simp only [e_801, x_801, xs]; rfl⟩))))
  · exact Or.inr (Or.inr (Or.inr (Or.inr (Or.inr ⟨rfl, by simp only [e_601, x_601, xs]; rfl⟩))))
def telV (w : Wo) (p e : Nat) : Nat := if e = 0 then w 1 p else if e = 1 then w 2 p else if e = 2 then cel w p else if e = 3 then w 3 p else sOf w p
theorem c_tell {L : Nat → Prop} {h : Hp} {wid d p e : Nat} {w : Wo} (hk : WOK d w) (hd : d ≤ 120) (C : CW L h wid w) (ht : hI h wid 2 = nI (w 0 5)) (hp : p < w 0 3) (he : e ≤ 4) : call 1005 [vo (some (wid, 10, 0)), vi (nI p), vi (nI e)] h = some (some (vi (nI (telV w p e))), h) := by
  have k3 := hk.2.2.2.1
  have f3 := C.2.1.2
  have v4 := C.2.2.1.1
  obtain ⟨pid, pla, c1, c2, c3, c4, -⟩ := C.2.2.2.1 p hp
  have g1 := (hk.2.2.2.2.2.2 p hp).1
  have g3 := (hk.2.2.2.2.2.2 p hp).2.2.1
  have n1 : ¬ w 0 3 ≤ p := by omega
  have h1 : call 1004 [vo (some (wid, 10, 0)), vi (nI p)] h = some (some (vo (some (pid, kc (w 1 p), 0))), h) := by
    simp (disch := omega) only [e_1004, x_1004, xs, ↓reduceIte, nl_l0, f3, nl_le, n1, v4, ↓ib_n, cl_n, c1]
  have h3 := c_placeOf hk C hp (Nat.le_refl _) hd
  have z0 : ∀ a, a < 5 → ∀ b, b < 5 → (nI a = nI b) = (a = b) := fun a x b y => nl_eq (by omega) (by omega)
  have q1 : (nI e = 0) = (e = 0) := z0 e (by omega) 0 (by decide)
  have q2 : (nI e = 1) = (e = 1) := z0 e (by omega) 1 (by decide)
  have q3 : (nI e = 2) = (e = 2) := z0 e (by omega) 2 (by decide)
  have q4 : (nI e = 3) = (e = 3) := z0 e (by omega) 3 (by decide)
  unfold telV
  rcases (by omega : e = 0 ∨ e = 1 ∨ e = 2 ∨ e = 3 ∨ e = 4) with rfl | rfl | rfl | rfl | rfl
  · rcases c_kind (h := h) pid (w 1 p) g1 with ⟨e, ch⟩ | ⟨e, ch⟩ | ⟨e, ch⟩ | ⟨e, ch⟩ | ⟨e, ch⟩ | ⟨e, ch⟩
    all_goals
      rw [e] at h1 ch
      simp only [kc, Nat.reduceEqDiff, if_true, if_false] at h1
      simp (disch := omega) only [e_1005, x_1005, xs, ↓reduceIte, h1, q1, ch, e]
  · rcases c_kind (h := h) pid (w 1 p) g1 with ⟨e, ch⟩ | ⟨e, ch⟩ | ⟨e, ch⟩ | ⟨e, ch⟩ | ⟨e, ch⟩ | ⟨e, ch⟩
    all_goals
      rw [e] at h1
      simp only [kc, Nat.reduceEqDiff, if_true, if_false] at h1
      simp (disch := omega) only [e_1005, x_1005, xs, ↓reduceIte, h1, q1, q2, Nat.reduceEqDiff, c2]
  · rcases c_kind (h := h) pid (w 1 p) g1 with ⟨e, ch⟩ | ⟨e, ch⟩ | ⟨e, ch⟩ | ⟨e, ch⟩ | ⟨e, ch⟩ | ⟨e, ch⟩
    all_goals
      rw [e] at h1
      simp only [kc, Nat.reduceEqDiff, if_true, if_false] at h1
      simp (disch := omega) only [e_1005, x_1005, xs, ↓reduceIte, h1, q1, q2, q3, Nat.reduceEqDiff, ht, h3]
      rfl
  · rcases c_kind (h := h) pid (w 1 p) g1 with ⟨e, ch⟩ | ⟨e, ch⟩ | ⟨e, ch⟩ | ⟨e, ch⟩ | ⟨e, ch⟩ | ⟨e, ch⟩
    all_goals
      rw [e] at h1
      simp only [kc, Nat.reduceEqDiff, if_true, if_false] at h1
      simp (disch := omega) only [e_1005, x_1005, xs, al_n, ↓reduceIte, h1, q1, q2, q3, q4, Nat.reduceEqDiff, c3]
  · rcases c_chooses hk C hp (by omega) c2 c3 c4 with ⟨e, ch⟩ | ⟨e, ch⟩ | ⟨e, ch⟩ | ⟨e, ch⟩ | ⟨e, ch⟩ | ⟨e, ch⟩
    all_goals
      rw [e] at h1
      simp only [kc, Nat.reduceEqDiff, if_true, if_false] at h1
      simp (disch := omega) only [e_1005, x_1005, xs, al_n, ↓reduceIte, h1, q1, q2, q3, q4, Nat.reduceEqDiff, ht, ch]
theorem in4_t {x : Int32} (h2 : ¬ (x < 0 ∨ 4 < x)) : ∃ e, x = nI e ∧ e ≤ 4 := by
  obtain ⟨j, hj, rfl⟩ := nI_of (x := x) (fun z => h2 (Or.inl z))
  refine ⟨j, rfl, Nat.le_of_not_lt (fun z => h2 (Or.inr ?_))⟩
  rw [show (4 : Int32) = nI 4 from rfl, nl_lt (by decide) hj]
  exact z
theorem q_pers (p x : Int32) : Cok 1103 [p, x] (s_pers p x) := by
  rintro σ h ⟨L, nw, sp, I⟩
  obtain ⟨hn, hX, -, ⟨hw, ht⟩, -, hG, -⟩ := id I
  have w0 := hX.1.1
  have k3 := hG.1.2.2.2.1
  have h1 := c_here p I
  have h2 : call 1130 [vi x, vi 4] h = some (some (vi (if x < 0 ∨ 4 < x then -2 else 0)), h) := c_ask x 4 h
  unfold s_pers
  simp only [List.map]
  by_cases e1 : isP σ.1 p = true
  · rw [if_pos e1] at h1 ⊢
    obtain ⟨k, rfl, hk⟩ := isP_of k3 e1
    by_cases e2 : x < 0 ∨ 4 < x
    · rw [if_pos e2] at h2 ⊢
      refine ⟨rc h 2, ?_, ⟨L, nw, sp, IC_rz (by decide) I⟩, cB_e rfl⟩
      simp (disch := omega) only [e_1103, x_1103, xs, ↓reduceIte, h1, i00, h2, ltm, c_rf2 hX]
    · rw [if_neg e2] at h2 ⊢
      obtain ⟨e, rfl, he⟩ := in4_t e2
      refine ⟨h, ?_, ⟨L, nw, sp, I⟩, cB_e rfl⟩
      have h3 := c_tell hG.1 (by omega) hw ht hk he
      have z0 : ∀ a, a < 5 → ∀ b, b < 5 → (nI a = nI b) = (a = b) := fun a x b y => nl_eq (by omega) (by omega)
      have q1 : (nI e = 0) = (e = 0) := z0 e (by omega) 0 (by decide)
      have q2 : (nI e = 1) = (e = 1) := z0 e (by omega) 1 (by decide)
      have q3 : (nI e = 2) = (e = 2) := z0 e (by omega) 2 (by decide)
      have q4 : (nI e = 3) = (e = 3) := z0 e (by omega) 3 (by decide)
      simp (disch := omega) only [e_1103, x_1103, xs, ↓reduceIte, h1, i00, h2, w0, h3, cl_n, q1, q2, q3, q4]
      rfl
  · rw [if_neg e1] at h1 ⊢
    refine ⟨rc h 1, ?_, ⟨L, nw, sp, IC_rz (by decide) I⟩, cB_e rfl⟩
    simp (disch := omega) only [e_1103, x_1103, xs, ↓reduceIte, h1, ltm, c_rf1 hX]
theorem c_live_l {L : Nat → Prop} {h : Hp} {wid d : Nat} {w : Wo} (hk : WOK d w) (hd : d ≤ 119) (C : CW L h wid (dayW w)) (ht : hI h wid 2 = nI (w 0 5)) : ∀ (n p a : Nat), p + n = w 0 3 → a ≤ p → run 5 1009 12 [some (vo (some (wid, 10, 0))), some (vi (nI a)), some (vi (nI p))] [] h = some (some (vi (nI (chN w n p a))), hsI h wid 2 (nI (w 0 5 + 1))) := by
  have k3 := hk.2.2.2.1
  have k5 := hk.2.2.2.2.2.1
  have f3 : hI h wid 3 = nI (w 0 3) := by rw [← dayW_0 w 3 (by decide)]; exact C.2.1.2
  have hk2 := dayW_ok hk
  intro n
  induction n with
  | zero =>
    intro p a hp ha
    have e : w 0 3 ≤ p := by omega
    rw [x_1009_12]
    simp (disch := omega) only [x_1009, xs, ↓reduceIte, f3, nl_le, eq_true e, ht, nl_inc]
    rfl
  | succ n ih =>
    intro p a hp ha
    have e : ¬ w 0 3 ≤ p := by omega
    have hp2 : p < dayW w 0 3 := by rw [dayW_0 w 3 (by decide)]; omega
    have h1 := c_placeOf (j := w 0 5) hk2 C hp2 (by rw [dayW_5]; omega) (by omega)
    have h2 := c_placeOf (j := w 0 5 + 1) hk2 C hp2 (by rw [dayW_5]; omega) (by omega)
    rw [dayW_t w (Nat.le_refl _)] at h1
    rw [dayW_n w (by omega)] at h2
    have h1' : call 1006 [vo (some (wid, 10, 0)), vi (nI p), vi (nI (w 0 5))] h = some (some (vi (nI (cel w p))), h) := h1
    have c1 := cel_lt (p := p) hk (by omega)
    have c2 := fre_lt (nxt_fre (p := p) hk (by omega))
    have cc := cells_le hk
    rw [x_1009_12]
    unfold chN
    by_cases q : nxt w p = cel w p
    · rw [if_pos q, ← ih (p + 1) a (by omega) (by omega)]
      have e2 : (cel w p = nxt w p) = True := eq_true q.symm
      simp (disch := omega) only [x_1009, xs, ↓reduceIte, f3, nl_le, e, ht, h1', nl_inc, h2, nl_eq, e2]
    · rw [if_neg q, ← ih (p + 1) (a + 1) (by omega) (by omega)]
      have e2 : (cel w p = nxt w p) = False := eq_false (fun z => q z.symm)
      simp (disch := omega) only [x_1009, xs, ↓reduceIte, f3, nl_le, e, ht, h1', nl_inc, h2, nl_eq, e2]
theorem q_day : Cok 1105 [] s_day := by
  rintro σ h ⟨L, nw, sp, I⟩
  obtain ⟨hn, hX, -, ⟨hw, ht⟩, -, hG, -⟩ := id I
  have w0 := hX.1.1
  have k5 := hG.1.2.2.2.2.2.1
  have s60 : (60 : Int32) = nI 60 := rfl
  unfold s_day
  simp only [List.map]
  by_cases e : σ.1 0 5 = 60
  · rw [if_pos e]
    refine ⟨rc h 6, ?_, ⟨L, nw, sp, IC_rz (by decide) I⟩, cB_e rfl⟩
    have e2 : ¬ σ.1 0 5 < 60 := by omega
    simp (disch := omega) only [e_1105, x_1105, xs, ↓reduceIte, w0, ht, s60, nl_lt, e2, c_rf6 hX]
  · rw [if_neg e]
    have e2 : σ.1 0 5 < 60 := by omega
    obtain ⟨h1, r1, r2, r3⟩ := c_allStep (by omega) hG.1 hw (by omega)
    have t1 : hI h1 nw 2 = nI (σ.1 0 5) := (r2.2.2 _ _ (by unfold dyS; omega)).trans ht
    have h3 := c_live_l hG.1 (by omega) r3 t1 (σ.1 0 3) 0 0 (by omega) (by omega)
    have h4 : call 1009 [vo (some (nw, 10, 0))] h = some (some (vi (nI (chN σ.1 (σ.1 0 3) 0 0))), hsI h1 nw 2 (nI (σ.1 0 5 + 1))) := by
      rw [← h3]
      simp (disch := omega) only [e_1009, x_1009, xs, ht, r1]
      exact rfl
    have K2 : ck (fun i j => i = nw ∧ j = 2) h1 (hsI h1 nw 2 (nI (σ.1 0 5 + 1))) := ck_I ⟨rfl, rfl⟩
    refine ⟨hsI h1 nw 2 (nI (σ.1 0 5 + 1)), ?_, ⟨L, nw, sp, IC_w (ck_t (ck_m r2 (fun i j z => by unfold dyS at z; omega)) (ck_m K2 (fun i j z => by omega))) I ?_ ?_ ?_⟩, cB_e r2.1⟩
    · simp (disch := omega) only [e_1105, x_1105, xs, ↓reduceIte, w0, ht, s60, nl_lt, eq_true e2, h4]
    · exact CW_k K2 (fun i j z y => im_n (by omega) z) (by omega) (by omega) (by rw [dayW_0 _ _ (by decide)]; exact hG.1.2.2.2.1) (fun p j hp hj => by omega) r3
    · rw [hI_e, dayW_5]
    · exact WOK_d (dayW_ok hG.1) (by rw [dayW_5]; omega)
