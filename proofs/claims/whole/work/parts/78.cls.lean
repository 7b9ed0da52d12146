/-! THE CLASS: who flees; the step of one -/
theorem c_least_l {L : Nat → Prop} {h : Hp} {wid d p to : Nat} {w : Wo} (hk : WOK d w) (C : CW L h wid w) (hd : d ≤ 120) (hto : to < w 0 0 * w 0 1) (hp5 : p < w 0 3) : ∀ (n o a : Nat) (x : Int32), o + n = w 0 3 → ((x = nI a ∧ a ≤ 99) ∨ (x = 2147483647 ∧ a = 99 ∧ ∃ i, o ≤ i ∧ i < w 0 3 ∧ i ≠ p)) → run 2 1008 7 [some (vo (some (wid, 10, 0))), some (vi (nI to)), some (vi (nI p)), some (vi (nI (w 0 5))), some (vi x), some (vi (nI o))] [] h = some (some (vi (nI (leF w p to n o a))), h) := by
  obtain ⟨mo, m1, m2, -⟩ := C.1
  obtain ⟨f1, f3⟩ := C.2.1
  have k3 := hk.2.2.2.1
  intro n
  induction n with
  | zero =>
    intro o a x ho hx
    have e : w 0 3 ≤ o := by omega
    rcases hx with ⟨rfl, -⟩ | ⟨-, -, i, h1, h2, -⟩
    · rw [x_1008_7]
      simp (disch := omega) only [x_1008, xs, ↓reduceIte, f3, nl_le, eq_true e]
      rfl
    · omega
  | succ n ih =>
    intro o a x ho hx
    have e : ¬ w 0 3 ≤ o := by omega
    rw [x_1008_7]
    unfold leF
    by_cases op : o = p
    · rw [if_pos op]
      rw [← ih (o + 1) a x (by omega) (by
        rcases hx with h1 | ⟨h1, h2, i, h3, h4, h5⟩
        · exact Or.inl h1
        · exact Or.inr ⟨h1, h2, i, by omega, h4, h5⟩)]
      simp (disch := omega) only [x_1008, xs, ↓reduceIte, f3, nl_le, e, nl_eq, eq_true op, nl_inc]
    · rw [if_neg op]
      have s1 := c_sight (p := o) hk C (by omega) (Nat.le_refl _) hd
      have al := ago_lt (p := o) (k := w 0 4) hk (by omega)
      have s2 := c_dist hk m2 hto al
      have s2' : call 508 [vo (some (mo, 5, 0)), vi (nI to), vi (nI (w (20 + o) (w 0 5 - w 0 4)))] h = some (some (vi (nI (way w to (ago w o (w 0 4))))), h) := s2
      have hw := way_12 hk hto al
      rcases hx with ⟨rfl, h1⟩ | ⟨rfl, rfl, -⟩
      · have em : (if nI (way w to (ago w o (w 0 4))) < nI a then nI (way w to (ago w o (w 0 4))) else nI a) = nI (if way w to (ago w o (w 0 4)) < a then way w to (ago w o (w 0 4)) else a) := by
          simp (disch := omega) only [nl_lt]
          split <;> rfl
        rw [← ih (o + 1) (if way w to (ago w o (w 0 4)) < a then way w to (ago w o (w 0 4)) else a) _ (by omega) (Or.inl ⟨rfl, by split <;> omega⟩)]
        simp (disch := omega) only [x_1008, xs, ↓reduceIte, f3, nl_le, e, nl_eq, op, m1, s1, s2', em, nl_inc]
      · have em : (if nI (way w to (ago w o (w 0 4))) < 2147483647 then nI (way w to (ago w o (w 0 4))) else 2147483647) = nI (if way w to (ago w o (w 0 4)) < 99 then way w to (ago w o (w 0 4)) else 99) := by
          have : (nI (way w to (ago w o (w 0 4))) < 2147483647) = True := by
            rw [show (2147483647 : Int32) = nI 2147483647 from rfl, nl_lt (by omega) (by decide)]; exact eq_true (by omega)
          rw [if_pos (by rw [this]; trivial), if_pos (by omega)]
        rw [← ih (o + 1) (if way w to (ago w o (w 0 4)) < 99 then way w to (ago w o (w 0 4)) else 99) _ (by omega) (Or.inl ⟨rfl, by split <;> omega⟩)]
        simp (disch := omega) only [x_1008, xs, ↓reduceIte, f3, nl_le, e, nl_eq, op, m1, s1, s2', em, nl_inc]
theorem leF_99 {w : Wo} {p to : Nat} : ∀ n o a, a ≤ 99 → leF w p to n o a ≤ 99 := by
  intro n
  induction n with
  | zero => intro o a ha; exact ha
  | succ n ih =>
    intro o a ha
    unfold leF
    split
    · exact ih _ _ ha
    · exact ih _ _ (by split <;> omega)
theorem c_least {L : Nat → Prop} {h : Hp} {wid d p to : Nat} {w : Wo} (hk : WOK d w) (C : CW L h wid w) (hd : d ≤ 120) (hto : to < w 0 0 * w 0 1) (hp : p < w 0 3) (h2 : 1 < w 0 3) : call 1008 [vo (some (wid, 10, 0)), vi (nI to), vi (nI p), vi (nI (w 0 5))] h = some (some (vi (nI (leF w p to (w 0 3) 0 99))), h) := by
  have r := c_least_l hk C hd hto hp (w 0 3) 0 99 2147483647 (by omega) (Or.inr ⟨rfl, rfl, if p = 0 then 1 else 0, by omega, by split <;> omega, by split <;> omega⟩)
  rw [← r]
  simp (disch := omega) only [e_1008, x_1008, xs]
  exact rfl
theorem c_flee_l {L : Nat → Prop} {h : Hp} {wid d p : Nat} {w : Wo} (hk : WOK d w) (C : CW L h wid w) (hd : d ≤ 120) (hp : p < w 0 3) (h2 : 1 < w 0 3) (l0 : Option AV) : ∀ (n s : Nat) (b : Option (Nat × Nat)) (l8 l9 : Option AV), s + n = 5 → (∀ x, b = some x → x.1 < 5 ∧ x.2 < 4000) → run 3 202 33 [l0, some (vo (some (wid, 10, 0))), some (vi (nI p)), some (vi (nI (w 0 5))), some (vi (nI (cel w p))), some (vi (hbI b (-1)).1), some (vi (hbI b (-1)).2), some (vi (nI s)), l8, l9] [] h = some (some (vi (hbI (flF w p n s b) (-1)).1), h) := by
  obtain ⟨mo, m1, m2, -⟩ := C.1
  have hc := cel_fre hk hp
  intro n
  induction n with
  | zero =>
    intro s b l8 l9 hs hb
    have : s = 5 := by omega
    subst this
    rw [x_202_33]
    simp (disch := omega) only [x_202, xs, ↓reduceIte, cz_5, Nat.le_refl]
    rfl
  | succ n ih =>
    intro s b l8 l9 hs hb
    have n5 : ¬ 5 ≤ s := by omega
    have h1 := c_leads' hk m2 hc (s := s) (by omega)
    have o9 := oN_9 (o := stp w (cel w p) s) (fun t z => stp_lt hk z)
    rw [x_202_33]
    unfold flF
    cases hq : stp w (cel w p) s with
    | none =>
      rw [hq] at h1
      have h1' : call 506 [vo (some (mo, 5, 0)), vi (nI (cel w p)), vi (nI s)] h = some (some (vi (-9)), h) := h1
      simp only
      rw [← ih (s + 1) b _ _ (by omega) hb]
      simp (disch := omega) only [x_202, xs, ↓reduceIte, cz_5, n5, m1, h1', nl_inc]
      exact rfl
    | some t =>
      rw [hq] at h1 o9
      have h1' : call 506 [vo (some (mo, 5, 0)), vi (nI (cel w p)), vi (nI s)] h = some (some (vi (nI t)), h) := h1
      have o9' : (nI t = -9) = False := by
        have : (oN (some t) = -9) = False := by rw [o9]; simp
        exact this
      have ht := fre_lt (stp_fre hq)
      have h3 := c_least hk C hd ht hp h2
      have hw := leF_99 (w := w) (p := p) (to := t) (w 0 3) 0 99 (Nat.le_refl _)
      simp only
      generalize leF w p t (w 0 3) 0 99 = v at *
      cases b with
      | none =>
        have e1 : (nI v ≤ -1) = False := by
          have := (cn (x := -1) (by decide) (k := v) (by omega)).1
          exact this
        simp only
        rw [← ih (s + 1) (some (s, v)) _ _ (by omega) (fun x z => by cases z; exact ⟨by show s < 5; omega, by show v < 4000; omega⟩)]
        simp (disch := omega) only [x_202, xs, ↓reduceIte, cz_5, n5, m1, h1', o9', h3, hbI, e1, nl_inc]
        exact rfl
      | some x =>
        obtain ⟨bs, bl⟩ := x
        obtain ⟨b1, b2⟩ := hb _ rfl
        simp only at b1 b2 ⊢
        by_cases e : bl < v
        · rw [if_pos e]
          have e1 : ¬ v ≤ bl := by omega
          rw [← ih (s + 1) (some (s, v)) _ _ (by omega) (fun x z => by cases z; exact ⟨by show s < 5; omega, by show v < 4000; omega⟩)]
          simp (disch := omega) only [x_202, xs, ↓reduceIte, cz_5, n5, m1, h1', o9', h3, hbI, nl_le, e1, nl_inc]
          exact rfl
        · rw [if_neg e]
          have e1 : v ≤ bl := by omega
          rw [← ih (s + 1) (some (bs, bl)) _ _ (by omega) hb]
          simp (disch := omega) only [x_202, xs, ↓reduceIte, cz_5, n5, m1, h1', o9', h3, hbI, nl_le, eq_true e1, nl_inc]
          exact rfl
theorem c_flee {L : Nat → Prop} {h : Hp} {wid d p pid pla : Nat} {w : Wo} (hk : WOK d w) (C : CW L h wid w) (hp : p < w 0 3) (hd : d ≤ 120) (q1 : hR h pid 1 = some (pla, 13, w 3 p)) (q2 : ∀ i, i < w 3 p → hI h pla i = nI (w (10 + p) i)) : call 202 [vo (some (pid, 2, 0)), vo (some (wid, 10, 0)), vi (nI p), vi (nI (w 0 5))] h = some (some (vi (nI (if w 0 3 = 1 then sWalk w p else sFlee w p))), h) := by
  obtain ⟨f1, f3⟩ := C.2.1
  have k3 := hk.2.2.2.1
  have hbp := c_byPlan (pid := pid) (pla := pla) (kd := 2) hk C hp hd (by omega) q1 q2
  by_cases e : w 0 3 = 1
  · rw [if_pos e]
    have e2 : (1 < w 0 3) = False := eq_false (by omega)
    simp (disch := omega) only [e_202, x_202, xs, ↓reduceIte, f3, cz_1, e2, hbp]
  · rw [if_neg e]
    have e2 : 1 < w 0 3 := by omega
    have h1 := c_placeOf hk C hp (Nat.le_refl _) hd
    have h1' : call 1006 [vo (some (wid, 10, 0)), vi (nI p), vi (nI (w 0 5))] h = some (some (vi (nI (cel w p))), h) := h1
    have r := c_flee_l hk C hd hp e2 (some (vo (some (pid, 2, 0)))) 5 0 none none none rfl (fun x z => by cases z)
    obtain ⟨l, hl, -⟩ := sFlee_ok hk hp
    rw [hl] at r
    have r' : _ = some (some (vi (nI (sFlee w p))), h) := r
    rw [← r']
    simp (disch := omega) only [e_202, x_202, xs, ↓reduceIte, f3, cz_1, eq_true e2, h1']
    exact rfl
/-- the step of one -/
theorem c_chooses {L : Nat → Prop} {h : Hp} {wid d p pid pla : Nat} {w : Wo} (hk : WOK d w) (C : CW L h wid w) (hp : p < w 0 3) (hd : d ≤ 120) (q0 : hI h pid 0 = nI (w 2 p)) (q1 : hR h pid 1 = some (pla, 13, w 3 p)) (q2 : ∀ i, i < w 3 p → hI h pla i = nI (w (10 + p) i)) : (w 1 p = 0 ∧ call 903 [vo (some (pid, 9, 0)), vo (some (wid, 10, 0)), vi (nI p), vi (nI (w 0 5))] h = some (some (vi (nI (sOf w p))), h)) ∨ (w 1 p = 1 ∧ call 302 [vo (some (pid, 3, 0)), vo (some (wid, 10, 0)), vi (nI p), vi (nI (w 0 5))] h = some (some (vi (nI (sOf w p))), h)) ∨ (w 1 p = 2 ∧ call 202 [vo (some (pid, 2, 0)), vo (some (wid, 10, 0)), vi (nI p), vi (nI (w 0 5))] h = some (some (vi (nI (sOf w p))), h)) ∨ (w 1 p = 3 ∧ call 302 [vo (some (pid, 1, 0)), vo (some (wid, 10, 0)), vi (nI p), vi (nI (w 0 5))] h = some (some (vi (nI (sOf w p))), h)) ∨ (w 1 p = 4 ∧ call 802 [vo (some (pid, 8, 0)), vo (some (wid, 10, 0)), vi (nI p), vi (nI (w 0 5))] h = some (some (vi (nI (sOf w p))), h)) ∨ (w 1 p = 5 ∧ call 302 [vo (some (pid, 6, 0)), vo (some (wid, 10, 0)), vi (nI p), vi (nI (w 0 5))] h = some (some (vi (nI (sOf w p))), h)) := by
  have g1 := (hk.2.2.2.2.2.2 p hp).1
  rcases (by omega : w 1 p = 0 ∨ w 1 p = 1 ∨ w 1 p = 2 ∨ w 1 p = 3 ∨ w 1 p = 4 ∨ w 1 p = 5) with e | e | e | e | e | e
  · refine Or.inl ⟨e, ?_⟩
    have hbp := c_byPlan (pid := pid) (pla := pla) (kd := 9) hk C hp hd (by omega) q1 q2
    have : sOf w p = sWalk w p := by unfold sOf; rw [if_neg (by omega), if_neg (by omega), if_pos (Or.inl e)]
    rw [this]
    simp (disch := omega) only [e_903, x_903, xs, hbp]
  · refine Or.inr (Or.inl ⟨e, ?_⟩)
    have r := c_hunt (k1 := 1) (kd := 3) hk C hp hd (by omega) q0 q1 q2
    rw [r]
    unfold sOf
    rw [e]
    simp only [Nat.reduceEqDiff, if_false, false_or]
  · refine Or.inr (Or.inr (Or.inl ⟨e, ?_⟩))
    have r := c_flee hk C hp hd q1 q2
    rw [r]
    unfold sOf
    rw [e]
    simp only [Nat.reduceEqDiff, if_false, if_true]
  · refine Or.inr (Or.inr (Or.inr (Or.inl ⟨e, ?_⟩)))
    have r := c_hunt (k1 := 3) (kd := 1) hk C hp hd (by omega) q0 q1 q2
    rw [r]
    unfold sOf
    rw [e]
    simp only [Nat.reduceEqDiff, if_false, false_or]
  · refine Or.inr (Or.inr (Or.inr (Or.inr (Or.inl ⟨e, ?_⟩))))
    have : sOf w p = 4 := by unfold sOf; rw [if_pos e]
    rw [this]
    simp (disch := omega) only [e_802, x_802, xs]
    rfl
  · refine Or.inr (Or.inr (Or.inr (Or.inr (Or.inr ⟨e, ?_⟩))))
    have r := c_hunt (k1 := 5) (kd := 6) hk C hp hd (by omega) q0 q1 q2
    rw [r]
    unfold sOf
    rw [e]
    simp only [Nat.reduceEqDiff, if_false, if_true, false_or]
