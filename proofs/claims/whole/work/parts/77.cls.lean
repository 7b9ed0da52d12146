/-! THE CLASS: who hunts and who flees -/
theorem way_12 {w : Wo} {d a b : Nat} (hk : WOK d w) (ha : a < w 0 0 * w 0 1) (hb : b < w 0 0 * w 0 1) : way w a b < 12 := by
  obtain ⟨⟨k1, k2⟩, ⟨k3, k4⟩, -⟩ := hk
  have q1 : a / w 0 1 < w 0 0 := Nat.div_lt_of_lt_mul (by rw [Nat.mul_comm]; exact ha)
  have q2 : b / w 0 1 < w 0 0 := Nat.div_lt_of_lt_mul (by rw [Nat.mul_comm]; exact hb)
  have q3 : a % w 0 1 < w 0 1 := Nat.mod_lt _ (by omega)
  have q4 : b % w 0 1 < w 0 1 := Nat.mod_lt _ (by omega)
  unfold way dif
  generalize a / w 0 1 = x1 at *
  generalize b / w 0 1 = x2 at *
  generalize a % w 0 1 = x3 at *
  generalize b % w 0 1 = x4 at *
  omega
theorem onw_l2 {a b d n : Nat} (hb : b < n) (hn : 0 < n) : onw a b d n < n := by
  unfold onw
  split
  · omega
  · split
    · omega
    · omega
theorem ago_l2 {w : Wo} {d p x : Nat} (hk : WOK d w) (hp : p < w 0 3) : ago w p x < w 0 0 * w 0 1 := fre_lt ((hk.2.2.2.2.2.2 p hp).2.2.2.2.2.1 _ (by omega))
theorem reck_lt {w : Wo} {d p : Nat} (hk : WOK d w) (hp : p < w 0 3) : sReck w p < w 0 0 * w 0 1 := by
  have hb := ago_l2 (x := w 0 4) hk hp
  obtain ⟨⟨k1, k2⟩, ⟨k3, k4⟩, -⟩ := hk
  have q2 : ago w p (w 0 4) / w 0 1 < w 0 0 := Nat.div_lt_of_lt_mul (by rw [Nat.mul_comm]; exact hb)
  have q4 : ago w p (w 0 4) % w 0 1 < w 0 1 := Nat.mod_lt _ (by omega)
  unfold sReck
  have r1 := onw_l2 (a := ago w p (w 0 4 + 1) / w 0 1) (d := w 0 4) q2 (by omega)
  have r2 := onw_l2 (a := ago w p (w 0 4 + 1) % w 0 1) (d := w 0 4) q4 (by omega)
  generalize onw (ago w p (w 0 4 + 1) / w 0 1) (ago w p (w 0 4) / w 0 1) (w 0 4) (w 0 0) = x at *
  generalize onw (ago w p (w 0 4 + 1) % w 0 1) (ago w p (w 0 4) % w 0 1) (w 0 4) (w 0 1) = y at *
  calc x * w 0 1 + y < x * w 0 1 + w 0 1 := by omega
    _ = (x + 1) * w 0 1 := by rw [Nat.add_mul, Nat.one_mul]
    _ ≤ w 0 0 * w 0 1 := Nat.mul_le_mul_right _ r1
def hbI (b : Option (Nat × Nat)) (z : Int32) : Int32 × Int32 := match b with
  | none => (4, z)
  | some (s, l) => (nI s, nI l)
theorem c_hunt_l {L : Nat → Prop} {h : Hp} {wid d c aim : Nat} {w : Wo} (hk : WOK d w) (C : CW L h wid w) (hc : fre w c = true) (ha : aim < w 0 0 * w 0 1) (l0 l2 l3 l4 : Option AV) : ∀ (n s : Nat) (b : Option (Nat × Nat)) (l10 l11 : Option AV), s + n = 5 → (∀ x, b = some x → x.1 < 5 ∧ x.2 < 4000) → run 3 302 64 [l0, some (vo (some (wid, 10, 0))), l2, l3, l4, some (vi (nI aim)), some (vi (nI c)), some (vi (hbI b 2147483647).1), some (vi (hbI b 2147483647).2), some (vi (nI s)), l10, l11] [] h = some (some (vi (hbI (huF w c aim n s b) 2147483647).1), h) := by
  obtain ⟨mo, m1, m2, -⟩ := C.1
  intro n
  induction n with
  | zero =>
    intro s b l10 l11 hs hb
    have : s = 5 := by omega
    subst this
    rw [x_302_64]
    simp (disch := omega) only [x_302, xs, ↓reduceIte, cz_5, Nat.le_refl]
    rfl
  | succ n ih =>
    intro s b l10 l11 hs hb
    have n5 : ¬ 5 ≤ s := by omega
    have h1 := c_leads' hk m2 hc (s := s) (by omega)
    have o9 := oN_9 (o := stp w c s) (fun t z => stp_lt hk z)
    rw [x_302_64]
    unfold huF
    cases hq : stp w c s with
    | none =>
      rw [hq] at h1
      have h1' : call 506 [vo (some (mo, 5, 0)), vi (nI c), vi (nI s)] h = some (some (vi (-9)), h) := h1
      simp only
      rw [← ih (s + 1) b _ _ (by omega) hb]
      simp (disch := omega) only [x_302, xs, ↓reduceIte, cz_5, n5, m1, h1', nl_inc]
      exact rfl
    | some t =>
      rw [hq] at h1 o9
      have h1' : call 506 [vo (some (mo, 5, 0)), vi (nI c), vi (nI s)] h = some (some (vi (nI t)), h) := h1
      have o9' : (nI t = -9) = False := by
        have : (oN (some t) = -9) = False := by rw [o9]; simp
        exact this
      have ht := fre_lt (stp_fre hq)
      have h2 := c_dist hk m2 ht ha
      have hw := way_12 hk ht ha
      simp only
      cases b with
      | none =>
        have e1 : (2147483647 ≤ nI (way w t aim)) = False := by
          rw [show (2147483647 : Int32) = nI 2147483647 from rfl, nl_le (by decide) (by omega)]
          exact eq_false (by omega)
        simp only
        rw [← ih (s + 1) (some (s, way w t aim)) _ _ (by omega) (fun x z => by cases z; exact ⟨by show s < 5; omega, by show way w t aim < 4000; omega⟩)]
        simp (disch := omega) only [x_302, xs, ↓reduceIte, cz_5, n5, m1, h1', o9', h2, hbI, e1, nl_inc]
        exact rfl
      | some x =>
        obtain ⟨bs, bl⟩ := x
        obtain ⟨b1, b2⟩ := hb _ rfl
        simp only at b1 b2 ⊢
        by_cases e : way w t aim < bl
        · rw [if_pos e]
          have e1 : ¬ bl ≤ way w t aim := by omega
          rw [← ih (s + 1) (some (s, way w t aim)) _ _ (by omega) (fun x z => by cases z; exact ⟨by show s < 5; omega, by show way w t aim < 4000; omega⟩)]
          simp (disch := omega) only [x_302, xs, ↓reduceIte, cz_5, n5, m1, h1', o9', h2, hbI, nl_le, e1, nl_inc]
          exact rfl
        · rw [if_neg e]
          have e1 : bl ≤ way w t aim := by omega
          rw [← ih (s + 1) (some (bs, bl)) _ _ (by omega) hb]
          simp (disch := omega) only [x_302, xs, ↓reduceIte, cz_5, n5, m1, h1', o9', h2, hbI, nl_le, eq_true e1, nl_inc]
          exact rfl
theorem c_hunt {L : Nat → Prop} {h : Hp} {wid d p pid pla kd k1 : Nat} {w : Wo} (hk : WOK d w) (C : CW L h wid w) (hp : p < w 0 3) (hd : d ≤ 120) (hkd : (k1 = 1 ∧ kd = 3) ∨ (k1 = 3 ∧ kd = 1) ∨ (k1 = 5 ∧ kd = 6)) (q0 : hI h pid 0 = nI (w 2 p)) (q1 : hR h pid 1 = some (pla, 13, w 3 p)) (q2 : ∀ i, i < w 3 p → hI h pla i = nI (w (10 + p) i)) : call 302 [vo (some (pid, kd, 0)), vo (some (wid, 10, 0)), vi (nI p), vi (nI (w 0 5))] h = some (some (vi (nI (if w 2 p % w 0 3 = p then sWalk w p else sHunt w p (if k1 = 5 then sReck w (w 2 p % w 0 3) else ago w (w 2 p % w 0 3) (if k1 = 3 then w 0 4 + 1 else w 0 4))))), h) := by
  obtain ⟨mo, m1, m2, -⟩ := C.1
  obtain ⟨f1, f3⟩ := C.2.1
  have g2 := (hk.2.2.2.2.2.2 p hp).2.1
  have k3 := hk.2.2.2.1
  have k4 := hk.2.2.2.2.1
  have k5 := hk.2.2.2.2.2.1
  have hbp := c_byPlan (pid := pid) (pla := pla) (kd := kd) hk C hp hd (by omega) q1 q2
  have hm : w 2 p % w 0 3 < w 0 3 := Nat.mod_lt _ (by omega)
  have z0 : (nI (w 0 3) ≤ 0) = False := by rw [show (0 : Int32) = nI 0 from rfl, nl_le (by omega) (by omega)]; exact eq_false (by omega)
  have zr : (nI (w 0 3) = 0) = False := by rw [nl_e0 (by omega)]; exact eq_false (by omega)
  by_cases e : w 2 p % w 0 3 = p
  · rw [if_pos e]
    have e2 : (nI p = nI p) = True := by simp
    rcases hkd with ⟨-, rfl⟩ | ⟨-, rfl⟩ | ⟨-, rfl⟩ <;> simp (disch := omega) only [e_302, x_302, xs, ↓reduceIte, f3, z0, zr, q0, pk_rem, e, hbp]
  · rw [if_neg e]
    have h1 := c_placeOf hk C hp (Nat.le_refl _) hd
    have ne : (nI (w 2 p % w 0 3) = nI p) = False := by rw [nl_eq (by omega) (by omega)]; exact eq_false e
    have s1 := c_sight hk C hm (Nat.le_refl _) hd
    have s2 := c_sight1 hk C hm (Nat.le_refl _) hd
    have s3 := c_going hk m2 (ago_l2 (x := w 0 4 + 1) hk hm) (ago_l2 (x := w 0 4) hk hm) (t := w 0 4) (by omega)
    have fin : ∀ (goal : Nat) (l0 l2 l3 l4 l10 l11 : Option AV), goal < w 0 0 * w 0 1 → run 3 302 64 [l0, some (vo (some (wid, 10, 0))), l2, l3, l4, some (vi (nI goal)), some (vi (nI (w (20 + p) (w 0 5)))), some (vi 4), some (vi 2147483647), some (vi (nI 0)), l10, l11] [] h = some (some (vi (nI (sHunt w p goal))), h) := fun goal l0 l2 l3 l4 l10 l11 hg => by
      have r := c_hunt_l hk C (cel_fre hk hp) hg l0 l2 l3 l4 5 0 none l10 l11 rfl (fun x z => by cases z)
      obtain ⟨l, hl, -⟩ := sHunt_ok hk hp goal
      rw [hl] at r
      exact r
    have e0 : (0 : Int32) = nI 0 := rfl
    rcases hkd with ⟨rfl, rfl⟩ | ⟨rfl, rfl⟩ | ⟨rfl, rfl⟩
    · rw [if_neg (by decide), if_neg (by decide)]
      have ga : call 303 [vo (some (pid, 3, 0)), vo (some (wid, 10, 0)), vi (nI (w 2 p % w 0 3)), vi (nI (w 0 5))] h = some (some (vi (nI (ago w (w 2 p % w 0 3) (w 0 4)))), h) := by
        simp (disch := omega) only [e_303, x_303, xs, s1]
        rfl
      rw [← fin _ _ _ _ _ none none (ago_l2 hk hm)]
      simp (disch := omega) only [e_302, x_302, xs, ↓reduceIte, f3, z0, zr, q0, pk_rem, ne, ga, h1]
      exact rfl
    · rw [if_neg (by decide), if_pos rfl]
      have ga : call 102 [vo (some (pid, 1, 0)), vo (some (wid, 10, 0)), vi (nI (w 2 p % w 0 3)), vi (nI (w 0 5))] h = some (some (vi (nI (ago w (w 2 p % w 0 3) (w 0 4 + 1)))), h) := by
        simp (disch := omega) only [e_102, x_102, xs, s2]
        rfl
      rw [← fin _ _ _ _ _ none none (ago_l2 hk hm)]
      simp (disch := omega) only [e_302, x_302, xs, ↓reduceIte, f3, z0, zr, q0, pk_rem, ne, ga, h1]
      exact rfl
    · rw [if_pos rfl]
      have s3' : call 509 [vo (some (mo, 5, 0)), vi (nI (w (20 + w 2 p % w 0 3) (w 0 5 - (w 0 4 + 1)))), vi (nI (w (20 + w 2 p % w 0 3) (w 0 5 - w 0 4))), vi (nI (w 0 4))] h = some (some (vi (nI (sReck w (w 2 p % w 0 3)))), h) := s3
      have ga : call 602 [vo (some (pid, 6, 0)), vo (some (wid, 10, 0)), vi (nI (w 2 p % w 0 3)), vi (nI (w 0 5))] h = some (some (vi (nI (sReck w (w 2 p % w 0 3)))), h) := by
        simp (disch := omega) only [e_602, x_602, xs, s1, s2, m1, f1, s3']
      rw [← fin _ _ _ _ _ none none (reck_lt hk hm)]
      simp (disch := omega) only [e_302, x_302, xs, ↓reduceIte, f3, z0, zr, q0, pk_rem, ne, ga, h1]
      exact rfl
