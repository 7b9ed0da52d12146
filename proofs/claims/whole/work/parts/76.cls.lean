/-! THE CLASS: a world, and where its people were -/
/-- what never changes; L: the arrays that a search of watchers fills -/
def im (L : Nat → Prop) (i : Nat) : Prop := ((1 ≤ i ∧ i ≤ 5) ∨ 70 ≤ i) ∧ ¬ L i
def kc (k : Nat) : Nat := if k = 0 then 9 else if k = 1 then 3 else if k = 2 then 2 else if k = 3 then 1 else if k = 4 then 8 else 6
def CP (L : Nat → Prop) (h : Hp) (wid : Nat) (w : Wo) (p : Nat) : Prop := ∃ pid pla, hR h (wid + 1) p = some (pid, kc (w 1 p), 0) ∧ hI h pid 0 = nI (w 2 p) ∧ hR h pid 1 = some (pla, 13, w 3 p) ∧ (∀ i, i < w 3 p → hI h pla i = nI (w (10 + p) i)) ∧ im L pid ∧ im L pla
def CG (L : Nat → Prop) (h : Hp) (wid : Nat) (w : Wo) : Prop := ∃ mo, hR h wid 0 = some (mo, 5, 0) ∧ CM h mo w ∧ (∀ i, mo ≤ i → i ≤ mo + 4 → im L i) ∧ L (mo + 5) ∧ (mo = 1 ∨ 70 ≤ mo) ∧ mo + 5 < h.1.1
def CV (h : Hp) (wid : Nat) : Prop := hR h wid 4 = some (wid + 1, 14, 5) ∧ hR h wid 5 = some (wid + 2, 15, 5) ∧ ∀ i, i < 5 → hR h (wid + 2) i = some (wid + 3 + i, 13, 121)
/-- the world wid is w -/
def CW (L : Nat → Prop) (h : Hp) (wid : Nat) (w : Wo) : Prop := CG L h wid w ∧ (hI h wid 1 = nI (w 0 4) ∧ hI h wid 3 = nI (w 0 3)) ∧ CV h wid ∧ (∀ p, p < w 0 3 → CP L h wid w p) ∧ ∀ p, p < w 0 3 → ∀ j, j ≤ w 0 5 → hI h (wid + 3 + p) j = nI (w (20 + p) j)
def tS (wid i j : Nat) (t : Nat) : Prop := (wid + 3 ≤ i ∧ i ≤ wid + 7) ∧ t < j
theorem CP_k {L : Nat → Prop} {S : Nat → Nat → Prop} {h h2 : Hp} {wid p : Nat} {w : Wo} (a : ck S h h2) (n : ∀ i j, im L i → ¬ S i j) (c : CP L h wid w p) : CP L h2 wid w p := by
  obtain ⟨pid, pla, c1, c2, c3, c4, c5, c6⟩ := c
  exact ⟨pid, pla, (a.2.1 _ _).trans c1, (a.2.2 _ _ (n _ _ c5)).trans c2, (a.2.1 _ _).trans c3, fun i hi => (a.2.2 _ _ (n _ _ c6)).trans (c4 i hi), c5, c6⟩
theorem CG_k {L : Nat → Prop} {S : Nat → Nat → Prop} {h h2 : Hp} {wid : Nat} {w : Wo} (a : ck S h h2) (n : ∀ i j, im L i → ¬ S i j) (c : CG L h wid w) : CG L h2 wid w := by
  obtain ⟨mo, c1, c2, c3, c4, c5, c6⟩ := c
  exact ⟨mo, (a.2.1 _ _).trans c1, CM_k a (fun i j x y => n i j (c3 i x y)) c2, c3, c4, c5, by rw [a.1]; exact c6⟩
theorem CV_k {S : Nat → Nat → Prop} {h h2 : Hp} {wid : Nat} (a : ck S h h2) (c : CV h wid) : CV h2 wid := ⟨(a.2.1 _ _).trans c.1, (a.2.1 _ _).trans c.2.1, fun i hi => (a.2.1 _ _).trans (c.2.2 i hi)⟩
theorem CW_k {L : Nat → Prop} {S : Nat → Nat → Prop} {h h2 : Hp} {wid : Nat} {w : Wo} (a : ck S h h2) (n : ∀ i j, im L i → ¬ S i j) (n1 : ¬ S wid 1) (n3 : ¬ S wid 3) (np : w 0 3 ≤ 5) (nt : ∀ p j, p < 5 → j ≤ w 0 5 → ¬ S (wid + 3 + p) j) (c : CW L h wid w) : CW L h2 wid w := by
  obtain ⟨c1, ⟨c2, c3⟩, c4, c5, c6⟩ := c
  exact ⟨CG_k a n c1, ⟨(a.2.2 _ _ n1).trans c2, (a.2.2 _ _ n3).trans c3⟩, CV_k a c4, fun p hp => CP_k a n (c5 p hp), fun p hp j hj => (a.2.2 _ _ (nt p j (by omega) hj)).trans (c6 p hp j hj)⟩
theorem nsub_neg {a b : Nat} (h : a < b) (hb : b < 2 ^ 31) : nI a - nI b < 0 := by
  rw [Int32.lt_iff_toInt_lt, Int32.toInt_sub, nI_toInt (by omega), nI_toInt hb]
  have : ((a : Int) - (b : Int)).bmod (2 ^ 32) = (a : Int) - (b : Int) := by
    rw [Int.bmod_def]
    omega
  simp only [this]
  show (a : Int) - b < 0
  omega
theorem al_n (k : Nat) : Int32.ofNat k = nI k := rfl
theorem c_placeOf {L : Nat → Prop} {h : Hp} {wid d p j : Nat} {w : Wo} (hk : WOK d w) (C : CW L h wid w) (hp : p < w 0 3) (hj : j ≤ w 0 5) (hd : d ≤ 120) : call 1006 [vo (some (wid, 10, 0)), vi (nI p), vi (nI j)] h = some (some (vi (nI (w (20 + p) j))), h) := by
  obtain ⟨-, ⟨-, f3⟩, ⟨-, r5, rr⟩, -, pl⟩ := C
  have k3 := hk.2.2.2.1
  have k5 := hk.2.2.2.2.2.1
  have n1 : ¬ w 0 3 ≤ p := by omega
  have r2 := rr p (by omega)
  have v := pl p hp j hj
  have e1 : (nI j < nI 121) = True := by rw [nl_lt (by omega) (by omega)]; exact eq_true (by omega)
  simp (disch := omega) only [e_1006, x_1006, xs, al_n, ↓reduceIte, nl_l0, f3, nl_le, n1, r5, ↓ib_n, cl_n, r2, e1, nl_g0, v]
theorem c_placeOf0 {L : Nat → Prop} {h : Hp} {wid d p : Nat} {w : Wo} {x : Int32} (hk : WOK d w) (C : CW L h wid w) (hp : p < w 0 3) (hx : x < 0) (hd : d ≤ 120) : call 1006 [vo (some (wid, 10, 0)), vi (nI p), vi x] h = some (some (vi (nI (w (20 + p) 0))), h) := by
  obtain ⟨-, ⟨-, f3⟩, ⟨-, r5, rr⟩, -, pl⟩ := C
  have k3 := hk.2.2.2.1
  have n1 : ¬ w 0 3 ≤ p := by omega
  have r2 := rr p (by omega)
  have v := pl p hp 0 (by omega)
  have e1 : (x < nI 121) = True := (cn hx (k := 121) (by decide)).2.2.2.1
  have e0 : (0 ≤ x) = False := (cn_0 hx).1
  have ib0 : ((0 : Int32) < 0 ∨ 121 ≤ (0 : Int32).toNatClampNeg) = False := by simp
  have c0 : (0 : Int32).toNatClampNeg = 0 := rfl
  simp (disch := omega) only [e_1006, x_1006, xs, al_n, ↓reduceIte, nl_l0, f3, nl_le, n1, r5, ↓ib_n, cl_n, r2, e1, e0, ↓ib0, c0, v]
theorem c_placeOfd {L : Nat → Prop} {h : Hp} {wid d p a b : Nat} {w : Wo} (hk : WOK d w) (C : CW L h wid w) (hp : p < w 0 3) (ha : a ≤ w 0 5) (hb : b < 10) (hd : d ≤ 120) : call 1006 [vo (some (wid, 10, 0)), vi (nI p), vi (nI a - nI b)] h = some (some (vi (nI (w (20 + p) (a - b)))), h) := by
  by_cases e : a < b
  · rw [c_placeOf0 hk C hp (nsub_neg e (by omega)) hd, show a - b = 0 by omega]
  · rw [pk_sub (by omega)]
    exact c_placeOf hk C hp (by omega) hd
theorem c_sight {L : Nat → Prop} {h : Hp} {wid d p a : Nat} {w : Wo} (hk : WOK d w) (C : CW L h wid w) (hp : p < w 0 3) (ha : a ≤ w 0 5) (hd : d ≤ 120) : call 1007 [vo (some (wid, 10, 0)), vi (nI p), vi (nI a)] h = some (some (vi (nI (w (20 + p) (a - w 0 4)))), h) := by
  have k4 := hk.2.2.2.2.1
  have h1 := c_placeOfd (b := w 0 4) hk C hp ha (by omega) hd
  have f1 := C.2.1.1
  simp (disch := omega) only [e_1007, x_1007, xs, f1, h1]
theorem c_sight1 {L : Nat → Prop} {h : Hp} {wid d p a : Nat} {w : Wo} (hk : WOK d w) (C : CW L h wid w) (hp : p < w 0 3) (ha : a ≤ w 0 5) (hd : d ≤ 120) : call 1007 [vo (some (wid, 10, 0)), vi (nI p), vi (nI a - 1)] h = some (some (vi (nI (w (20 + p) (a - (w 0 4 + 1))))), h) := by
  have k4 := hk.2.2.2.2.1
  have h1 := c_placeOfd (b := w 0 4 + 1) hk C hp ha (by omega) hd
  have f1 := C.2.1.1
  have e : nI a - 1 - nI (w 0 4) = nI a - nI (w 0 4 + 1) := by rw [← nI_add, Int32.sub_eq_add_neg, Int32.sub_eq_add_neg, Int32.sub_eq_add_neg, Int32.neg_add, Int32.sub_eq_add_neg, show (nI 1 : Int32) = 1 from rfl, Int32.add_assoc, Int32.add_comm (-1 : Int32)]
  simp (disch := omega) only [e_1007, x_1007, xs, f1, e, h1]
theorem oN_9 {o : Option Nat} (ho : ∀ t, o = some t → t < 30) : (oN o = -9) = (o = none) := by
  cases o with
  | none => simp [oN]
  | some t =>
    have := ho t rfl
    have : ¬ nI t = -9 := fun z => by
      have h1 := nI_pos' (n := t) (by omega)
      rw [z] at h1
      exact absurd h1 (by decide)
    simp [oN, this]
theorem c_byPlan {L : Nat → Prop} {h : Hp} {wid d p pid pla kd : Nat} {w : Wo} (hk : WOK d w) (C : CW L h wid w) (hp : p < w 0 3) (hd : d ≤ 120) (hkd : kd = 9 ∨ kd = 3 ∨ kd = 2 ∨ kd = 1 ∨ kd = 8 ∨ kd = 6) (q1 : hR h pid 1 = some (pla, 13, w 3 p)) (q2 : ∀ i, i < w 3 p → hI h pla i = nI (w (10 + p) i)) : call 904 [vo (some (pid, kd, 0)), vo (some (wid, 10, 0)), vi (nI p), vi (nI (w 0 5))] h = some (some (vi (nI (sWalk w p))), h) := by
  obtain ⟨g1, g2, g3, g4, g5, -⟩ := hk.2.2.2.2.2.2 p hp
  have k5 := hk.2.2.2.2.2.1
  obtain ⟨mo, m1, m2, -⟩ := C.1
  unfold sWalk
  by_cases e : w 3 p = 0
  · rw [if_pos e]
    have e2 : (nI (w 3 p) = 0) = True := by rw [nl_e0 (by omega)]; exact eq_true e
    rcases hkd with rfl | rfl | rfl | rfl | rfl | rfl <;> (simp (disch := omega) only [e_904, x_904, xs, al_n, ↓reduceIte, q1, e2]; rfl)
  · rw [if_neg e]
    have hm : w 0 5 % w 3 p < w 3 p := Nat.mod_lt _ (by omega)
    have g5' := g5 _ hm
    have h1 := c_placeOf hk C hp (Nat.le_refl _) hd
    have h2 := c_leads' hk m2 (cel_fre hk hp) (s := w (10 + p) (w 0 5 % w 3 p)) (by omega)
    have h2' : call 506 [vo (some (mo, 5, 0)), vi (nI (w (20 + p) (w 0 5))), vi (nI (w (10 + p) (w 0 5 % w 3 p)))] h = some (some (vi (oN (stp w (cel w p) (w (10 + p) (w 0 5 % w 3 p))))), h) := h2
    have v := q2 _ hm
    have o9 := oN_9 (o := stp w (cel w p) (w (10 + p) (w 0 5 % w 3 p))) (fun t z => stp_lt hk z)
    have m0 : (nI (w 3 p) = 0) = False := by rw [nl_e0 (by omega)]; exact eq_false e
    cases hq : stp w (cel w p) (w (10 + p) (w 0 5 % w 3 p)) with
    | none =>
      rcases hkd with rfl | rfl | rfl | rfl | rfl | rfl <;> (simp (disch := omega) only [e_904, x_904, xs, al_n, ↓reduceIte, q1, m0, nl_g0, pk_rem, ↓ib_n, cl_n, v, m1, h1, h2', o9, hq]; rfl)
    | some t =>
      rw [hq] at o9
      have o9' : (oN (some t) = -9) = False := by rw [o9]; simp
      rcases hkd with rfl | rfl | rfl | rfl | rfl | rfl <;> simp (disch := omega) only [e_904, x_904, xs, al_n, ↓reduceIte, q1, m0, nl_g0, pk_rem, ↓ib_n, cl_n, v, m1, h1, h2', hq, o9']
