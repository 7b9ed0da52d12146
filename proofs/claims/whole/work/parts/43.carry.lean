/-! THE REFERENCE: carrying the world to and from a row -/
def fld (n : Nat) : Nat × Nat := if n < 6 then (44, n) else if n < 26 then (if (n - 6) % 4 = 0 then (45, (n - 6) / 4) else if (n - 6) % 4 = 1 then (46, (n - 6) / 4) else if (n - 6) % 4 = 2 then (47, (n - 6) / 4) else (49, (n - 6) / 4)) else if n < 56 then (48, n - 26) else (50, n - 56)
theorem fld_c (n : Nat) : 44 ≤ (fld n).1 ∧ (fld n).1 ≤ 50 ∧ ((fld n).1 = 44 → (fld n).2 < 6) := by
  unfold fld
  repeat' split
  all_goals simp only
  all_goals omega
theorem fld_i {i n : Nat} (h1 : (fld i).1 = (fld n).1) (h2 : (fld i).2 = (fld n).2) : i = n := by
  unfold fld at h1 h2
  repeat' split at h1
  all_goals simp only at h1
  all_goals first
    | omega
    | (repeat' split at h2
       all_goals simp only at h2
       all_goals omega)
def cyH (b : Bool) (a n : Nat) (v : Int32) (hh : Hp) : Hp := hsI (if b = true then hsI hh a n v else hh) 44 17 (nI (n + 1))
def cyV (b : Bool) (a n : Nat) (v : Int32) (hh : Hp) : Int32 := if b = true then v else hI hh a n
def cyS (b : Bool) (a n c s : Nat) (hh : Hp) : Hp := hsI (cyH b a n (hI hh c s) hh) c s (cyV b a n (hI hh c s) hh)
theorem m_carry (b : Bool) (a n : Nat) (v : Int32) (hh : Hp) (h1 : hI hh 44 18 = bI b) (h2 : hI hh 44 17 = nI n) (hn : n < 706) (h3 : hR hh 44 19 = some (a, 13, 706)) (ha : a ≠ 44) : call 1219 [vo (some (44, 12, 0)), vi v] hh = some (some (vi (cyV b a n v hh)), cyH b a n v hh) := by
  have e1 : nI (n + 1) - 1 = nI n := by rw [show (1 : Int32) = nI 1 from rfl, pk_sub (by omega)]; rfl
  unfold cyV cyH
  cases b with
  | false =>
    rw [bI_f] at h1
    have r1 : hR (hsI hh 44 17 (nI (n + 1))) 44 19 = some (a, 13, 706) := h3
    have r2 : hI (hsI hh 44 17 (nI (n + 1))) 44 17 = nI (n + 1) := hI_e _ _ _ _
    have r3 : hI (hsI hh 44 17 (nI (n + 1))) a n = hI hh a n := hI_n (by omega)
    simp (disch := omega) only [e_1219, x_1219, xs, h1, i00, h2, h3, nl_inc, r1, r2, r3, e1, ↓ib_n, cl_n, Bool.false_eq_true, if_false]
  | true =>
    rw [bI_t] at h1
    have q1 : hI (hsI hh a n v) 44 17 = nI n := by rw [hI_n (by omega)]; exact h2
    have r1 : hR (hsI (hsI hh a n v) 44 17 (nI (n + 1))) 44 19 = some (a, 13, 706) := h3
    have r2 : hI (hsI (hsI hh a n v) 44 17 (nI (n + 1))) 44 17 = nI (n + 1) := hI_e _ _ _ _
    have r3 : hI (hsI (hsI hh a n v) 44 17 (nI (n + 1))) a n = v := by rw [hI_n (by omega)]; exact hI_e _ _ _ _
    simp (disch := omega) only [e_1219, x_1219, xs, h1, i10, h2, h3, q1, nl_inc, r1, r2, r3, e1, ↓ib_n, cl_n, if_true]
/-- n places are carried -/
def CI (b : Bool) (a : Nat) (h : Hp) (n : Nat) (hh : Hp) : Prop := hh.1 = h.1 ∧ (∀ i j, (i ≠ 44 ∨ j ≠ 19) → hR hh i j = hR h i j) ∧ hR hh 44 19 = some (a, 13, 706) ∧ hI hh 44 18 = bI b ∧ hI hh 44 17 = nI n ∧ (∀ i, i < n → hI hh a i = hI hh (fld i).1 (fld i).2) ∧ (∀ i j, ¬ (i = 44 ∧ (j = 17 ∨ j = 18)) → (b = true → i ≠ a ∨ n ≤ j) → (b = false → ∀ k, k < n → ¬ (i = (fld k).1 ∧ j = (fld k).2)) → hI hh i j = hI h i j)
theorem CI_s {b : Bool} {a : Nat} {h hh : Hp} {n : Nat} (ha : 50 < a) (I : CI b a h n hh) : CI b a h (n + 1) (cyS b a n (fld n).1 (fld n).2 hh) := by
  obtain ⟨i1, i2, i3, i4, i5, i6, i7⟩ := I
  have fc := fld_c n
  unfold cyS cyH cyV
  cases b with
  | true =>
    simp only [if_true]
    refine ⟨i1, i2, i3, ?_, ?_, fun i hi => ?_, fun i j n1 n2 _ => ?_⟩
    · rw [hI_n (by omega), hI_n (by omega), hI_n (by omega)]; exact i4
    · rw [hI_n (by omega), hI_e]
    · have fi := fld_c i
      rw [hI_n (by omega), hI_n (by omega), hI_s, hI_s]
      by_cases e : i = n
      · subst e; simp
      · rw [if_neg (by omega), i6 i (by omega)]
        split
        · rename_i z; rw [z.1, z.2]
        · rw [hI_n (by omega), hI_n (by omega)]
    · have e := i7 i j n1 (fun _ => by have := n2 rfl; omega) (fun z => by cases z)
      rw [hI_s]
      split
      · rename_i z; rw [← z.1, ← z.2]; exact e
      · have := n2 rfl
        rw [hI_n (by omega), hI_n (by omega)]; exact e
  | false =>
    simp only [Bool.false_eq_true, if_false]
    refine ⟨i1, i2, i3, ?_, ?_, fun i hi => ?_, fun i j n1 _ n3 => ?_⟩
    · rw [hI_n (by omega), hI_n (by omega)]; exact i4
    · rw [hI_n (by omega), hI_e]
    · have fi := fld_c i
      rw [hI_n (by omega), hI_n (by omega), hI_s]
      by_cases e : i = n
      · subst e; simp
      · rw [if_neg (fun z => e (fld_i z.1 z.2)), hI_n (by omega)]
        exact i6 i (by omega)
    · have e := i7 i j n1 (fun z => by cases z) (fun _ k hk => n3 rfl k (by omega))
      have := n3 rfl n (by omega)
      rw [hI_n this, hI_n (by omega)]
      exact e

theorem m_cy0 {b : Bool} {a : Nat} {h hh : Hp} {x : Int32} {l3 : Option AV} (ha : 50 < a) (I : CI b a h 0 hh) : run 1 1220 15 [some (vo (some (44, 12, 0))), some (vo (some (a, 13, 706))), some (vi x), l3] [] hh = run 1 1220 27 [some (vo (some (44, 12, 0))), some (vo (some (a, 13, 706))), some (vi x), l3] [] (cyS b a 0 44 0 hh) := by
  have hc := m_carry b a 0 (hI hh 44 0) hh I.2.2.2.1 I.2.2.2.2.1 (by decide) I.2.2.1 (by omega)
  simp only [x_1220, xs, hc]
  rfl
theorem m_cy1 {b : Bool} {a : Nat} {h hh : Hp} {x : Int32} {l3 : Option AV} (ha : 50 < a) (I : CI b a h 1 hh) : run 1 1220 27 [some (vo (some (44, 12, 0))), some (vo (some (a, 13, 706))), some (vi x), l3] [] hh = run 1 1220 39 [some (vo (some (44, 12, 0))), some (vo (some (a, 13, 706))), some (vi x), l3] [] (cyS b a 1 44 1 hh) := by
  have hc := m_carry b a 1 (hI hh 44 1) hh I.2.2.2.1 I.2.2.2.2.1 (by decide) I.2.2.1 (by omega)
  simp only [x_1220, xs, hc]
  rfl
theorem m_cy2 {b : Bool} {a : Nat} {h hh : Hp} {x : Int32} {l3 : Option AV} (ha : 50 < a) (I : CI b a h 2 hh) : run 1 1220 39 [some (vo (some (44, 12, 0))), some (vo (some (a, 13, 706))), some (vi x), l3] [] hh = run 1 1220 51 [some (vo (some (44, 12, 0))), some (vo (some (a, 13, 706))), some (vi x), l3] [] (cyS b a 2 44 2 hh) := by
  have hc := m_carry b a 2 (hI hh 44 2) hh I.2.2.2.1 I.2.2.2.2.1 (by decide) I.2.2.1 (by omega)
  simp only [x_1220, xs, hc]
  rfl
theorem m_cy3 {b : Bool} {a : Nat} {h hh : Hp} {x : Int32} {l3 : Option AV} (ha : 50 < a) (I : CI b a h 3 hh) : run 1 1220 51 [some (vo (some (44, 12, 0))), some (vo (some (a, 13, 706))), some (vi x), l3] [] hh = run 1 1220 63 [some (vo (some (44, 12, 0))), some (vo (some (a, 13, 706))), some (vi x), l3] [] (cyS b a 3 44 3 hh) := by
  have hc := m_carry b a 3 (hI hh 44 3) hh I.2.2.2.1 I.2.2.2.2.1 (by decide) I.2.2.1 (by omega)
  simp only [x_1220, xs, hc]
  rfl
theorem m_cy4 {b : Bool} {a : Nat} {h hh : Hp} {x : Int32} {l3 : Option AV} (ha : 50 < a) (I : CI b a h 4 hh) : run 1 1220 63 [some (vo (some (44, 12, 0))), some (vo (some (a, 13, 706))), some (vi x), l3] [] hh = run 1 1220 75 [some (vo (some (44, 12, 0))), some (vo (some (a, 13, 706))), some (vi x), l3] [] (cyS b a 4 44 4 hh) := by
  have hc := m_carry b a 4 (hI hh 44 4) hh I.2.2.2.1 I.2.2.2.2.1 (by decide) I.2.2.1 (by omega)
  simp only [x_1220, xs, hc]
  rfl
theorem m_cy5 {b : Bool} {a : Nat} {h hh : Hp} {x : Int32} {l3 : Option AV} (ha : 50 < a) (I : CI b a h 5 hh) : run 1 1220 75 [some (vo (some (44, 12, 0))), some (vo (some (a, 13, 706))), some (vi x), l3] [] hh = run 1 1220 87 [some (vo (some (44, 12, 0))), some (vo (some (a, 13, 706))), some (vi x), l3] [] (cyS b a 5 44 5 hh) := by
  have hc := m_carry b a 5 (hI hh 44 5) hh I.2.2.2.1 I.2.2.2.2.1 (by decide) I.2.2.1 (by omega)
  simp only [x_1220, xs, hc]
  rfl
theorem m_cyk {b : Bool} {a p n : Nat} {h hh : Hp} {x : Int32} (ha : 50 < a) (hW : MW h) (hp : p < 5) (hn : n < 706) (I : CI b a h n hh) : run 1 1220 94 [some (vo (some (44, 12, 0))), some (vo (some (a, 13, 706))), some (vi x), some (vi (nI p))] [] hh = run 1 1220 110 [some (vo (some (44, 12, 0))), some (vo (some (a, 13, 706))), some (vi x), some (vi (nI p))] [] (cyS b a n 45 p hh) := by
  have hc := m_carry b a n (hI hh 45 p) hh I.2.2.2.1 I.2.2.2.2.1 hn I.2.2.1 (by omega)
  have w : hR hh 44 6 = some (45, 13, 5) := by rw [I.2.1 _ _ (by omega)]; exact hW.1
  have w2 : hR (cyH b a n (hI hh 45 p) hh) 44 6 = some (45, 13, 5) := by unfold cyH; cases b <;> exact w
  simp (disch := omega) only [x_1220, xs, w, w2, ↓ib_n, cl_n, hc]
  rfl
theorem m_cyg {b : Bool} {a p n : Nat} {h hh : Hp} {x : Int32} (ha : 50 < a) (hW : MW h) (hp : p < 5) (hn : n < 706) (I : CI b a h n hh) : run 1 1220 110 [some (vo (some (44, 12, 0))), some (vo (some (a, 13, 706))), some (vi x), some (vi (nI p))] [] hh = run 1 1220 126 [some (vo (some (44, 12, 0))), some (vo (some (a, 13, 706))), some (vi x), some (vi (nI p))] [] (cyS b a n 46 p hh) := by
  have hc := m_carry b a n (hI hh 46 p) hh I.2.2.2.1 I.2.2.2.2.1 hn I.2.2.1 (by omega)
  have w : hR hh 44 7 = some (46, 13, 5) := by rw [I.2.1 _ _ (by omega)]; exact hW.2.1
  have w2 : hR (cyH b a n (hI hh 46 p) hh) 44 7 = some (46, 13, 5) := by unfold cyH; cases b <;> exact w
  simp (disch := omega) only [x_1220, xs, w, w2, ↓ib_n, cl_n, hc]
  rfl
theorem m_cym {b : Bool} {a p n : Nat} {h hh : Hp} {x : Int32} (ha : 50 < a) (hW : MW h) (hp : p < 5) (hn : n < 706) (I : CI b a h n hh) : run 1 1220 126 [some (vo (some (44, 12, 0))), some (vo (some (a, 13, 706))), some (vi x), some (vi (nI p))] [] hh = run 1 1220 142 [some (vo (some (44, 12, 0))), some (vo (some (a, 13, 706))), some (vi x), some (vi (nI p))] [] (cyS b a n 47 p hh) := by
  have hc := m_carry b a n (hI hh 47 p) hh I.2.2.2.1 I.2.2.2.2.1 hn I.2.2.1 (by omega)
  have w : hR hh 44 8 = some (47, 13, 5) := by rw [I.2.1 _ _ (by omega)]; exact hW.2.2.1
  have w2 : hR (cyH b a n (hI hh 47 p) hh) 44 8 = some (47, 13, 5) := by unfold cyH; cases b <;> exact w
  simp (disch := omega) only [x_1220, xs, w, w2, ↓ib_n, cl_n, hc]
  rfl
theorem m_cyc {b : Bool} {a p n : Nat} {h hh : Hp} {x : Int32} (ha : 50 < a) (hW : MW h) (hp : p < 5) (hn : n < 706) (I : CI b a h n hh) : run 1 1220 142 [some (vo (some (44, 12, 0))), some (vo (some (a, 13, 706))), some (vi x), some (vi (nI p))] [] hh = run 1 1220 158 [some (vo (some (44, 12, 0))), some (vo (some (a, 13, 706))), some (vi x), some (vi (nI p))] [] (cyS b a n 49 p hh) := by
  have hc := m_carry b a n (hI hh 49 p) hh I.2.2.2.1 I.2.2.2.2.1 hn I.2.2.1 (by omega)
  have w : hR hh 44 10 = some (49, 13, 5) := by rw [I.2.1 _ _ (by omega)]; exact hW.2.2.2.2.1
  have w2 : hR (cyH b a n (hI hh 49 p) hh) 44 10 = some (49, 13, 5) := by unfold cyH; cases b <;> exact w
  simp (disch := omega) only [x_1220, xs, w, w2, ↓ib_n, cl_n, hc]
  rfl
theorem m_cyq {b : Bool} {a p n : Nat} {h hh : Hp} {x : Int32} (ha : 50 < a) (hW : MW h) (hp : p < 30) (hn : n < 706) (I : CI b a h n hh) : run 1 1220 172 [some (vo (some (44, 12, 0))), some (vo (some (a, 13, 706))), some (vi x), some (vi (nI p))] [] hh = run 1 1220 188 [some (vo (some (44, 12, 0))), some (vo (some (a, 13, 706))), some (vi x), some (vi (nI p))] [] (cyS b a n 48 p hh) := by
  have hc := m_carry b a n (hI hh 48 p) hh I.2.2.2.1 I.2.2.2.2.1 hn I.2.2.1 (by omega)
  have w : hR hh 44 9 = some (48, 13, 30) := by rw [I.2.1 _ _ (by omega)]; exact hW.2.2.2.1
  have w2 : hR (cyH b a n (hI hh 48 p) hh) 44 9 = some (48, 13, 30) := by unfold cyH; cases b <;> exact w
  simp (disch := omega) only [x_1220, xs, w, w2, ↓ib_n, cl_n, hc]
  rfl
theorem m_cyt {b : Bool} {a p n : Nat} {h hh : Hp} {x : Int32} (ha : 50 < a) (hW : MW h) (hp : p < 650) (hn : n < 706) (I : CI b a h n hh) : run 1 1220 203 [some (vo (some (44, 12, 0))), some (vo (some (a, 13, 706))), some (vi x), some (vi (nI p))] [] hh = run 1 1220 219 [some (vo (some (44, 12, 0))), some (vo (some (a, 13, 706))), some (vi x), some (vi (nI p))] [] (cyS b a n 50 p hh) := by
  have hc := m_carry b a n (hI hh 50 p) hh I.2.2.2.1 I.2.2.2.2.1 hn I.2.2.1 (by omega)
  have w : hR hh 44 11 = some (50, 13, 650) := by rw [I.2.1 _ _ (by omega)]; exact hW.2.2.2.2.2.1
  have w2 : hR (cyH b a n (hI hh 50 p) hh) 44 11 = some (50, 13, 650) := by unfold cyH; cases b <;> exact w
  simp (disch := omega) only [x_1220, xs, w, w2, ↓ib_n, cl_n, hc]
  rfl
theorem m_cl1 {b : Bool} {a : Nat} {h : Hp} {x : Int32} (ha : 50 < a) (hW : MW h) : ∀ (n p : Nat) (hh : Hp), p + n = 5 → CI b a h (6 + 4 * p) hh → ∃ h2, run 1 1220 89 [some (vo (some (44, 12, 0))), some (vo (some (a, 13, 706))), some (vi x), some (vi (nI p))] [] hh = run 1 1220 164 [some (vo (some (44, 12, 0))), some (vo (some (a, 13, 706))), some (vi x), some (vi (nI 5))] [] h2 ∧ CI b a h 26 h2 := by
  intro n
  induction n with
  | zero =>
    intro p hh hp I
    have : p = 5 := by omega
    subst this
    refine ⟨hh, ?_, I⟩
    rw [x_1220_89]
    simp (disch := omega) only [x_1220, xs, cz_5, Nat.le_refl]
  | succ n ih =>
    intro p hh hp I
    have J1 := CI_s ha I
    rw [show fld (6 + 4 * p) = (45, p) by unfold fld; rw [if_neg (by omega), if_pos (by omega), if_pos (by omega)]; congr 1; omega] at J1
    have J2 := CI_s ha J1
    rw [show fld (6 + 4 * p + 1) = (46, p) by unfold fld; rw [if_neg (by omega), if_pos (by omega), if_neg (by omega), if_pos (by omega)]; congr 1; omega] at J2
    have J3 := CI_s ha J2
    rw [show fld (6 + 4 * p + 1 + 1) = (47, p) by unfold fld; rw [if_neg (by omega), if_pos (by omega), if_neg (by omega), if_neg (by omega), if_pos (by omega)]; congr 1; omega] at J3
    have J4 := CI_s ha J3
    rw [show fld (6 + 4 * p + 1 + 1 + 1) = (49, p) by unfold fld; rw [if_neg (by omega), if_pos (by omega), if_neg (by omega), if_neg (by omega), if_neg (by omega)]; congr 1; omega] at J4
    obtain ⟨h2, r1, r2⟩ := ih (p + 1) _ (by omega) (show CI b a h (6 + 4 * (p + 1)) _ from J4)
    refine ⟨h2, ?_, r2⟩
    rw [x_1220_89, ← r1]
    have h5 : ¬ 5 ≤ p := by omega
    have s0 : run 1 1220 90 [some (vo (some (44, 12, 0))), some (vo (some (a, 13, 706))), some (vi x), some (vi (nI p))] [vi (nI p)] hh = run 1 1220 94 [some (vo (some (44, 12, 0))), some (vo (some (a, 13, 706))), some (vi x), some (vi (nI p))] [] hh := by simp (disch := omega) only [x_1220, xs, cz_5, h5]
    rw [s0, m_cyk ha hW (by omega) (by omega) I, m_cyg ha hW (by omega) (by omega) J1, m_cym ha hW (by omega) (by omega) J2, m_cyc ha hW (by omega) (by omega) J3]
    simp only [x_1220, xs, nl_inc]
theorem m_cl2 {b : Bool} {a : Nat} {h : Hp} {x : Int32} (ha : 50 < a) (hW : MW h) : ∀ (n p : Nat) (hh : Hp), p + n = 30 → CI b a h (26 + p) hh → ∃ h2, run 1 1220 166 [some (vo (some (44, 12, 0))), some (vo (some (a, 13, 706))), some (vi x), some (vi (nI p))] [] hh = run 1 1220 194 [some (vo (some (44, 12, 0))), some (vo (some (a, 13, 706))), some (vi x), some (vi (nI 30))] [] h2 ∧ CI b a h 56 h2 := by
  intro n
  induction n with
  | zero =>
    intro p hh hp I
    have : p = 30 := by omega
    subst this
    refine ⟨hh, ?_, I⟩
    rw [x_1220_166]
    have hle : (30 : Int32) ≤ nI 30 := by decide
    simp (disch := omega) only [x_1220, xs, eq_true hle]
  | succ n ih =>
    intro p hh hp I
    have J1 := CI_s ha I
    rw [show fld (26 + p) = (48, p) by unfold fld; rw [if_neg (by omega), if_neg (by omega), if_pos (by omega)]; congr 1; omega] at J1
    obtain ⟨h2, r1, r2⟩ := ih (p + 1) _ (by omega) J1
    refine ⟨h2, ?_, r2⟩
    have hle : ((30 : Int32) ≤ nI p) = False := by
      rw [show (30 : Int32) = nI 30 from rfl, nl_le (by decide) (by omega)]
      simp
      omega
    rw [x_1220_166, ← r1]
    have s0 : run 1 1220 167 [some (vo (some (44, 12, 0))), some (vo (some (a, 13, 706))), some (vi x), some (vi (nI p))] [vi (nI p)] hh = run 1 1220 172 [some (vo (some (44, 12, 0))), some (vo (some (a, 13, 706))), some (vi x), some (vi (nI p))] [] hh := by simp only [x_1220, xs, hle]
    rw [s0, m_cyq ha hW (by omega) (by omega) I] 
    simp only [x_1220, xs, nl_inc]
theorem m_cl3 {b : Bool} {a : Nat} {h : Hp} {x : Int32} (ha : 50 < a) (hW : MW h) : ∀ (n p : Nat) (hh : Hp), p + n = 650 → CI b a h (56 + p) hh → ∃ h2, run 1 1220 196 [some (vo (some (44, 12, 0))), some (vo (some (a, 13, 706))), some (vi x), some (vi (nI p))] [] hh = run 1 1220 225 [some (vo (some (44, 12, 0))), some (vo (some (a, 13, 706))), some (vi x), some (vi (nI 650))] [] h2 ∧ CI b a h 706 h2 := by
  intro n
  induction n with
  | zero =>
    intro p hh hp I
    have : p = 650 := by omega
    subst this
    refine ⟨hh, ?_, I⟩
    rw [x_1220_196]
    have hle : (650 : Int32) ≤ nI 650 := by decide
    simp (disch := omega) only [x_1220, xs, eq_true hle]
  | succ n ih =>
    intro p hh hp I
    have J1 := CI_s ha I
    rw [show fld (56 + p) = (50, p) by unfold fld; rw [if_neg (by omega), if_neg (by omega), if_neg (by omega)]; congr 1; omega] at J1
    obtain ⟨h2, r1, r2⟩ := ih (p + 1) _ (by omega) J1
    refine ⟨h2, ?_, r2⟩
    have hle : ((650 : Int32) ≤ nI p) = False := by
      rw [show (650 : Int32) = nI 650 from rfl, nl_le (by decide) (by omega)]
      simp
      omega
    rw [x_1220_196, ← r1]
    have s0 : run 1 1220 197 [some (vo (some (44, 12, 0))), some (vo (some (a, 13, 706))), some (vi x), some (vi (nI p))] [vi (nI p)] hh = run 1 1220 203 [some (vo (some (44, 12, 0))), some (vo (some (a, 13, 706))), some (vi x), some (vi (nI p))] [] hh := by simp only [x_1220, xs, hle]
    rw [s0, m_cyt ha hW (by omega) (by omega) I] 
    simp only [x_1220, xs, nl_inc]
theorem CI_0 {b : Bool} {a : Nat} {h : Hp} (ha : 50 < a) : CI b a h 0 (hsI (hsI (hsR h 44 19 (some (a, 13, 706))) 44 18 (bI b)) 44 17 0) := by
  refine ⟨rfl, fun i j n => ?_, ?_, ?_, ?_, fun i hi => absurd hi (by omega), fun i j n _ _ => ?_⟩
  · show (if i = 44 ∧ j = 19 then _ else _) = _
    rw [if_neg (by omega)]
    rfl
  · show hR (hsR h 44 19 (some (a, 13, 706))) 44 19 = _
    unfold hR hsR
    simp
  · rw [hI_n (by decide), hI_e]
  · rw [hI_e]; rfl
  · rw [hI_n (by omega), hI_n (by omega)]; rfl
theorem m_carryAll (b : Bool) (a : Nat) (h : Hp) (ha : 50 < a) (hW : MW h) : ∃ h2, call 1220 [vo (some (44, 12, 0)), vo (some (a, 13, 706)), vi (bI b)] h = some (none, h2) ∧ CI b a h 706 h2 := by
  have J0 := CI_0 (b := b) (h := h) ha
  have J1 : CI b a h 1 (cyS b a 0 44 0 _) := CI_s ha J0
  have J2 : CI b a h 2 (cyS b a 1 44 1 _) := CI_s ha J1
  have J3 : CI b a h 3 (cyS b a 2 44 2 _) := CI_s ha J2
  have J4 : CI b a h 4 (cyS b a 3 44 3 _) := CI_s ha J3
  have J5 : CI b a h 5 (cyS b a 4 44 4 _) := CI_s ha J4
  have J6 : CI b a h 6 (cyS b a 5 44 5 _) := CI_s ha J5
  obtain ⟨h1, r1, K1⟩ := m_cl1 (x := bI b) ha hW 5 0 _ (by omega) J6
  obtain ⟨h2, r2, K2⟩ := m_cl2 (x := bI b) ha hW 30 0 h1 (by omega) K1
  obtain ⟨h3, r3, K3⟩ := m_cl3 (x := bI b) ha hW 650 0 h2 (by omega) K2
  refine ⟨h3, ?_, K3⟩
  have s0 : call 1220 [vo (some (44, 12, 0)), vo (some (a, 13, 706)), vi (bI b)] h = run 1 1220 15 [some (vo (some (44, 12, 0))), some (vo (some (a, 13, 706))), some (vi (bI b)), none] [] (hsI (hsI (hsR h 44 19 (some (a, 13, 706))) 44 18 (bI b)) 44 17 0) := by
    simp only [e_1220, x_1220, xs, bI_d]
  rw [s0, m_cy0 ha J0, m_cy1 ha J1, m_cy2 ha J2, m_cy3 ha J3, m_cy4 ha J4, m_cy5 ha J5]
  have s1 : ∀ H : Hp, run 1 1220 87 [some (vo (some (44, 12, 0))), some (vo (some (a, 13, 706))), some (vi (bI b)), none] [] H = run 1 1220 89 [some (vo (some (44, 12, 0))), some (vo (some (a, 13, 706))), some (vi (bI b)), some (vi (nI 0))] [] H := fun H => by
    simp only [x_1220, xs]
    rfl
  have s2 : run 1 1220 164 [some (vo (some (44, 12, 0))), some (vo (some (a, 13, 706))), some (vi (bI b)), some (vi (nI 5))] [] h1 = run 1 1220 166 [some (vo (some (44, 12, 0))), some (vo (some (a, 13, 706))), some (vi (bI b)), some (vi (nI 0))] [] h1 := by
    simp only [x_1220, xs]
    rfl
  have s3 : run 1 1220 194 [some (vo (some (44, 12, 0))), some (vo (some (a, 13, 706))), some (vi (bI b)), some (vi (nI 30))] [] h2 = run 1 1220 196 [some (vo (some (44, 12, 0))), some (vo (some (a, 13, 706))), some (vi (bI b)), some (vi (nI 0))] [] h2 := by
    simp only [x_1220, xs]
    rfl
  rw [s1]
  refine (r1.trans (s2.trans (r2.trans (s3.trans r3)))).trans ?_
  simp only [x_1220, xs]
