/-! THE REFERENCE: how it holds a world -/
def MW (h : Hp) : Prop := hR h 44 6 = some (45, 13, 5) ∧ hR h 44 7 = some (46, 13, 5) ∧ hR h 44 8 = some (47, 13, 5) ∧ hR h 44 9 = some (48, 13, 30) ∧ hR h 44 10 = some (49, 13, 5) ∧ hR h 44 11 = some (50, 13, 650) ∧ hR h 44 13 = some (51, 13, 7) ∧ hR h 44 14 = some (52, 13, 706) ∧ hR h 44 15 = some (53, 13, 706) ∧ hR h 44 20 = some (54, 13, 80) ∧ hR h 44 25 = some (55, 13, 28) ∧ hR h 44 26 = some (56, 13, 28) ∧ hR h 44 27 = some (57, 13, 28) ∧ hR h 44 28 = some (58, 13, 28) ∧ hR h 44 29 = some (59, 13, 28) ∧ hR h 44 30 = some (60, 13, 28) ∧ hR h 44 31 = some (61, 13, 168) ∧ hR h 44 32 = some (62, 13, 330) ∧ hR h 44 33 = some (63, 13, 330) ∧ hR h 44 34 = some (64, 13, 6) ∧ hR h 44 35 = some (65, 13, 6) ∧ hR h 44 37 = some (66, 13, 900) ∧ hR h 44 38 = some (67, 13, 30) ∧ hR h 44 40 = some (68, 13, 4) ∧ hR h 44 41 = some (69, 13, 12)
/-- the six numbers, kinds, figures, plan lengths, plans, comings, trail -/
def MSg (f k g m q c t : Nat → Int32) (w : Wo) : Prop := (f 0 = nI (w 0 0) ∧ f 1 = nI (w 0 1) ∧ f 2 = nI (w 0 2) ∧ f 3 = nI (w 0 3) ∧ f 4 = nI (w 0 4) ∧ f 5 = nI (w 0 5)) ∧
  ∀ p, p < w 0 3 → k p = nI (w 1 p) ∧ g p = nI (w 2 p) ∧ m p = nI (w 3 p) ∧ c p = nI (w 4 p) ∧ (∀ i, i < w 3 p → q (6 * p + i) = nI (w (10 + p) i)) ∧ (∀ j, w 4 p ≤ j → j ≤ w 0 5 → t (130 * p + j) = nI (w (20 + p) j))
def MS (h : Hp) (w : Wo) : Prop := MSg (hI h 44) (hI h 45) (hI h 46) (hI h 47) (hI h 48) (hI h 49) (hI h 50) w
theorem m_in (a b c : Int64) (h : Hp) : call 1201 [vl a, vl b, vl c] h = some (some (vi (bI (decide (b ≤ a ∧ a ≤ c)))), h) := by
  simp only [e_1201, x_1201, xs, cmp_lt, cmp_gt]
  by_cases h1 : a < b
  · have : ¬ (b ≤ a ∧ a ≤ c) := fun z => absurd z.1 (by rw [Int64.not_le]; exact h1)
    rw [if_pos h1]; simp [this, bI]
  · rw [if_neg h1]
    by_cases h2 : c < a
    · have : ¬ (b ≤ a ∧ a ≤ c) := fun z => absurd z.2 (by rw [Int64.not_le]; exact h2)
      rw [if_pos h2]; simp [this, bI]
    · have : b ≤ a ∧ a ≤ c := ⟨Int64.not_lt.mp h1, Int64.not_lt.mp h2⟩
      rw [if_neg h2]; simp [this, bI]
/-- in, of ints -/
theorem m_inI (a b c : Int32) (h : Hp) : call 1201 [vl a.toInt64, vl b.toInt64, vl c.toInt64] h = some (some (vi (bI (decide (b ≤ a ∧ a ≤ c)))), h) := by
  rw [m_in]
  simp only [i64_le]
theorem m_in0 (a c : Int32) (h : Hp) : call 1201 [vl a.toInt64, vl 0, vl c.toInt64] h = some (some (vi (bI (decide (0 ≤ a ∧ a ≤ c)))), h) := m_inI a 0 c h
theorem m_in01 (a : Int32) (h : Hp) : call 1201 [vl a.toInt64, vl 0, vl 1] h = some (some (vi (bI (decide (0 ≤ a ∧ a ≤ 1)))), h) := m_inI a 0 1 h
theorem m_in04 (a : Int32) (h : Hp) : call 1201 [vl a.toInt64, vl 0, vl 4] h = some (some (vi (bI (decide (0 ≤ a ∧ a ≤ 4)))), h) := m_inI a 0 4 h
theorem m_in89 (a : Int32) (h : Hp) : call 1201 [vl a.toInt64, vl 48, vl 57] h = some (some (vi (bI (decide (48 ≤ a ∧ a ≤ 57)))), h) := m_inI a 48 57 h
theorem m_in16 (a : Int32) (h : Hp) : call 1201 [vl a.toInt64, vl 11, vl 16] h = some (some (vi (bI (decide (11 ≤ a ∧ a ≤ 16)))), h) := m_inI a 11 16 h
theorem m_refuse (n : Int32) (h : Hp) (hw : MW h) : call 1202 [vo (some (44, 12, 0)), vi n] h = if -n < 0 ∨ 7 ≤ (-n).toNatClampNeg then none else some (some (vi n), hsI h 51 (-n).toNatClampNeg (hI h 51 (-n).toNatClampNeg + 1)) := by
  obtain ⟨-, -, -, -, -, -, w13, -⟩ := hw
  simp only [e_1202, x_1202, xs, w13]
  split <;> rfl
/-- any int as a cell: is it free -/
def freI (w : Wo) (c : Int32) : Bool := decide (0 ≤ c ∧ c ≤ nI (w 0 0 * w 0 1) - 1) && fre w c.toNatClampNeg
theorem freI_n {w : Wo} {d k : Nat} (hk : WOK d w) (h : k < 2 ^ 31) : freI w (nI k) = fre w k := by
  have hc := cells_le hk
  have e1 : nI (w 0 0 * w 0 1) - 1 = nI (w 0 0 * w 0 1 - 1) := by rw [show (1 : Int32) = nI 1 from rfl, pk_sub (by omega)]
  unfold freI
  rw [nI_clamp h]
  by_cases h1 : k < w 0 0 * w 0 1
  · have : 0 ≤ nI k ∧ nI k ≤ nI (w 0 0 * w 0 1) - 1 := ⟨nI_pos' h, by rw [e1, nl_le h (by omega)]; omega⟩
    simp [this]
  · have : fre w k = false := by simp [fre, h1]
    simp [this]
theorem freI_of {w : Wo} {d : Nat} {c : Int32} (hk : WOK d w) (h : freI w c = true) : ∃ k, c = nI k ∧ fre w k = true ∧ k < 30 := by
  have hc := cells_le hk
  have h0 : ¬ c < 0 := by
    simp only [freI, Bool.and_eq_true, decide_eq_true_eq] at h
    rw [Int32.not_lt]; exact h.1.1
  obtain ⟨j, hj, rfl⟩ := nI_of h0
  rw [freI_n hk hj] at h
  exact ⟨j, rfl, h, by have := fre_lt h; omega⟩
theorem m_isFree (c : Int32) (h : Hp) (w : Wo) (d : Nat) (hw : MS h w) (hk : WOK d w) : call 1203 [vo (some (44, 12, 0)), vi c] h = some (some (vi (bI (freI w c))), h) := by
  have hc := cells_le hk
  have hh := hills_lt hk
  obtain ⟨⟨f0, f1, f2, -⟩, -⟩ := hw
  simp only [e_1203, x_1203, xs, f0, f1, f2, pk_mul, m_in0, bI_0]
  by_cases h1 : 0 ≤ c ∧ c ≤ nI (w 0 0 * w 0 1) - 1
  · obtain ⟨j, hj, rfl⟩ := nI_of (x := c) (by rw [Int32.not_lt]; exact h1.1)
    have hj2 : j < w 0 0 * w 0 1 := by
      have := h1.2
      rw [show nI (w 0 0 * w 0 1) - 1 = nI (w 0 0 * w 0 1 - 1) by rw [show (1 : Int32) = nI 1 from rfl, pk_sub (by omega)], nl_le hj (by omega)] at this
      omega
    rw [freI_n hk hj, nl_shr (by omega) (by omega), nl_a1 (Nat.lt_of_le_of_lt (Nat.div_le_self _ _) (by omega))]
    have hz : (nI (w 0 2 / 2 ^ j % 2) = 0) = (fre w j = true) := by
      rw [nl_e0 (by omega), nl_div2]
      simp [fre, hj2]
    simp only [hz, h1, decide_true]
    cases fre w j <;> simp [bI]
  · have h2 : freI w c = false := by simp [freI, h1]
    simp only [h1, h2, decide_false, if_true]
    rfl
/-- a step of the reference: its row and its column -/
def stR (C c s : Nat) : Int32 := nI c / nI C + (if nI s = 0 then -1 else if nI s = 2 then 1 else 0)
def stK (C c s : Nat) : Int32 := nI c - nI c / nI C * nI C + (if nI s = 1 then 1 else if nI s = 3 then -1 else 0)
def stC (R C c s : Nat) : Bool := match sq R C c s with
  | some t => decide (((0 ≤ stR C c s ∧ stR C c s ≤ nI R - 1) ∧ (0 ≤ stK C c s ∧ stK C c s ≤ nI C - 1)) ∧ stR C c s * nI C + stK C c s = nI t ∧ t < 30)
  | none => decide (¬ ((0 ≤ stR C c s ∧ stR C c s ≤ nI R - 1) ∧ (0 ≤ stK C c s ∧ stK C c s ≤ nI C - 1)))
theorem stI0 : ((List.range 6).all fun R => (List.range 7).all fun C => (List.range 30).all fun c => (List.range 5).all fun s => !(decide (2 ≤ R) && (decide (2 ≤ C) && decide (c < R * C))) || stC R C c s) = true := by decide +kernel
theorem stI (R : Nat) (hR : R < 6) (C : Nat) (hC : C < 7) (c : Nat) (hc : c < 30) (s : Nat) (hs : s < 5) (h1 : 2 ≤ R) (h2 : 2 ≤ C) (h3 : c < R * C) : stC R C c s = true := by
  have g1 := List.all_eq_true.mp stI0 R (List.mem_range.mpr hR)
  have g2 := List.all_eq_true.mp g1 C (List.mem_range.mpr hC)
  have g3 := List.all_eq_true.mp g2 c (List.mem_range.mpr hc)
  have g4 := List.all_eq_true.mp g3 s (List.mem_range.mpr hs)
  simpa [h1, h2, h3] using g4
theorem stI2 {w : Wo} {d c s : Nat} (hk : WOK d w) (hc : c < w 0 0 * w 0 1) (hs : s < 5) : stC (w 0 0) (w 0 1) c s = true := by
  have h1 := cells_le hk
  obtain ⟨⟨g1, g2⟩, ⟨g3, g4⟩, -⟩ := hk
  exact stI _ (by omega) _ (by omega) _ (by omega) _ hs g1 g3 hc
theorem if_ft {α : Type} (b : Bool) (x y : α) : (if b = false then x else y) = if b = true then y else x := by cases b <;> rfl
theorem dz : (nI 0 = 0) = True ∧ (nI 0 = 1) = False ∧ (nI 0 = 2) = False ∧ (nI 0 = 3) = False ∧ (nI 0 = 4) = False ∧ (nI 1 = 0) = False ∧ (nI 1 = 1) = True ∧ (nI 1 = 2) = False ∧ (nI 1 = 3) = False ∧ (nI 1 = 4) = False ∧ (nI 2 = 0) = False ∧ (nI 2 = 1) = False ∧ (nI 2 = 2) = True ∧ (nI 2 = 3) = False ∧ (nI 2 = 4) = False ∧ (nI 3 = 0) = False ∧ (nI 3 = 1) = False ∧ (nI 3 = 2) = False ∧ (nI 3 = 3) = True ∧ (nI 3 = 4) = False ∧ (nI 4 = 0) = False ∧ (nI 4 = 1) = False ∧ (nI 4 = 2) = False ∧ (nI 4 = 3) = False ∧ (nI 4 = 4) = True := ⟨by simp only [eq_iff_iff, iff_true]; decide, by simp only [eq_iff_iff, iff_false]; decide, by simp only [eq_iff_iff, iff_false]; decide, by simp only [eq_iff_iff, iff_false]; decide, by simp only [eq_iff_iff, iff_false]; decide, by simp only [eq_iff_iff, iff_false]; decide, by simp only [eq_iff_iff, iff_true]; decide, by simp only [eq_iff_iff, iff_false]; decide, by simp only [eq_iff_iff, iff_false]; decide, by simp only [eq_iff_iff, iff_false]; decide, by simp only [eq_iff_iff, iff_false]; decide, by simp only [eq_iff_iff, iff_false]; decide, by simp only [eq_iff_iff, iff_true]; decide, by simp only [eq_iff_iff, iff_false]; decide, by simp only [eq_iff_iff, iff_false]; decide, by simp only [eq_iff_iff, iff_false]; decide, by simp only [eq_iff_iff, iff_false]; decide, by simp only [eq_iff_iff, iff_false]; decide, by simp only [eq_iff_iff, iff_true]; decide, by simp only [eq_iff_iff, iff_false]; decide, by simp only [eq_iff_iff, iff_false]; decide, by simp only [eq_iff_iff, iff_false]; decide, by simp only [eq_iff_iff, iff_false]; decide, by simp only [eq_iff_iff, iff_false]; decide, by simp only [eq_iff_iff, iff_true]; decide⟩
theorem i10 : ((1 : Int32) = 0) = False := by simp only [eq_iff_iff, iff_false]; decide
theorem m_stepFrom (c s : Nat) (h : Hp) (w : Wo) (d : Nat) (hw : MS h w) (hk : WOK d w) (hc : c < w 0 0 * w 0 1) (hs : s < 5) : call 1206 [vo (some (44, 12, 0)), vi (nI c), vi (nI s)] h = some (some (vi (oI (stp w c s))), h) := by
  have hst := stI2 hk hc hs
  have f0 := hw.1.1
  have f1 := hw.1.2.1
  have hC : ¬ nI (w 0 1) = 0 := by rw [nl_e0 (by have := hk.2.1; omega)]; have := hk.2.1; omega
  have hfr := fun c => m_isFree c h w d hw hk
  have key : call 1206 [vo (some (44, 12, 0)), vi (nI c), vi (nI s)] h = if (0 ≤ stR (w 0 1) c s ∧ stR (w 0 1) c s ≤ nI (w 0 0) - 1) ∧ (0 ≤ stK (w 0 1) c s ∧ stK (w 0 1) c s ≤ nI (w 0 1) - 1) then (if freI w (stR (w 0 1) c s * nI (w 0 1) + stK (w 0 1) c s) = true then some (some (vi (stR (w 0 1) c s * nI (w 0 1) + stK (w 0 1) c s)), h) else some (some (vi (-1)), h)) else some (some (vi (-1)), h) := by
    have h5 : s = 0 ∨ s = 1 ∨ s = 2 ∨ s = 3 ∨ s = 4 := by omega
    by_cases h1 : 0 ≤ stR (w 0 1) c s ∧ stR (w 0 1) c s ≤ nI (w 0 0) - 1
    · by_cases h2 : 0 ≤ stK (w 0 1) c s ∧ stK (w 0 1) c s ≤ nI (w 0 1) - 1
      · rw [if_pos ⟨h1, h2⟩]
        rcases h5 with rfl | rfl | rfl | rfl | rfl
        all_goals
          simp only [stR, stK, dz, xs] at h1 h2 ⊢
          simp only [e_1206, x_1206, xs, f0, f1, hC, m_in0, hfr, bI_0, dz, h1, h2, and_self, decide_true, reduceCtorEq]
          simp only [if_ft, i10, if_false]
      · rw [if_neg (fun z => h2 z.2)]
        rcases h5 with rfl | rfl | rfl | rfl | rfl
        all_goals
          simp only [stR, stK, dz, xs] at h1 h2 ⊢
          simp only [e_1206, x_1206, xs, f0, f1, hC, m_in0, hfr, bI_0, dz, h1, h2, and_self, decide_true, decide_false, reduceCtorEq]
    · rw [if_neg (fun z => h1 z.1)]
      rcases h5 with rfl | rfl | rfl | rfl | rfl
      all_goals
        simp only [stR, stK, dz, xs] at h1 ⊢
        simp only [e_1206, x_1206, xs, f0, f1, hC, m_in0, hfr, bI_0, dz, h1, and_self, decide_true, decide_false, reduceCtorEq]
  rw [key]
  unfold stC at hst
  unfold stp
  cases hq : sq (w 0 0) (w 0 1) c s with
  | none =>
    rw [hq] at hst
    rw [if_neg (of_decide_eq_true hst)]
    rfl
  | some t =>
    rw [hq] at hst
    obtain ⟨g1, g2, g3⟩ := of_decide_eq_true hst
    rw [if_pos g1, g2, freI_n hk (by omega)]
    simp only
    split <;> rfl
theorem dif_I {a b : Nat} (ha : a < 2 ^ 31) (hb : b < 2 ^ 31) : (if nI b ≤ nI a then nI a - nI b else nI b - nI a) = nI (dif a b) := by
  simp only [nl_le hb ha]
  unfold dif
  split
  · rw [pk_sub (by omega)]; congr 1; omega
  · rw [pk_sub (by omega)]; congr 1; omega
theorem m_apart (a b : Nat) (h : Hp) (ha : a < 2 ^ 31) (hb : b < 2 ^ 31) : call 1207 [vi (nI a), vi (nI b)] h = some (some (vi (nI (dif a b))), h) := by
  rw [← dif_I ha hb]
  simp only [e_1207, x_1207]
  split <;> rfl
theorem m_way (a b : Nat) (h : Hp) (w : Wo) (d : Nat) (hw : MS h w) (hk : WOK d w) (ha : a < 2 ^ 31) (hb : b < 2 ^ 31) : call 1208 [vo (some (44, 12, 0)), vi (nI a), vi (nI b)] h = some (some (vi (nI (way w a b))), h) := by
  have f1 := hw.1.2.1
  have hk1 := hk.2.1
  have hC : ¬ nI (w 0 1) = 0 := by rw [nl_e0 (by omega)]; omega
  have ha1 : a / w 0 1 < 2 ^ 31 := Nat.lt_of_le_of_lt (Nat.div_le_self _ _) ha
  have hb1 : b / w 0 1 < 2 ^ 31 := Nat.lt_of_le_of_lt (Nat.div_le_self _ _) hb
  have ha2 : a % w 0 1 < 2 ^ 31 := Nat.lt_of_le_of_lt (Nat.mod_le _ _) ha
  have hb2 : b % w 0 1 < 2 ^ 31 := Nat.lt_of_le_of_lt (Nat.mod_le _ _) hb
  simp only [e_1208, x_1208, xs, f1, hC, pk_div ha (show 0 < w 0 1 by omega) (show w 0 1 < 2 ^ 31 by omega), pk_div hb (show 0 < w 0 1 by omega) (show w 0 1 < 2 ^ 31 by omega), nl_rem ha (show 0 < w 0 1 by omega) (show w 0 1 < 2 ^ 31 by omega), nl_rem hb (show 0 < w 0 1 by omega) (show w 0 1 < 2 ^ 31 by omega), m_apart _ _ _ ha1 hb1, m_apart _ _ _ ha2 hb2, nI_add]
  rfl
/-- where one was, on any day up to now (a day before the first is the first) -/
theorem m_wasOn (p : Nat) (x : Int32) (j : Nat) (h : Hp) (w : Wo) (d : Nat) (hW : MW h) (hw : MS h w) (hk : WOK d w) (hd : d ≤ 129) (hp : p < w 0 3) (hj : j ≤ w 0 5) (hx : x = nI j ∨ (x < 0 ∧ j = 0)) : call 1209 [vo (some (44, 12, 0)), vi (nI p), vi x] h = some (some (vi (nI (w (20 + p) j))), h) := by
  obtain ⟨-, -, -, -, w10, w11, -⟩ := hW
  obtain ⟨-, -, -, k3, -, k5, kp⟩ := hk
  obtain ⟨-, -, -, c4, -, -, c7⟩ := kp p hp
  obtain ⟨-, -, -, g4, -, g6⟩ := hw.2 p hp
  have e130 : (130 : Int32) * nI p = nI (130 * p) := by rw [show (130 : Int32) = nI 130 from rfl, pk_mul]
  by_cases hc : nI (w 4 p) ≤ x
  · have hx2 : x = nI j := by
      rcases hx with hx | ⟨hx, -⟩
      · exact hx
      · have := nI_pos' (n := w 4 p) (by omega)
        rw [Int32.le_iff_toInt_le] at hc this
        rw [Int32.lt_iff_toInt_lt] at hx
        omega
    subst hx2
    have hc2 : w 4 p ≤ j := by rwa [nl_le (by omega) (by omega)] at hc
    have g7 := g6 j hc2 hj
    simp (disch := omega) only [e_1209, x_1209, xs, w10, w11, ↓ib_n, cl_n, g4, e130, hc, nI_add, g7]
  · have hjc : j ≤ w 4 p := by
      rcases hx with rfl | ⟨-, hx⟩
      · rw [nl_le (by omega) (by omega)] at hc; omega
      · omega
    have g7 := g6 (w 4 p) (Nat.le_refl _) c4
    simp (disch := omega) only [e_1209, x_1209, xs, w10, w11, ↓ib_n, cl_n, g4, e130, hc, nI_add, g7, c7 j hjc]
theorem m_cellOf (p : Nat) (h : Hp) (w : Wo) (d : Nat) (hW : MW h) (hw : MS h w) (hk : WOK d w) (hd : d ≤ 129) (hp : p < w 0 3) : call 1210 [vo (some (44, 12, 0)), vi (nI p)] h = some (some (vi (nI (cel w p))), h) := by
  obtain ⟨-, -, -, -, -, w11, -⟩ := hW
  obtain ⟨-, -, -, k3, -, k5, kp⟩ := hk
  obtain ⟨-, -, -, c4, -, -, c7⟩ := kp p hp
  obtain ⟨-, -, -, -, -, g6⟩ := hw.2 p hp
  have f5 := hw.1.2.2.2.2.2
  have e130 : (130 : Int32) * nI p = nI (130 * p) := by rw [show (130 : Int32) = nI 130 from rfl, pk_mul]
  have g7 := g6 (w 0 5) c4 (Nat.le_refl _)
  simp (disch := omega) only [e_1210, x_1210, xs, w11, f5, ↓ib_n, cl_n, e130, nI_add, g7]
  rfl
theorem oI_neg {o : Option Nat} (ho : ∀ k, o = some k → k < 2 ^ 31) : (oI o < 0) = (o = none) := by
  cases o with
  | none => simp [oI]
  | some k => simp only [oI, nl_l0 (ho k rfl)]; simp
theorem oI_nneg {o : Option Nat} (ho : ∀ k, o = some k → k < 2 ^ 31) : (0 ≤ oI o) = (o ≠ none) := by
  cases o with
  | none => simp [oI]
  | some k => simp only [oI, nl_g0 (ho k rfl)]; simp
theorem stp_lt {w : Wo} {d c s k : Nat} (hk : WOK d w) (h : stp w c s = some k) : k < 30 := by
  have := fre_lt (stp_fre h)
  have := cells_le hk
  omega
theorem cel_fre {w : Wo} {d p : Nat} (hk : WOK d w) (hp : p < w 0 3) : fre w (cel w p) = true := (hk.2.2.2.2.2.2 p hp).2.2.2.2.2.1 _ (Nat.le_refl _)
theorem m_walks (p : Nat) (h : Hp) (w : Wo) (d : Nat) (hW : MW h) (hw : MS h w) (hk : WOK d w) (hd : d ≤ 129) (hp : p < w 0 3) : call 1211 [vo (some (44, 12, 0)), vi (nI p)] h = some (some (vi (nI (sWalk w p))), h) := by
  have hW2 := hW
  obtain ⟨-, -, w8, w9, -⟩ := hW2
  have k3 := hk.2.2.2.1
  have k5 := hk.2.2.2.2.2.1
  obtain ⟨-, -, c3, -, c5, -, -⟩ := hk.2.2.2.2.2.2 p hp
  obtain ⟨-, -, g3, -, g5, -⟩ := hw.2 p hp
  have f5 := hw.1.2.2.2.2.2
  have hcel := m_cellOf p h w d hW hw hk hd hp
  have hc30 := fre_lt (cel_fre hk hp)
  have e6 : (6 : Int32) * nI p = nI (6 * p) := by rw [show (6 : Int32) = nI 6 from rfl, pk_mul]
  unfold sWalk
  by_cases h0 : w 3 p = 0
  · rw [if_pos h0]
    simp (disch := omega) only [e_1211, x_1211, xs, w8, w9, ↓ib_n, cl_n, g3, h0, nl_e0]
    rfl
  · rw [if_neg h0]
    have hm : w 0 5 % w 3 p < w 3 p := Nat.mod_lt _ (by omega)
    have g7 := g5 _ hm
    have c7 := c5 _ hm
    have hst := m_stepFrom (cel w p) (w (10 + p) (w 0 5 % w 3 p)) h w d hw hk hc30 (by omega)
    have hne : ¬ nI (w 3 p) = 0 := by rw [nl_e0 (by omega)]; exact h0
    simp (disch := omega) only [e_1211, x_1211, xs, w8, w9, ↓ib_n, cl_n, g3, f5, hne, e6, pk_rem, nI_add, g7, hcel, hst]
    cases hq : stp w (cel w p) (w (10 + p) (w 0 5 % w 3 p)) with
    | none => simp [oI]; rfl
    | some t =>
      have := stp_lt hk hq
      simp (disch := omega) only [oI, nl_g0, xs]
