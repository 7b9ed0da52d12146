/-! THE REFERENCE: reading letters -/
/-- the letters l, n of them; the place p; is it bad -/
def RS (h : Hp) (n : Nat) (l : Nat → Nat) (p : Nat) (b : Bool) : Prop := n ≤ 80 ∧ p ≤ n ∧ hI h 44 21 = nI n ∧ (∀ i, i < n → hI h 54 i = nI (l i) ∧ l i ≤ 255) ∧ hI h 44 22 = nI p ∧ hI h 44 23 = bI b
def hr (n : Nat) (l : Nat → Nat) (p : Nat) : Option Nat := if p < n then some (l p) else none
theorem m_here {h : Hp} {n p : Nat} {l : Nat → Nat} {b : Bool} (hW : MW h) (R : RS h n l p b) : call 1224 [vo (some (44, 12, 0))] h = some (some (vi (oI (hr n l p))), h) := by
  obtain ⟨r1, r2, r3, r4, r5, r6⟩ := R
  have w20 : hR h 44 20 = some (54, 13, 80) := hW.2.2.2.2.2.2.2.2.2.1
  unfold hr
  by_cases e : p < n
  · rw [if_pos e]
    have e2 : ¬ n ≤ p := by omega
    have e3 := (r4 p e).1
    simp (disch := omega) only [e_1224, x_1224, xs, r3, r5, nl_le, e2, w20, ↓ib_n, cl_n, e3]
    rfl
  · rw [if_neg e]
    have e2 : n ≤ p := by omega
    simp (disch := omega) only [e_1224, x_1224, xs, r3, r5, nl_le, eq_true e2]
    rfl
theorem RS_k {h h2 : Hp} {n p p2 : Nat} {l : Nat → Nat} {b b2 : Bool} (R : RS h n l p b) (e1 : hI h2 44 21 = hI h 44 21) (e2 : ∀ i, hI h2 54 i = hI h 54 i) (e3 : hI h2 44 22 = nI p2) (e4 : hI h2 44 23 = bI b2) (hp : p2 ≤ n) : RS h2 n l p2 b2 := by
  obtain ⟨r1, r2, r3, r4, r5, r6⟩ := R
  exact ⟨r1, hp, e1.trans r3, fun i hi => by rw [e2]; exact r4 i hi, e3, e4⟩
def isG (o : Option Nat) : Bool := match o with
  | none => false
  | some c => decide (c = 46) || decide (c = 35)
def isD (o : Option Nat) : Bool := match o with
  | none => false
  | some c => decide (48 ≤ c) && decide (c ≤ 57)
theorem hr_lt {h : Hp} {n p : Nat} {l : Nat → Nat} {b : Bool} (R : RS h n l p b) {c : Nat} (e : hr n l p = some c) : c ≤ 255 ∧ p < n ∧ c = l p := by
  unfold hr at e
  split at e
  · rename_i z; cases e; exact ⟨(R.2.2.2.1 p z).2, z, rfl⟩
  · cases e
theorem oI_e {o : Option Nat} {k : Nat} (ho : ∀ c, o = some c → c ≤ 255) (hk : k < 256) : (oI o = nI k) = (o = some k) := by
  cases o with
  | none =>
    simp only [oI_n, eq_iff_iff]
    constructor
    · intro z
      have h1 := nI_pos' (n := k) (by omega)
      rw [← z] at h1
      exact absurd h1 (by decide)
    · intro z; cases z
  | some c =>
    have := ho c rfl
    rw [oI_s, nl_eq (by omega) (by omega)]
    simp
theorem m_isGround {h : Hp} {n p : Nat} {l : Nat → Nat} {b : Bool} (hW : MW h) (R : RS h n l p b) : call 1227 [vo (some (44, 12, 0))] h = some (some (vi (bI (isG (hr n l p)))), h) := by
  have hh := m_here hW R
  have ho : ∀ c, hr n l p = some c → c ≤ 255 := fun c e => (hr_lt R e).1
  have e1 : (oI (hr n l p) = 46) = (hr n l p = some 46) := oI_e ho (by decide)
  have e2 : (oI (hr n l p) = 35) = (hr n l p = some 35) := oI_e ho (by decide)
  simp (disch := omega) only [e_1227, x_1227, xs, hh, e1, e2]
  cases hq : hr n l p with
  | none => simp [isG, bI]
  | some c =>
    by_cases z1 : c = 46
    · simp [isG, bI, z1]
    · by_cases z2 : c = 35
      · simp [isG, bI, z2]
      · simp [isG, bI, z1, z2]
def stL (c : Nat) : Option Nat := if c = 110 then some 0 else if c = 101 then some 1 else if c = 115 then some 2 else if c = 119 then some 3 else if c = 45 then some 4 else none
def stO (o : Option Nat) : Option Nat := match o with
  | none => none
  | some c => stL c
theorem m_stepOfLetter (o : Option Nat) (h : Hp) (ho : ∀ c, o = some c → c ≤ 255) : call 1226 [vi (oI o)] h = some (some (vi (oI (stO o))), h) := by
  have e1 : (oI o = 110) = (o = some 110) := oI_e ho (by decide)
  have e2 : (oI o = 101) = (o = some 101) := oI_e ho (by decide)
  have e3 : (oI o = 115) = (o = some 115) := oI_e ho (by decide)
  have e4 : (oI o = 119) = (o = some 119) := oI_e ho (by decide)
  have e5 : (oI o = 45) = (o = some 45) := oI_e ho (by decide)
  simp (disch := omega) only [e_1226, x_1226, xs, e1, e2, e3, e4, e5]
  cases o with
  | none => simp [stO, oI]
  | some c =>
    simp only [Option.some.injEq, stO, stL]
    repeat' split
    all_goals rfl
theorem m_in89o (o : Option Nat) (h : Hp) (ho : ∀ c, o = some c → c ≤ 255) : call 1201 [vl (oI o).toInt64, vl 48, vl 57] h = some (some (vi (bI (isD o))), h) := by
  rw [m_in89]
  cases o with
  | none =>
    have : ¬ (48 ≤ oI none ∧ oI none ≤ 57) := by decide
    simp [this, isD]
  | some c =>
    have := ho c rfl
    have e1 : ((48 : Int32) ≤ nI c) = (48 ≤ c) := nl_le (a := 48) (by decide) (by omega)
    have e2 : (nI c ≤ (57 : Int32)) = (c ≤ 57) := nl_le (b := 57) (by omega) (by decide)
    simp only [oI_s, e1, e2, isD, Bool.decide_and]
