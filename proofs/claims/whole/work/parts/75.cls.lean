/-! THE CLASS: its ground -/
/-- only numbers at S change -/
def ck (S : Nat → Nat → Prop) (h h2 : Hp) : Prop := h2.1 = h.1 ∧ (∀ i j, hR h2 i j = hR h i j) ∧ ∀ i j, ¬ S i j → hI h2 i j = hI h i j
theorem ck_r (S : Nat → Nat → Prop) (h : Hp) : ck S h h := ⟨rfl, fun _ _ => rfl, fun _ _ _ => rfl⟩
theorem ck_t {S : Nat → Nat → Prop} {h h2 h3 : Hp} (a : ck S h h2) (b : ck S h2 h3) : ck S h h3 := ⟨b.1.trans a.1, fun i j => (b.2.1 i j).trans (a.2.1 i j), fun i j n => (b.2.2 i j n).trans (a.2.2 i j n)⟩
theorem ck_m {S T : Nat → Nat → Prop} {h h2 : Hp} (a : ck S h h2) (st : ∀ i j, S i j → T i j) : ck T h h2 := ⟨a.1, a.2.1, fun i j n => a.2.2 i j (fun z => n (st i j z))⟩
theorem ck_I {S : Nat → Nat → Prop} {h : Hp} {a k : Nat} {v : Int32} (s : S a k) : ck S h (hsI h a k v) := ⟨rfl, fun _ _ => rfl, fun i j n => hI_n (fun z => n (by rw [z.1, z.2]; exact s))⟩
def nxV (w : Wo) (c s : Nat) : Int32 := if fre w c = true then oN (stp w c s) else -9
def arF (w : Wo) (c : Nat) : Nat → Nat → Nat → Nat
  | 0, _, a => a
  | n + 1, s, a => arF w c n (s + 1) (match stp w c s with | none => a | some t => a ||| 2 ^ t)
def arB (w : Wo) (c : Nat) : Nat := if fre w c = true then arF w c 5 0 0 else 0
/-- the moor mo is the ground of w -/
def CM (h : Hp) (mo : Nat) (w : Wo) : Prop := (hR h mo 4 = some (mo + 1, 13, 30) ∧ hR h mo 5 = some (mo + 2, 13, 30) ∧ hR h mo 6 = some (mo + 3, 13, 150) ∧ hR h mo 7 = some (mo + 4, 13, 30) ∧ hR h mo 8 = some (mo + 5, 13, 30)) ∧ (hI h mo 0 = nI (w 0 0) ∧ hI h mo 1 = nI (w 0 1) ∧ hI h mo 2 = nI (w 0 0 * w 0 1) ∧ hI h mo 3 = nI (frB w)) ∧ ∀ c, c < w 0 0 * w 0 1 → hI h (mo + 1) c = nI (c / w 0 1) ∧ hI h (mo + 2) c = nI (c % w 0 1) ∧ hI h (mo + 4) c = nI (arB w c) ∧ ∀ s, s < 5 → hI h (mo + 3) (5 * c + s) = nxV w c s
theorem CM_k {S : Nat → Nat → Prop} {h h2 : Hp} {mo : Nat} {w : Wo} (a : ck S h h2) (n : ∀ i j, mo ≤ i → i ≤ mo + 4 → ¬ S i j) (c : CM h mo w) : CM h2 mo w := by
  obtain ⟨⟨r1, r2, r3, r4, r5⟩, ⟨f0, f1, f2, f3⟩, g⟩ := c
  have e : ∀ i j, mo ≤ i → i ≤ mo + 4 → hI h2 i j = hI h i j := fun i j x y => a.2.2 i j (n i j x y)
  refine ⟨⟨(a.2.1 _ _).trans r1, (a.2.1 _ _).trans r2, (a.2.1 _ _).trans r3, (a.2.1 _ _).trans r4, (a.2.1 _ _).trans r5⟩, ⟨(e _ _ (by omega) (by omega)).trans f0, (e _ _ (by omega) (by omega)).trans f1, (e _ _ (by omega) (by omega)).trans f2, (e _ _ (by omega) (by omega)).trans f3⟩, fun c hc => ?_⟩
  obtain ⟨g1, g2, g3, g4⟩ := g c hc
  exact ⟨(e _ _ (by omega) (by omega)).trans g1, (e _ _ (by omega) (by omega)).trans g2, (e _ _ (by omega) (by omega)).trans g3, fun s hs => (e _ _ (by omega) (by omega)).trans (g4 s hs)⟩
/-- the ground alone counts -/
theorem CM_w {h : Hp} {mo : Nat} {w v : Wo} (e0 : v 0 0 = w 0 0) (e1 : v 0 1 = w 0 1) (e2 : v 0 2 = w 0 2) (c : CM h mo w) : CM h mo v := by
  have f : ∀ c, fre v c = fre w c := fun c => by unfold fre; rw [e0, e1, e2]
  have s : ∀ c s, stp v c s = stp w c s := fun c s => by unfold stp; simp only [e0, e1, f]
  have b : frB v = frB w := by unfold frB; rw [e0, e1, e2]
  have n : ∀ c s, nxV v c s = nxV w c s := fun c t => by unfold nxV; rw [f, s]
  have a0 : ∀ c n t a, arF v c n t a = arF w c n t a := by
    intro c n
    induction n with
    | zero => intro t a; rfl
    | succ n ih => intro t a; unfold arF; rw [ih, s]
  have a : ∀ c, arB v c = arB w c := fun c => by unfold arB; rw [f, a0]
  unfold CM
  rw [e0, e1, b]
  simp only [n, a]
  exact c
theorem c_isCell {h : Hp} {mo c d : Nat} {w : Wo} (hk : WOK d w) (g : CM h mo w) (hc : c < 2 ^ 31) : call 503 [vo (some (mo, 5, 0)), vi (nI c)] h = some (some (vi (bI (decide (c < w 0 0 * w 0 1)))), h) := by
  have f2 := g.2.1.2.2.1
  have hh := cells_le hk
  by_cases e : c < w 0 0 * w 0 1
  · have e2 : ¬ w 0 0 * w 0 1 ≤ c := by omega
    simp (disch := omega) only [e_503, x_503, xs, ↓reduceIte, nl_l0, f2, nl_le, e2, decide_eq_true e]
    rfl
  · have e2 : w 0 0 * w 0 1 ≤ c := by omega
    simp (disch := omega) only [e_503, x_503, xs, ↓reduceIte, nl_l0, f2, nl_le, eq_true e2, decide_eq_false e]
    rfl
theorem nl_ushr {n c : Nat} (h : n < 2 ^ 31) (hc : c < 32) : ((nI n).toUInt32 >>> ((nI c).toUInt32 &&& Int32.toUInt32 31)).toInt32 = nI (n / 2 ^ c) := by
  have key : ∀ c, c < 32 → (nI c).toUInt32 &&& Int32.toUInt32 31 = UInt32.ofNat c := by decide +kernel
  rw [key c hc]
  apply nl_bits
  have hd : n / 2 ^ c < 2 ^ 32 := Nat.lt_of_le_of_lt (Nat.div_le_self _ _) (by omega)
  rw [nl_tn hd]
  show ((nI n).toUInt32 >>> UInt32.ofNat c).toNat = _
  have e1 : (nI n).toUInt32.toNat = n := nl_tn (by omega)
  have e2 : (UInt32.ofNat c).toNat = c := by rw [UInt32.toNat_ofNat']; omega
  rw [UInt32.toNat_shiftRight, e1, e2, Nat.mod_eq_of_lt hc, Nat.shiftRight_eq_div_pow]
theorem nl_bit {n c : Nat} (h : n < 2 ^ 31) (hc : c < 32) : ((((nI n).toUInt32 >>> ((nI c).toUInt32 &&& Int32.toUInt32 31)).toInt32 &&& 1) = 1) = (n.testBit c = true) := by
  have hd : n / 2 ^ c < 2 ^ 31 := Nat.lt_of_le_of_lt (Nat.div_le_self _ _) h
  rw [nl_ushr h hc, nl_a1 hd, show (1 : Int32) = nI 1 from rfl, nl_eq (by omega) (by decide), nl_div1]
theorem frB_t {w : Wo} {c : Nat} : (frB w).testBit c = fre w c := by
  unfold frB fre
  rw [andn_t, Nat.testBit_two_pow_sub_one]
theorem c_isFree {h : Hp} {mo d : Nat} {w : Wo} (x : Int32) (hk : WOK d w) (g : CM h mo w) : call 504 [vo (some (mo, 5, 0)), vi x] h = some (some (vi (bI (freI w x))), h) := by
  obtain ⟨-, -, f2, f3⟩ := g.2.1
  have hh := cells_le hk
  by_cases h0 : x < 0
  · have e : freI w x = false := by
      cases z : freI w x with
      | false => rfl
      | true =>
        obtain ⟨k, rfl, -, hk3⟩ := freI_of hk z
        rw [nl_l0 (by omega)] at h0
        exact absurd h0 (by simp)
    simp (disch := omega) only [e_504, x_504, xs, ↓reduceIte, eq_true h0, e]
    rfl
  · obtain ⟨k, hk3, rfl⟩ := nI_of h0
    rw [freI_n hk hk3]
    by_cases e : k < w 0 0 * w 0 1
    · have e2 : ¬ w 0 0 * w 0 1 ≤ k := by omega
      have hb := frB_lt hk
      cases z : fre w k with
      | true =>
        simp (disch := omega) only [e_504, x_504, xs, ↓reduceIte, nl_l0, f2, f3, nl_le, e2, nl_bit, frB_t, z]
        rfl
      | false =>
        simp (disch := omega) only [e_504, x_504, xs, ↓reduceIte, nl_l0, f2, f3, nl_le, e2, nl_bit, frB_t, z, Bool.false_eq_true]
        rfl
    · have e2 : w 0 0 * w 0 1 ≤ k := by omega
      have z : fre w k = false := by unfold fre; rw [decide_eq_false e]; rfl
      simp (disch := omega) only [e_504, x_504, xs, ↓reduceIte, nl_l0, f2, nl_le, eq_true e2, z]
      rfl
theorem c_free {h : Hp} {mo d c : Nat} {w : Wo} (hk : WOK d w) (g : CM h mo w) (hc : c < 2 ^ 31) : call 504 [vo (some (mo, 5, 0)), vi (nI c)] h = some (some (vi (bI (fre w c))), h) := by rw [c_isFree _ hk g, freI_n hk hc]
theorem c_leads {h : Hp} {mo d c s : Nat} {w : Wo} (hk : WOK d w) (g : CM h mo w) (hc : c < w 0 0 * w 0 1) (hs : s < 5) : call 506 [vo (some (mo, 5, 0)), vi (nI c), vi (nI s)] h = some (some (vi (nxV w c s)), h) := by
  have hh := cells_le hk
  have h1 := c_isCell (c := c) hk g (by omega)
  have w3 := g.1.2.2.1
  have g4 := (g.2.2 c hc).2.2.2 s hs
  have e5 : (nI s < (5 : Int32)) = True := by rw [show (5 : Int32) = nI 5 from rfl, nl_lt (by omega) (by omega)]; exact eq_true hs
  have s5 : (5 : Int32) = nI 5 := rfl
  have e6 : nI c * (5 : Int32) + nI s = nI (5 * c + s) := by rw [s5, pk_mul, nI_add, Nat.mul_comm]
  simp (disch := omega) only [e_506, x_506, xs, ↓reduceIte, h1, decide_eq_true hc, bI_t, i10, nl_l0, e5, w3, e6, ↓ib_n, cl_n, g4]
theorem c_leads' {h : Hp} {mo d c s : Nat} {w : Wo} (hk : WOK d w) (g : CM h mo w) (hc : fre w c = true) (hs : s < 5) : call 506 [vo (some (mo, 5, 0)), vi (nI c), vi (nI s)] h = some (some (vi (oN (stp w c s))), h) := by
  rw [c_leads hk g (fre_lt hc) hs]
  unfold nxV
  rw [if_pos hc]
theorem c_around {h : Hp} {mo d c : Nat} {w : Wo} (hk : WOK d w) (g : CM h mo w) (hc : c < w 0 0 * w 0 1) : call 507 [vo (some (mo, 5, 0)), vi (nI c)] h = some (some (vi (nI (arB w c))), h) := by
  have hh := cells_le hk
  have h1 := c_isCell (c := c) hk g (by omega)
  have w3 := g.1.2.2.2.1
  have g4 := (g.2.2 c hc).2.2.1
  simp (disch := omega) only [e_507, x_507, xs, ↓reduceIte, h1, decide_eq_true hc, bI_t, i10, w3, ↓ib_n, cl_n, g4]
theorem abs_c {a b : Nat} (ha : a < 30) (hb : b < 30) : (if 0 ≤ nI a - nI b then nI a - nI b else 0 - (nI a - nI b)) = nI (dif a b) := by
  have : ∀ a ∈ List.range 30, ∀ b ∈ List.range 30, (if 0 ≤ nI a - nI b then nI a - nI b else 0 - (nI a - nI b)) = nI (dif a b) := by decide +kernel
  exact this a (List.mem_range.mpr ha) b (List.mem_range.mpr hb)
theorem c_dist {h : Hp} {mo d a b : Nat} {w : Wo} (hk : WOK d w) (g : CM h mo w) (ha : a < w 0 0 * w 0 1) (hb : b < w 0 0 * w 0 1) : call 508 [vo (some (mo, 5, 0)), vi (nI a), vi (nI b)] h = some (some (vi (nI (way w a b))), h) := by
  have hh := cells_le hk
  have h1 := c_isCell (c := a) hk g (by omega)
  have h2 := c_isCell (c := b) hk g (by omega)
  have w1 := g.1.1
  have w2 := g.1.2.1
  obtain ⟨a1, a2, -⟩ := g.2.2 a ha
  obtain ⟨b1, b2, -⟩ := g.2.2 b hb
  have q1 : a / w 0 1 < 30 := Nat.lt_of_le_of_lt (Nat.div_le_self _ _) (by omega)
  have q2 : b / w 0 1 < 30 := Nat.lt_of_le_of_lt (Nat.div_le_self _ _) (by omega)
  have q3 : a % w 0 1 < 30 := Nat.lt_of_le_of_lt (Nat.mod_le _ _) (by omega)
  have q4 : b % w 0 1 < 30 := Nat.lt_of_le_of_lt (Nat.mod_le _ _) (by omega)
  unfold way
  simp (disch := omega) only [e_508, x_508, xs, h1, h2, decide_eq_true ha, decide_eq_true hb, bI_t, i10, w1, w2, ↓ib_n, cl_n, a1, a2, b1, b2, abs_c q1 q2, abs_c q3 q4, nI_add]
theorem on_c {a b d n : Nat} (ha : a < 6) (hb : b < 6) (hd : d < 4) (hn : n < 7) (hn2 : 0 < n) : (if 0 < (if nI n - 1 < nI b + nI d * (nI b - nI a) then nI n - 1 else nI b + nI d * (nI b - nI a)) then (if nI n - 1 < nI b + nI d * (nI b - nI a) then nI n - 1 else nI b + nI d * (nI b - nI a)) else 0) = nI (onw a b d n) := by
  have : ∀ a ∈ List.range 6, ∀ b ∈ List.range 6, ∀ d ∈ List.range 4, ∀ n ∈ List.range 7, 0 < n → (if 0 < (if nI n - 1 < nI b + nI d * (nI b - nI a) then nI n - 1 else nI b + nI d * (nI b - nI a)) then (if nI n - 1 < nI b + nI d * (nI b - nI a) then nI n - 1 else nI b + nI d * (nI b - nI a)) else 0) = nI (onw a b d n) := by decide +kernel
  exact this a (List.mem_range.mpr ha) b (List.mem_range.mpr hb) d (List.mem_range.mpr hd) n (List.mem_range.mpr hn) hn2
theorem c_going {h : Hp} {mo d a b t : Nat} {w : Wo} (hk : WOK d w) (g : CM h mo w) (ha : a < w 0 0 * w 0 1) (hb : b < w 0 0 * w 0 1) (ht : t < 4) : call 509 [vo (some (mo, 5, 0)), vi (nI a), vi (nI b), vi (nI t)] h = some (some (vi (nI (onw (a / w 0 1) (b / w 0 1) t (w 0 0) * w 0 1 + onw (a % w 0 1) (b % w 0 1) t (w 0 1)))), h) := by
  have hh := cells_le hk
  have h1 := c_isCell (c := a) hk g (by omega)
  have h2 := c_isCell (c := b) hk g (by omega)
  have w1 := g.1.1
  have w2 := g.1.2.1
  obtain ⟨f0, f1, -⟩ := g.2.1
  obtain ⟨a1, a2, -⟩ := g.2.2 a ha
  obtain ⟨b1, b2, -⟩ := g.2.2 b hb
  obtain ⟨⟨k1, k2⟩, ⟨k3, k4⟩, -⟩ := hk
  have q1 : a / w 0 1 < w 0 0 := Nat.div_lt_of_lt_mul (by rw [Nat.mul_comm]; exact ha)
  have q2 : b / w 0 1 < w 0 0 := Nat.div_lt_of_lt_mul (by rw [Nat.mul_comm]; exact hb)
  have q3 : a % w 0 1 < w 0 1 := Nat.mod_lt _ (by omega)
  have q4 : b % w 0 1 < w 0 1 := Nat.mod_lt _ (by omega)
  have o1 := on_c (a := a / w 0 1) (b := b / w 0 1) (d := t) (n := w 0 0) (by omega) (by omega) ht (by omega) (by omega)
  have o2 := on_c (a := a % w 0 1) (b := b % w 0 1) (d := t) (n := w 0 1) (by omega) (by omega) ht (by omega) (by omega)
  simp (disch := omega) only [e_509, x_509, xs, h1, h2, decide_eq_true ha, decide_eq_true hb, bI_t, i10, w1, w2, ↓ib_n, cl_n, a1, a2, b1, b2, f0, f1, o1, o2, pk_mul, nI_add]
