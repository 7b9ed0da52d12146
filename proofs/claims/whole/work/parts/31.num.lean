/-! NUMBERS -/
theorem lits : (0 : Int32) = nI 0 ∧ (1 : Int32) = nI 1 ∧ (2 : Int32) = nI 2 ∧ (3 : Int32) = nI 3 ∧ (4 : Int32) = nI 4 ∧ (5 : Int32) = nI 5 ∧ (6 : Int32) = nI 6 ∧ (7 : Int32) = nI 7 ∧ (8 : Int32) = nI 8 ∧ (9 : Int32) = nI 9 ∧ (10 : Int32) = nI 10 ∧ (11 : Int32) = nI 11 ∧ (12 : Int32) = nI 12 ∧ (16 : Int32) = nI 16 ∧ (20 : Int32) = nI 20 ∧ (28 : Int32) = nI 28 ∧ (29 : Int32) = nI 29 ∧ (30 : Int32) = nI 30 ∧ (31 : Int32) = nI 31 ∧ (60 : Int32) = nI 60 ∧ (80 : Int32) = nI 80 ∧ (99 : Int32) = nI 99 ∧ (120 : Int32) = nI 120 ∧ (121 : Int32) = nI 121 ∧ (130 : Int32) = nI 130 ∧ (255 : Int32) = nI 255 ∧ (650 : Int32) = nI 650 ∧ (900 : Int32) = nI 900 := by
  refine ⟨rfl, rfl, rfl, rfl, rfl, rfl, rfl, rfl, rfl, rfl, rfl, rfl, rfl, rfl, rfl, rfl, rfl, rfl, rfl, rfl, rfl, rfl, rfl, rfl, rfl, rfl, rfl, rfl⟩
/-- an index that is in -/
theorem ib_n {k n : Nat} (h : k < n) (hn : n < 2 ^ 31) : (nI k < 0 ∨ n ≤ (nI k).toNatClampNeg) = False := by
  simp only [eq_iff_iff, iff_false]
  exact nI_in h hn
theorem ib_m {k n : Nat} (h : k < n) (hn : n < 2 ^ 31) : (nI k < nI 0 ∨ n ≤ (nI k).toNatClampNeg) = False := ib_n h hn
theorem cl_n {k : Nat} (h : k < 2 ^ 31) : (nI k).toNatClampNeg = k := nI_clamp h
theorem nl_lt {a b : Nat} (ha : a < 2 ^ 31) (hb : b < 2 ^ 31) : (nI a < nI b) = (a < b) := propext (nI_ltI ha hb)
theorem nl_le {a b : Nat} (ha : a < 2 ^ 31) (hb : b < 2 ^ 31) : (nI a ≤ nI b) = (a ≤ b) := propext (nI_leI ha hb)
theorem nl_eq {a b : Nat} (ha : a < 2 ^ 31) (hb : b < 2 ^ 31) : (nI a = nI b) = (a = b) := propext (nI_eq ha hb)
theorem nl_rem {a d : Nat} (ha : a < 2 ^ 31) (h0 : 0 < d) (hd : d < 2 ^ 31) : nI a - nI (a / d) * nI d = nI (a % d) := by
  rw [← pk_div ha h0 hd]
  exact pk_rem ha h0 hd
/-- bits -/
theorem nl_shr {n c : Nat} (h : n < 2 ^ 31) (hc : c < 32) : nI n >>> (nI c &&& 31) = nI (n / 2 ^ c) := by
  refine pk_shrN h _ c ?_
  have key : ∀ c, c < 32 → ((nI c &&& 31).toBitVec.smod 32).toNat = c := by decide +kernel
  exact key c hc
theorem nl_shl {c : Nat} (hc : c < 31) : nI 1 <<< (nI c &&& 31) = nI (2 ^ c) := by
  have key : ∀ c, c < 31 → nI 1 <<< (nI c &&& 31) = nI (2 ^ c) := by decide +kernel
  exact key c hc
theorem nl_and1 {n : Nat} (h : n < 2 ^ 31) : nI n &&& nI 1 = nI (n % 2) := pk_andN (by omega) 1 rfl
theorem nl_a1 {n : Nat} (h : n < 2 ^ 31) : nI n &&& 1 = nI (n % 2) := nl_and1 h
theorem nl_s1 {c : Nat} (hc : c < 31) : (1 : Int32) <<< (nI c &&& 31) = nI (2 ^ c) := nl_shl hc
theorem nl_e0 {a : Nat} (ha : a < 2 ^ 31) : (nI a = 0) = (a = 0) := nl_eq ha (by decide)
theorem nl_l0 {a : Nat} (ha : a < 2 ^ 31) : (nI a < 0) = False := by simp only [eq_iff_iff, iff_false]; exact nI_pos ha
theorem nl_g0 {a : Nat} (ha : a < 2 ^ 31) : (0 ≤ nI a) = True := by simp only [eq_iff_iff, iff_true]; exact nI_pos' ha
def bI (b : Bool) : Int32 := if b = true then 1 else 0
theorem bI_0 {b : Bool} : (bI b = 0) = (b = false) := by cases b <;> simp [bI]
theorem bI_d {b : Bool} : am_isd (bI b) = true := by cases b <;> rfl
theorem bI_if {p : Prop} [Decidable p] : (if p then (1 : Int32) else 0) = bI (decide p) := by by_cases h : p <;> simp [bI, h]
theorem nl_tn {n : Nat} (h : n < 2 ^ 32) : (nI n).toBitVec.toNat = n := pk_tn h
theorem nl_bits {a b : Int32} (h : a.toBitVec.toNat = b.toBitVec.toNat) : a = b := Int32.toBitVec_inj.mp (BitVec.eq_of_toNat_eq h)
theorem nl_or {a b : Nat} (ha : a < 2 ^ 31) (hb : b < 2 ^ 31) : nI a ||| nI b = nI (a ||| b) := by
  have hab : a ||| b < 2 ^ 31 := Nat.or_lt_two_pow ha hb
  apply nl_bits
  rw [Int32.toBitVec_or, BitVec.toNat_or, nl_tn (by omega), nl_tn (by omega), nl_tn (by omega)]
theorem nl_and {a b : Nat} (ha : a < 2 ^ 31) (hb : b < 2 ^ 31) : nI a &&& nI b = nI (a &&& b) := by
  have hab : a &&& b < 2 ^ 31 := Nat.and_lt_two_pow a hb
  apply nl_bits
  rw [Int32.toBitVec_and, BitVec.toNat_and, nl_tn (by omega), nl_tn (by omega), nl_tn (by omega)]
theorem nl_xor {a b : Nat} (ha : a < 2 ^ 31) (hb : b < 2 ^ 31) : nI a ^^^ nI b = nI (a ^^^ b) := by
  have hab : a ^^^ b < 2 ^ 31 := Nat.xor_lt_two_pow ha hb
  apply nl_bits
  rw [Int32.toBitVec_xor, BitVec.toNat_xor, nl_tn (by omega), nl_tn (by omega), nl_tn (by omega)]
/-- a and not b -/
def andn (a b : Nat) : Nat := a ^^^ (a &&& b)
theorem andn_t (a b k : Nat) : (andn a b).testBit k = (a.testBit k && !b.testBit k) := by
  simp only [andn, Nat.testBit_xor, Nat.testBit_and]
  cases a.testBit k <;> cases b.testBit k <;> rfl
theorem andn_lt {a b n : Nat} (ha : a < 2 ^ n) : andn a b < 2 ^ n := Nat.xor_lt_two_pow ha (Nat.lt_of_le_of_lt Nat.and_le_left ha)
theorem nl_andn {a b : Nat} (ha : a < 2 ^ 31) (hb : b < 2 ^ 31) : nI a &&& (nI b ^^^ -1) = nI (andn a b) := by
  have e : ∀ x y : BitVec 32, x &&& (y ^^^ BitVec.ofInt 32 (-1)) = x ^^^ (x &&& y) := by
    intro x y
    apply BitVec.eq_of_getLsbD_eq
    intro i hi
    have h1 : (BitVec.ofInt 32 (-1)).getLsbD i = true := by
      have : BitVec.ofInt 32 (-1) = BitVec.allOnes 32 := by decide
      rw [this, BitVec.getLsbD_allOnes]
      simp [hi]
    simp only [BitVec.getLsbD_and, BitVec.getLsbD_xor, h1]
    cases x.getLsbD i <;> cases y.getLsbD i <;> rfl
  have e2 : nI a &&& (nI b ^^^ -1) = nI a ^^^ (nI a &&& nI b) := by
    apply Int32.toBitVec_inj.mp
    rw [Int32.toBitVec_and, Int32.toBitVec_xor, Int32.toBitVec_xor, Int32.toBitVec_and]
    exact e _ _
  rw [e2, nl_and ha hb, nl_xor ha (Nat.and_lt_two_pow a hb)]
  rfl
theorem nl_div2 (n c : Nat) : (n / 2 ^ c % 2 = 0) = (n.testBit c = false) := by
  rw [Nat.testBit_eq_decide_div_mod_eq]
  simp only [decide_eq_false_iff_not, eq_iff_iff]
  omega
theorem i64_le {a b : Int32} : (a.toInt64 ≤ b.toInt64) = (a ≤ b) := by
  rw [eq_iff_iff, Int64.le_iff_toInt_le, Int32.le_iff_toInt_le, Int32.toInt_toInt64, Int32.toInt_toInt64]
theorem i64_lt {a b : Int32} : (a.toInt64 < b.toInt64) = (a < b) := by
  rw [eq_iff_iff, Int64.lt_iff_toInt_lt, Int32.lt_iff_toInt_lt, Int32.toInt_toInt64, Int32.toInt_toInt64]
theorem cmp_lt {x y : Int64} : (lg_cmp x y < 0) = (x < y) := by
  unfold lg_cmp
  split
  · rename_i h
    simp only [eq_iff_iff]
    constructor
    · intro z; exact absurd z (by decide)
    · intro z; rw [gt_iff_lt, Int64.lt_iff_toInt_lt] at h; rw [Int64.lt_iff_toInt_lt] at z; omega
  · split
    · rename_i h1 h
      subst h
      simp only [eq_iff_iff]
      constructor
      · intro z; exact absurd z (by decide)
      · intro z; exact absurd z h1
    · rename_i h1 h2
      simp only [eq_iff_iff]
      constructor
      · intro z
        rw [gt_iff_lt, Int64.lt_iff_toInt_lt] at h1
        rw [← Int64.toInt_inj] at h2
        rw [Int64.lt_iff_toInt_lt]
        omega
      · intro _; decide
theorem cmp_gt {x y : Int64} : (0 < lg_cmp x y) = (y < x) := by
  unfold lg_cmp
  split
  · rename_i h
    simp only [eq_iff_iff]
    exact ⟨fun _ => h, fun _ => by decide⟩
  · rename_i h1
    simp only [eq_iff_iff]
    constructor
    · intro z
      split at z
      · exact absurd z (by decide)
      · exact absurd z (by decide)
    · intro z; exact absurd z h1
