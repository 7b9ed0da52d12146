/-! THE CLASS: ones of a number -/
theorem land_2 {a b c d : Nat} (hb : b < 256) (hd : d < 256) : (256 * a + b) &&& (256 * c + d) = 256 * (a &&& c) + (b &&& d) := by
  have hbd : b &&& d < 2 ^ 8 := Nat.lt_of_le_of_lt Nat.and_le_left hb
  apply Nat.eq_of_testBit_eq
  intro k
  rw [Nat.testBit_and, show 256 = 2 ^ 8 from rfl, Nat.testBit_two_pow_mul_add _ hb, Nat.testBit_two_pow_mul_add _ hd, Nat.testBit_two_pow_mul_add _ hbd]
  by_cases e : k < 8
  · rw [if_pos e, if_pos e, if_pos e, Nat.testBit_and]
  · rw [if_neg e, if_neg e, if_neg e, Nat.testBit_and]
theorem land_4 {a b c d m M : Nat} (hm : m < 256) (hM : M = 256 * (256 * (256 * m + m) + m) + m) (hb : b < 256) (hc : c < 256) (hd : d < 256) : (a * 16777216 + b * 65536 + c * 256 + d) &&& M = (a &&& m) * 16777216 + (b &&& m) * 65536 + (c &&& m) * 256 + (d &&& m) := by
  rw [show a * 16777216 + b * 65536 + c * 256 + d = 256 * (256 * (256 * a + b) + c) + d by omega, hM, land_2 hd hm, land_2 hc hm, land_2 hb hm]
  omega
def bA (b : Nat) : Nat := (b / 2) &&& 85
def bD (b : Nat) : Nat := b - bA b
def bQ (b : Nat) : Nat := (bD b &&& 51) + ((bD b / 4) &&& 51)
def bP (b : Nat) : Nat := b % 2 + b / 2 % 2 + b / 4 % 2 + b / 8 % 2 + b / 16 % 2 + b / 32 % 2 + b / 64 % 2 + b / 128 % 2
theorem bA_f {b : Nat} (hb : b < 256) : bA b ≤ b ∧ bD b < 256 ∧ bQ b < 256 ∧ bQ b / 16 ≤ 4 ∧ bQ b % 16 ≤ 4 ∧ bP b ≤ 8 := by
  have : ∀ b ∈ List.range 256, bA b ≤ b ∧ bD b < 256 ∧ bQ b < 256 ∧ bQ b / 16 ≤ 4 ∧ bQ b % 16 ≤ 4 ∧ bP b ≤ 8 := by decide +kernel
  exact this b (List.mem_range.mpr hb)
theorem bA_1 {b e : Nat} (hb : b < 256) (he : e < 2) : (b / 2 + 128 * e) &&& 85 = bA b := by
  have : ∀ b ∈ List.range 256, ∀ e ∈ List.range 2, (b / 2 + 128 * e) &&& 85 = bA b := by decide +kernel
  exact this b (List.mem_range.mpr hb) e (List.mem_range.mpr he)
theorem bA_2 {b e : Nat} (hb : b < 256) (he : e < 4) : (bD b / 4 + 64 * e) &&& 51 = (bD b / 4) &&& 51 := by
  have : ∀ b ∈ List.range 256, ∀ e ∈ List.range 4, (bD b / 4 + 64 * e) &&& 51 = (bD b / 4) &&& 51 := by decide +kernel
  exact this b (List.mem_range.mpr hb) e (List.mem_range.mpr he)
theorem bA_3 {b e : Nat} (hb : b < 256) (he : e < 5) : (bQ b + bQ b / 16 + 16 * e) &&& 15 = bP b := by
  have : ∀ b ∈ List.range 256, ∀ e ∈ List.range 5, (bQ b + bQ b / 16 + 16 * e) &&& 15 = bP b := by decide +kernel
  exact this b (List.mem_range.mpr hb) e (List.mem_range.mpr he)
theorem sw_1 {a b c d : Nat} (ha : a < 64) (hb : b < 256) (hc : c < 256) (hd : d < 256) : ((a * 16777216 + b * 65536 + c * 256 + d) / 2) &&& 1431655765 = bA a * 16777216 + bA b * 65536 + bA c * 256 + bA d := by
  rw [show (a * 16777216 + b * 65536 + c * 256 + d) / 2 = (a / 2 + 128 * 0) * 16777216 + (b / 2 + 128 * (a % 2)) * 65536 + (c / 2 + 128 * (b % 2)) * 256 + (d / 2 + 128 * (c % 2)) by omega, land_4 (m := 85) (by decide) rfl (by omega) (by omega) (by omega), bA_1 (by omega) (by omega), bA_1 (by omega) (by omega), bA_1 (by omega) (by omega), bA_1 (by omega) (by omega)]
theorem sw_2 {a b c d : Nat} (ha : a < 256) (hb : b < 256) (hc : c < 256) (hd : d < 256) : ((bD a * 16777216 + bD b * 65536 + bD c * 256 + bD d) &&& 858993459) + (((bD a * 16777216 + bD b * 65536 + bD c * 256 + bD d) / 4) &&& 858993459) = bQ a * 16777216 + bQ b * 65536 + bQ c * 256 + bQ d := by
  have da := (bA_f ha).2.1
  have db := (bA_f hb).2.1
  have dc := (bA_f hc).2.1
  have dd := (bA_f hd).2.1
  have e1 : (bD a * 16777216 + bD b * 65536 + bD c * 256 + bD d) &&& 858993459 = (bD a &&& 51) * 16777216 + (bD b &&& 51) * 65536 + (bD c &&& 51) * 256 + (bD d &&& 51) := land_4 (m := 51) (by decide) rfl db dc dd
  have e2 : ((bD a * 16777216 + bD b * 65536 + bD c * 256 + bD d) / 4) &&& 858993459 = (bD a / 4 &&& 51) * 16777216 + (bD b / 4 &&& 51) * 65536 + (bD c / 4 &&& 51) * 256 + (bD d / 4 &&& 51) := by
    rw [show (bD a * 16777216 + bD b * 65536 + bD c * 256 + bD d) / 4 = (bD a / 4 + 64 * 0) * 16777216 + (bD b / 4 + 64 * (bD a % 4)) * 65536 + (bD c / 4 + 64 * (bD b % 4)) * 256 + (bD d / 4 + 64 * (bD c % 4)) by omega, land_4 (m := 51) (by decide) rfl (by omega) (by omega) (by omega), bA_2 ha (by omega), bA_2 hb (by omega), bA_2 hc (by omega), bA_2 hd (by omega)]
  rw [e1, e2]
  unfold bQ
  omega
theorem sw_3 {a b c d : Nat} (ha : a < 256) (hb : b < 256) (hc : c < 256) (hd : d < 256) : ((bQ a * 16777216 + bQ b * 65536 + bQ c * 256 + bQ d) + (bQ a * 16777216 + bQ b * 65536 + bQ c * 256 + bQ d) / 16) &&& 252645135 = bP a * 16777216 + bP b * 65536 + bP c * 256 + bP d := by
  obtain ⟨-, -, qa, qa1, qa2, -⟩ := bA_f ha
  obtain ⟨-, -, qb, qb1, qb2, -⟩ := bA_f hb
  obtain ⟨-, -, qc, qc1, qc2, -⟩ := bA_f hc
  obtain ⟨-, -, qd, qd1, qd2, -⟩ := bA_f hd
  rw [show (bQ a * 16777216 + bQ b * 65536 + bQ c * 256 + bQ d) + (bQ a * 16777216 + bQ b * 65536 + bQ c * 256 + bQ d) / 16 = (bQ a + bQ a / 16 + 16 * 0) * 16777216 + (bQ b + bQ b / 16 + 16 * (bQ a % 16)) * 65536 + (bQ c + bQ c / 16 + 16 * (bQ b % 16)) * 256 + (bQ d + bQ d / 16 + 16 * (bQ c % 16)) by omega, land_4 (m := 15) (by decide) rfl (by omega) (by omega) (by omega), bA_3 ha (by omega), bA_3 hb (by omega), bA_3 hc (by omega), bA_3 hd (by omega)]
theorem us_c {n c : Nat} (h : n < 2 ^ 31) (hc : c < 32) : ((nI n).toUInt32 >>> ((nI c).toUInt32 &&& Int32.toUInt32 31)).toInt32 = nI (n / 2 ^ c) := nl_ushr h hc
theorem us_1 {n : Nat} (h : n < 2 ^ 31) : ((nI n).toUInt32 >>> ((1 : Int32).toUInt32 &&& Int32.toUInt32 31)).toInt32 = nI (n / 2) := us_c (c := 1) h (by decide)
theorem us_2 {n : Nat} (h : n < 2 ^ 31) : ((nI n).toUInt32 >>> ((2 : Int32).toUInt32 &&& Int32.toUInt32 31)).toInt32 = nI (n / 4) := us_c (c := 2) h (by decide)
theorem us_4 {n : Nat} (h : n < 2 ^ 31) : ((nI n).toUInt32 >>> ((4 : Int32).toUInt32 &&& Int32.toUInt32 31)).toInt32 = nI (n / 16) := us_c (c := 4) h (by decide)
theorem us_8 {n : Nat} (h : n < 2 ^ 31) : ((nI n).toUInt32 >>> ((8 : Int32).toUInt32 &&& Int32.toUInt32 31)).toInt32 = nI (n / 256) := us_c (c := 8) h (by decide)
theorem us_16 {n : Nat} (h : n < 2 ^ 31) : ((nI n).toUInt32 >>> ((16 : Int32).toUInt32 &&& Int32.toUInt32 31)).toInt32 = nI (n / 65536) := us_c (c := 16) h (by decide)
theorem pop_u (x : Nat) : pop x = x / 1 % 2 + x / 2 % 2 + x / 4 % 2 + x / 8 % 2 + x / 16 % 2 + x / 32 % 2 + x / 64 % 2 + x / 128 % 2 + x / 256 % 2 + x / 512 % 2 + x / 1024 % 2 + x / 2048 % 2 + x / 4096 % 2 + x / 8192 % 2 + x / 16384 % 2 + x / 32768 % 2 + x / 65536 % 2 + x / 131072 % 2 + x / 262144 % 2 + x / 524288 % 2 + x / 1048576 % 2 + x / 2097152 % 2 + x / 4194304 % 2 + x / 8388608 % 2 + x / 16777216 % 2 + x / 33554432 % 2 + x / 67108864 % 2 + x / 134217728 % 2 + x / 268435456 % 2 + x / 536870912 % 2 := by
  show pcF x 30 0 0 = _
  simp only [pcF, Nat.zero_add, Nat.reduceAdd, Nat.reducePow]
theorem mb_0 (y : Nat) : y % 256 / 1 % 2 = y / 1 % 2 := by omega
theorem mb_1 (y : Nat) : y % 256 / 2 % 2 = y / 2 % 2 := by omega
theorem mb_2 (y : Nat) : y % 256 / 4 % 2 = y / 4 % 2 := by omega
theorem mb_3 (y : Nat) : y % 256 / 8 % 2 = y / 8 % 2 := by omega
theorem mb_4 (y : Nat) : y % 256 / 16 % 2 = y / 16 % 2 := by omega
theorem mb_5 (y : Nat) : y % 256 / 32 % 2 = y / 32 % 2 := by omega
theorem mb_6 (y : Nat) : y % 256 / 64 % 2 = y / 64 % 2 := by omega
theorem mb_7 (y : Nat) : y % 256 / 128 % 2 = y / 128 % 2 := by omega
theorem bP_m (y : Nat) : bP (y % 256) = y / 1 % 2 + y / 2 % 2 + y / 4 % 2 + y / 8 % 2 + y / 16 % 2 + y / 32 % 2 + y / 64 % 2 + y / 128 % 2 := by
  unfold bP
  rw [mb_1, mb_2, mb_3, mb_4, mb_5, mb_6, mb_7, Nat.div_one, show y % 256 % 2 = y % 2 by omega]
theorem pop_b {x : Nat} (hx : x < 2 ^ 30) : pop x = bP (x / 16777216) + bP (x / 65536 % 256) + bP (x / 256 % 256) + bP (x % 256) := by
  have hy : x / 16777216 < 64 := by omega
  have hz : x / 16777216 % 256 = x / 16777216 := Nat.mod_eq_of_lt (by omega)
  have q3 := bP_m (x / 16777216)
  rw [hz] at q3
  rw [pop_u, q3, bP_m, bP_m, bP_m]
  have e8 : x / 256 % 2 = x / 256 / 1 % 2 := (congrArg (· % 2) (Nat.div_div_eq_div_mul x 256 1)).symm
  have e9 : x / 512 % 2 = x / 256 / 2 % 2 := (congrArg (· % 2) (Nat.div_div_eq_div_mul x 256 2)).symm
  have e10 : x / 1024 % 2 = x / 256 / 4 % 2 := (congrArg (· % 2) (Nat.div_div_eq_div_mul x 256 4)).symm
  have e11 : x / 2048 % 2 = x / 256 / 8 % 2 := (congrArg (· % 2) (Nat.div_div_eq_div_mul x 256 8)).symm
  have e12 : x / 4096 % 2 = x / 256 / 16 % 2 := (congrArg (· % 2) (Nat.div_div_eq_div_mul x 256 16)).symm
  have e13 : x / 8192 % 2 = x / 256 / 32 % 2 := (congrArg (· % 2) (Nat.div_div_eq_div_mul x 256 32)).symm
  have e14 : x / 16384 % 2 = x / 256 / 64 % 2 := (congrArg (· % 2) (Nat.div_div_eq_div_mul x 256 64)).symm
  have e15 : x / 32768 % 2 = x / 256 / 128 % 2 := (congrArg (· % 2) (Nat.div_div_eq_div_mul x 256 128)).symm
  have e16 : x / 65536 % 2 = x / 65536 / 1 % 2 := (congrArg (· % 2) (Nat.div_div_eq_div_mul x 65536 1)).symm
  have e17 : x / 131072 % 2 = x / 65536 / 2 % 2 := (congrArg (· % 2) (Nat.div_div_eq_div_mul x 65536 2)).symm
  have e18 : x / 262144 % 2 = x / 65536 / 4 % 2 := (congrArg (· % 2) (Nat.div_div_eq_div_mul x 65536 4)).symm
  have e19 : x / 524288 % 2 = x / 65536 / 8 % 2 := (congrArg (· % 2) (Nat.div_div_eq_div_mul x 65536 8)).symm
  have e20 : x / 1048576 % 2 = x / 65536 / 16 % 2 := (congrArg (· % 2) (Nat.div_div_eq_div_mul x 65536 16)).symm
  have e21 : x / 2097152 % 2 = x / 65536 / 32 % 2 := (congrArg (· % 2) (Nat.div_div_eq_div_mul x 65536 32)).symm
  have e22 : x / 4194304 % 2 = x / 65536 / 64 % 2 := (congrArg (· % 2) (Nat.div_div_eq_div_mul x 65536 64)).symm
  have e23 : x / 8388608 % 2 = x / 65536 / 128 % 2 := (congrArg (· % 2) (Nat.div_div_eq_div_mul x 65536 128)).symm
  have e24 : x / 16777216 % 2 = x / 16777216 / 1 % 2 := (congrArg (· % 2) (Nat.div_div_eq_div_mul x 16777216 1)).symm
  have e25 : x / 33554432 % 2 = x / 16777216 / 2 % 2 := (congrArg (· % 2) (Nat.div_div_eq_div_mul x 16777216 2)).symm
  have e26 : x / 67108864 % 2 = x / 16777216 / 4 % 2 := (congrArg (· % 2) (Nat.div_div_eq_div_mul x 16777216 4)).symm
  have e27 : x / 134217728 % 2 = x / 16777216 / 8 % 2 := (congrArg (· % 2) (Nat.div_div_eq_div_mul x 16777216 8)).symm
  have e28 : x / 268435456 % 2 = x / 16777216 / 16 % 2 := (congrArg (· % 2) (Nat.div_div_eq_div_mul x 16777216 16)).symm
  have e29 : x / 536870912 % 2 = x / 16777216 / 32 % 2 := (congrArg (· % 2) (Nat.div_div_eq_div_mul x 16777216 32)).symm
  rw [e8, e9, e10, e11, e12, e13, e14, e15, e16, e17, e18, e19, e20, e21, e22, e23, e24, e25, e26, e27, e28, e29]
  have z6 : x / 16777216 / 64 = 0 := Nat.div_eq_of_lt hy
  have z7 : x / 16777216 / 128 = 0 := Nat.div_eq_of_lt (by omega)
  rw [z6, z7]
  clear z6 z7 q3 hz hy hx e8 e9 e10 e11 e12 e13 e14 e15 e16 e17 e18 e19 e20 e21 e22 e23 e24 e25 e26 e27 e28 e29
  generalize x / 16777216 = y3
  generalize x / 65536 = y2
  generalize x / 256 = y1
  simp only [Nat.zero_mod, Nat.add_zero]
  ac_rfl
theorem sw_4 {a b c d k : Nat} (hk : k < 256) (ha : a ≤ k) (hb : b < 256) (hc : c < 256) (hd : d < 256) : a * 16777216 + b * 65536 + c * 256 + d < (k + 1) * 16777216 := by omega
theorem sw_6 {a b c d : Nat} (ha : a ≤ 8) (hb : b ≤ 8) (hc : c ≤ 8) (hd : d ≤ 8) : (a * 16777216 + b * 65536 + c * 256 + d) / 256 = a * 65536 + b * 256 + c := by omega
theorem sw_7 {a b c d : Nat} (ha : a ≤ 8) (hb : b ≤ 8) (hc : c ≤ 8) (hd : d ≤ 8) : (a * 16777216 + b * 65536 + c * 256 + d + (a * 65536 + b * 256 + c)) / 65536 = a * 256 + a + b := by
  rw [show a * 16777216 + b * 65536 + c * 256 + d + (a * 65536 + b * 256 + c) = (b + c) * 256 + (c + d) + 65536 * (a * 256 + a + b) - b * 0 by omega, Nat.mul_zero, Nat.sub_zero, Nat.add_mul_div_left _ _ (by decide), Nat.div_eq_of_lt (by omega), Nat.zero_add]
theorem c_bits_g {h : Hp} {x A B C V3 r : Nat} (hx : x < 2 ^ 30) (hA : A ≤ x) (hV : B + C < 2 ^ 30) (h3 : V3 < 2 ^ 30) (k1 : nI (x / 2) &&& 1431655765 = nI A) (k2 : nI (x - A) &&& 858993459 = nI B) (k3 : nI ((x - A) / 4) &&& 858993459 = nI C) (k4 : nI (B + C + (B + C) / 16) &&& 252645135 = nI V3) (k5 : nI (V3 + V3 / 256 + (V3 + V3 / 256) / 65536) &&& 63 = nI r) : call 1300 [vi (nI x)] h = some (some (vi (nI r)), h) := by
  simp (disch := omega) only [e_1300, x_1300, xs, us_1, us_2, us_4, us_8, us_16, pk_sub, nI_add, k1, k2, k3, k4, k5]
theorem sw_5 {a b c d : Nat} (ha : a ≤ 8) (hb : b ≤ 8) (hc : c ≤ 8) (hd : d ≤ 8) : (a * 16777216 + b * 65536 + c * 256 + d + (a * 16777216 + b * 65536 + c * 256 + d) / 256 + (a * 16777216 + b * 65536 + c * 256 + d + (a * 16777216 + b * 65536 + c * 256 + d) / 256) / 65536) &&& 63 = a + b + c + d := by
  have m63 : ∀ y, y &&& 63 = y % 64 := fun y => Nat.and_two_pow_sub_one_eq_mod y 6
  rw [m63]
  rw [sw_6 ha hb hc hd, sw_7 ha hb hc hd]
  have e : a * 16777216 + b * 65536 + c * 256 + d + (a * 65536 + b * 256 + c) + (a * 256 + a + b) = 64 * (262144 * a + 1024 * b + 4 * c + 1024 * a + 4 * b + 4 * a) + (a + b + c + d) := by omega
  rw [e, Nat.mul_add_mod, Nat.mod_eq_of_lt (by omega)]
theorem c_bits {h : Hp} {x : Nat} (hx : x < 2 ^ 30) : call 1300 [vi (nI x)] h = some (some (vi (nI (pop x))), h) := by
  rw [pop_b hx]
  have ha : x / 16777216 < 64 := by omega
  have hb : x / 65536 % 256 < 256 := by omega
  have hc : x / 256 % 256 < 256 := by omega
  have hd : x % 256 < 256 := by omega
  have hxe : x = x / 16777216 * 16777216 + x / 65536 % 256 * 65536 + x / 256 % 256 * 256 + x % 256 := by omega
  generalize x / 16777216 = a at *
  generalize x / 65536 % 256 = b at *
  generalize x / 256 % 256 = c at *
  generalize x % 256 = d at *
  have ha2 : a < 256 := by omega
  obtain ⟨a1, a2, a3, -, -, a4⟩ := bA_f ha2
  obtain ⟨b1, b2, b3, -, -, b4⟩ := bA_f hb
  obtain ⟨c1, c2, c3, -, -, c4⟩ := bA_f hc
  obtain ⟨d1, d2, d3, -, -, d4⟩ := bA_f hd
  have t1 : x - (bA a * 16777216 + bA b * 65536 + bA c * 256 + bA d) = bD a * 16777216 + bD b * 65536 + bD c * 256 + bD d := by
    have q : ∀ y, bD y = y - bA y := fun y => rfl
    rw [q, q, q, q]
    omega
  have aD : bD a ≤ a := Nat.sub_le _ _
  have l1 : bA a * 16777216 + bA b * 65536 + bA c * 256 + bA d ≤ x := by omega
  have vD : bD a * 16777216 + bD b * 65536 + bD c * 256 + bD d < 2 ^ 30 := by omega
  have s1 := sw_1 ha hb hc hd
  have s2 := sw_2 ha2 hb hc hd
  have s3 := sw_3 ha2 hb hc hd
  rw [← hxe] at s1
  have aQ : bQ a < 52 := by
    have : ∀ b ∈ List.range 64, bQ b < 52 := by decide +kernel
    exact this a (List.mem_range.mpr ha)
  have vQ : bQ a * 16777216 + bQ b * 65536 + bQ c * 256 + bQ d < 2 ^ 30 := Nat.lt_of_lt_of_le (sw_4 (k := 51) (by decide) (by omega) b3 c3 d3) (by decide)
  have vP : bP a * 16777216 + bP b * 65536 + bP c * 256 + bP d < 2 ^ 28 := Nat.lt_of_lt_of_le (sw_4 (k := 8) (by decide) a4 (by omega) (by omega) (by omega)) (by decide)
  have s5 := sw_5 a4 b4 c4 d4
  clear hxe
  obtain ⟨V1, hV1⟩ : ∃ v, v = bD a * 16777216 + bD b * 65536 + bD c * 256 + bD d := ⟨_, rfl⟩
  rw [← hV1] at t1 vD s2
  obtain ⟨V2, hV2⟩ : ∃ v, v = bQ a * 16777216 + bQ b * 65536 + bQ c * 256 + bQ d := ⟨_, rfl⟩
  rw [← hV2] at s2 vQ s3
  obtain ⟨V3, hV3⟩ : ∃ v, v = bP a * 16777216 + bP b * 65536 + bP c * 256 + bP d := ⟨_, rfl⟩
  rw [← hV3] at s3 vP s5
  obtain ⟨A, hA⟩ : ∃ v, v = bA a * 16777216 + bA b * 65536 + bA c * 256 + bA d := ⟨_, rfl⟩
  rw [← hA] at s1 t1 l1
  clear hV1 hV2 hV3 hA a1 b1 c1 d1 a2 b2 c2 d2 a3 b3 c3 d3
  have nd : ∀ (n m : Nat), n < 2 ^ 31 → m < 2 ^ 31 → nI n &&& nI m = nI (n &&& m) := fun n m p q => nl_and p q
  refine c_bits_g (A := A) (B := V1 &&& 858993459) (C := V1 / 4 &&& 858993459) (V3 := V3) hx l1 (by rw [s2]; exact vQ) (by omega) ?_ ?_ ?_ ?_ ?_
  · exact (nd _ 1431655765 (by omega) (by decide)).trans (by rw [s1])
  · rw [t1]; exact nd V1 858993459 (by omega) (by decide)
  · rw [t1]; exact nd (V1 / 4) 858993459 (by omega) (by decide)
  · rw [s2]; exact (nd _ 252645135 (by omega) (by decide)).trans (by rw [s3])
  · exact (nd _ 63 (by omega) (by decide)).trans (by rw [s5])
