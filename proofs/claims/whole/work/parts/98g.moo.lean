/-! THE CLASS: a new moor, made -/
theorem n_row_i {h : Hp} {mo d r : Nat} {w : Wo} (hk : WOK d w) (g : CN h mo w) (hr : r < w 0 0) (l1 l2 : Option AV) (x3 : Int32) : ∀ (n c : Nat) (hh : Hp), c + n = w 0 1 → ck (fun i _ => i = mo + 1 ∨ i = mo + 2) h hh → (∀ k, k < r * w 0 1 + c → hI hh (mo + 1) k = nI (k / w 0 1) ∧ hI hh (mo + 2) k = nI (k % w 0 1)) → ∃ h2, run 2 500 125 [some (vo (some (mo, 5, 0))), l1, l2, some (vi x3), some (vi (nI r)), some (vi (nI c))] [] hh = run 2 500 113 [some (vo (some (mo, 5, 0))), l1, l2, some (vi x3), some (vi (nI (r + 1))), some (vi (nI (w 0 1)))] [] h2 ∧ ck (fun i _ => i = mo + 1 ∨ i = mo + 2) h h2 ∧ ∀ k, k < (r + 1) * w 0 1 → hI h2 (mo + 1) k = nI (k / w 0 1) ∧ hI h2 (mo + 2) k = nI (k % w 0 1) := by
  have cc := cells_le hk
  obtain ⟨⟨k1, k2⟩, ⟨k3, k4⟩, -⟩ := id hk
  have rm : (r + 1) * w 0 1 ≤ w 0 0 * w 0 1 := Nat.mul_le_mul_right _ hr
  rw [Nat.add_mul, Nat.one_mul] at rm
  intro n
  induction n with
  | zero =>
    intro c hh hc K U
    obtain rfl : c = w 0 1 := by omega
    have f1 := (CN_k (ck_m K (fun i j z => by unfold nS; omega)) g).2.2.1
    refine ⟨hh, ?_, K, fun k hk => U k (by rw [Nat.add_mul, Nat.one_mul] at hk; exact hk)⟩
    rw [x_500_125]
    simp (disch := omega) only [x_500, xs, ↓reduceIte, f1, nl_le, Nat.le_refl, nl_inc]
  | succ n ih =>
    intro c hh hc K U
    have e : ¬ w 0 1 ≤ c := by omega
    obtain ⟨⟨r4, r5, -⟩, -, f1, -⟩ := CN_k (ck_m K (fun i j z => by unfold nS; omega)) g
    have e1 : (r * w 0 1 + c) / w 0 1 = r := by rw [Nat.mul_comm, Nat.mul_add_div (by omega), Nat.div_eq_of_lt (by omega), Nat.add_zero]
    have e2 : (r * w 0 1 + c) % w 0 1 = c := by rw [Nat.mul_comm, Nat.mul_add_mod, Nat.mod_eq_of_lt (by omega)]
    have f1' : hI (hsI hh (mo + 1) (r * w 0 1 + c) (nI r)) mo 1 = nI (w 0 1) := by rw [hI_n (by omega)]; exact f1
    obtain ⟨h2, x1, x2, x3⟩ := ih (c + 1) (hsI (hsI hh (mo + 1) (r * w 0 1 + c) (nI r)) (mo + 2) (r * w 0 1 + c) (nI c)) (by omega) (ck_t K (ck_t (ck_I (Or.inl rfl)) (ck_I (Or.inr rfl)))) (fun k hk => by
      by_cases ek : k = r * w 0 1 + c
      · rw [ek, hI_n (by omega), hI_e, hI_e, e1, e2]; exact ⟨rfl, rfl⟩
      · rw [hI_n (by omega), hI_n (by omega), hI_n (by omega), hI_n (by omega)]; exact U k (by omega))
    refine ⟨h2, ?_, x2, x3⟩
    rw [x_500_125, ← x1]
    simp (disch := omega) only [x_500, xs, ↓reduceIte, hR_s, f1, f1', nl_le, e, r4, r5, pk_mul, nI_add, ↓ib_n, cl_n, nl_inc]
theorem n_rows {h : Hp} {mo d : Nat} {w : Wo} (hk : WOK d w) (g : CN h mo w) (l1 l2 : Option AV) (x3 : Int32) : ∀ (n r : Nat) (hh : Hp) (l5 : Option AV), r + n = w 0 0 → ck (fun i _ => i = mo + 1 ∨ i = mo + 2) h hh → (∀ k, k < r * w 0 1 → hI hh (mo + 1) k = nI (k / w 0 1) ∧ hI hh (mo + 2) k = nI (k % w 0 1)) → ∃ (h2 : Hp) (l6 : Option AV), run 2 500 113 [some (vo (some (mo, 5, 0))), l1, l2, some (vi x3), some (vi (nI r)), l5] [] hh = run 2 500 183 [some (vo (some (mo, 5, 0))), l1, l2, some (vi x3), some (vi (nI 0)), l6] [] h2 ∧ ck (fun i _ => i = mo + 1 ∨ i = mo + 2) h h2 ∧ ∀ k, k < w 0 0 * w 0 1 → hI h2 (mo + 1) k = nI (k / w 0 1) ∧ hI h2 (mo + 2) k = nI (k % w 0 1) := by
  obtain ⟨⟨k1, k2⟩, ⟨k3, k4⟩, -⟩ := id hk
  intro n
  induction n with
  | zero =>
    intro r hh l5 hr K U
    obtain rfl : r = w 0 0 := by omega
    have f0 := (CN_k (ck_m K (fun i j z => by unfold nS; omega)) g).2.1
    refine ⟨hh, l5, ?_, K, U⟩
    rw [x_500_113]
    simp (disch := omega) only [x_500, xs, ↓reduceIte, f0, nl_le, Nat.le_refl]
    rfl
  | succ n ih =>
    intro r hh l5 hr K U
    have e : ¬ w 0 0 ≤ r := by omega
    have f0 := (CN_k (ck_m K (fun i j z => by unfold nS; omega)) g).2.1
    obtain ⟨h1, s1, s2, s3⟩ := n_row_i hk g (by omega : r < w 0 0) l1 l2 x3 (w 0 1) 0 hh (by omega) K U
    obtain ⟨h2, l6, x1, x2⟩ := ih (r + 1) h1 (some (vi (nI (w 0 1)))) (by omega) s2 s3
    refine ⟨h2, l6, ?_, x2⟩
    rw [x_500_113, ← x1, ← s1]
    simp (disch := omega) only [x_500, xs, ↓reduceIte, f0, nl_le, e]
    exact rfl
theorem n_cells {h : Hp} {mo d : Nat} {w : Wo} (hk : WOK d w) (g : CN h mo w) (v1 : ∀ k, k < w 0 0 * w 0 1 → hI h (mo + 1) k = nI (k / w 0 1) ∧ hI h (mo + 2) k = nI (k % w 0 1)) (v3 : ∀ j, j < 150 → hI h (mo + 3) j = -9) (v4 : ∀ j, hI h (mo + 4) j = nI 0) (l1 l2 l5 : Option AV) (x3 : Int32) : ∀ (n c : Nat) (hh : Hp), c + n = w 0 0 * w 0 1 → ck (fun i _ => i = mo + 3 ∨ i = mo + 4) h hh → (∀ k, k < c → hI hh (mo + 4) k = nI (arB w k) ∧ ∀ s, s < 5 → hI hh (mo + 3) (5 * k + s) = nxV w k s) → (∀ k, c ≤ k → hI hh (mo + 4) k = nI 0) → (∀ j, 5 * c ≤ j → j < 150 → hI hh (mo + 3) j = -9) → ∃ h2, run 2 500 183 [some (vo (some (mo, 5, 0))), l1, l2, some (vi x3), some (vi (nI c)), l5] [] hh = some (none, h2) ∧ ck (fun i _ => i = mo + 3 ∨ i = mo + 4) h h2 ∧ ∀ k, k < w 0 0 * w 0 1 → hI h2 (mo + 4) k = nI (arB w k) ∧ ∀ s, s < 5 → hI h2 (mo + 3) (5 * k + s) = nxV w k s := by
  have cc := cells_le hk
  intro n
  induction n with
  | zero =>
    intro c hh hc K U V W
    obtain rfl : c = w 0 0 * w 0 1 := by omega
    have f2 := (CN_k (ck_m K (fun i j z => by unfold nS; omega)) g).2.2.2.1
    refine ⟨hh, ?_, K, U⟩
    rw [x_500_183]
    simp (disch := omega) only [x_500, xs, ↓reduceIte, f2, nl_le, Nat.le_refl]
  | succ n ih =>
    intro c hh hc K U V W
    have e : ¬ w 0 0 * w 0 1 ≤ c := by omega
    have g2 := CN_k (ck_m K (fun i j z => by unfold nS; omega)) g
    have f2 := g2.2.2.2.1
    obtain ⟨h1, s1, s2, s3, s4⟩ := n_lay hk g2 (c := c) (by omega) ((K.2.2 _ _ (by omega)).trans (v1 c (by omega)).1) ((K.2.2 _ _ (by omega)).trans (v1 c (by omega)).2) (fun s hs => W _ (by omega) (by omega)) (V c (by omega))
    obtain ⟨h2, x1, x2⟩ := ih (c + 1) h1 (by omega) (ck_t K (ck_m s2 (fun i j z => by omega))) (fun k hk => by
      by_cases ek : k = c
      · subst ek; exact ⟨s3, s4⟩
      · obtain ⟨y1, y2⟩ := U k (by omega)
        exact ⟨(s2.2.2 _ _ (by omega)).trans y1, fun s hs => (s2.2.2 _ _ (by omega)).trans (y2 s hs)⟩) (fun k hk => (s2.2.2 _ _ (by omega)).trans (V k (by omega))) (fun j a b => (s2.2.2 _ _ (by omega)).trans (W j (by omega) b))
    refine ⟨h2, ?_, x2⟩
    rw [x_500_183, ← x1]
    simp (disch := omega) only [x_500, xs, ↓reduceIte, f2, nl_le, e, s1, nl_inc]
theorem h1_s (h : Hp) (a k : Nat) (v : Int32) : (hsI h a k v).1 = h.1 := rfl
theorem h1_r (h : Hp) (a k : Nat) (v : Option Rf) : (hsR h a k v).1 = h.1 := rfl
theorem h1_m (h : Hp) (k : Nat) : (hmk h k).1 = (h.1.1 + 1, h.1.2 + k) := rfl
theorem hI_r (h : Hp) (a k : Nat) (v : Option Rf) (i j : Nat) : hI (hsR h a k v) i j = hI h i j := rfl
/-- the heap when the fields stand -/
def nH (h : Hp) (mo : Nat) (w : Wo) : Hp := hsI (hsI (hsI (hsI h mo 0 (nI (w 0 0))) mo 1 (nI (w 0 1))) mo 2 (nI (w 0 0 * w 0 1))) mo 3 (nI (frB w))
def nA (h : Hp) (mo k n : Nat) : Hp := hsR (hmk h n) mo (3 + k) (some (mo + k, 13, n))
theorem nA_f {h : Hp} {mo k n : Nat} (hm : h.1.1 = mo + k) (hk : 1 ≤ k) : (nA h mo k n).1 = (mo + k + 1, h.1.2 + n) ∧ (∀ i j, i < mo + k → hI (nA h mo k n) i j = hI h i j) ∧ (∀ j, hI (nA h mo k n) (mo + k) j = 0) ∧ (∀ i j, i < mo + k → ¬ (i = mo ∧ j = 3 + k) → hR (nA h mo k n) i j = hR h i j) ∧ hR (nA h mo k n) mo (3 + k) = some (mo + k, 13, n) := by
  refine ⟨?_, fun i j hi => ?_, fun j => ?_, fun i j hi nn => ?_, ?_⟩
  · show (h.1.1 + 1, h.1.2 + n) = _; rw [hm]
  · show hI (hmk h n) i j = _; rw [hI_hmk, if_neg (by omega)]
  · show hI (hmk h n) (mo + k) j = _; rw [hI_hmk, if_pos hm.symm]
  · show hR (hsR (hmk h n) mo (3 + k) _) i j = _
    rw [hR_hsR, if_neg nn, hR_hmk, if_neg (by omega)]
  · show hR (hsR (hmk h n) mo (3 + k) _) mo (3 + k) = _
    rw [hR_hsR, if_pos ⟨rfl, rfl⟩]
theorem nl_andn' {a b : Nat} (ha : a < 2 ^ 31) (hb : b < 2 ^ 31) : (nI b ^^^ -1) &&& nI a = nI (andn a b) := by rw [Int32.and_comm]; exact nl_andn ha hb
theorem n_arr1 {H : Hp} {mo : Nat} (hm : H.1.1 = mo + 1) (l1 l2 l3 l4 l5 : Option AV) : run 2 500 60 [some (vo (some (mo, 5, 0))), l1, l2, l3, l4, l5] [] H = run 2 500 68 [some (vo (some (mo, 5, 0))), l1, l2, l3, l4, l5] [] (nA H mo 1 30) := by
  show _ = run 2 500 68 [some (vo (some (mo, 5, 0))), l1, l2, l3, l4, l5] [] (hsR (hmk H 30) mo 4 (some (mo + 1, 13, 30)))
  have cnd : ((30 : Int32) < 0 ∨ 100000 ≤ (30 : Int32).toNatClampNeg) = False := by simp only [eq_iff_iff, iff_false]; decide
  have cl : (30 : Int32).toNatClampNeg = 30 := rfl
  generalize hX : run 2 500 68 _ _ _ = X
  simp (disch := omega) only [x_500, xs, ↓reduceIte, ↓cnd, cl, hm, ↓hX]
theorem n_arr2 {H : Hp} {mo : Nat} (hm : H.1.1 = mo + 2) (l1 l2 l3 l4 l5 : Option AV) : run 2 500 68 [some (vo (some (mo, 5, 0))), l1, l2, l3, l4, l5] [] H = run 2 500 76 [some (vo (some (mo, 5, 0))), l1, l2, l3, l4, l5] [] (nA H mo 2 30) := by
  show _ = run 2 500 76 [some (vo (some (mo, 5, 0))), l1, l2, l3, l4, l5] [] (hsR (hmk H 30) mo 5 (some (mo + 2, 13, 30)))
  have cnd : ((30 : Int32) < 0 ∨ 100000 ≤ (30 : Int32).toNatClampNeg) = False := by simp only [eq_iff_iff, iff_false]; decide
  have cl : (30 : Int32).toNatClampNeg = 30 := rfl
  generalize hX : run 2 500 76 _ _ _ = X
  simp (disch := omega) only [x_500, xs, ↓reduceIte, ↓cnd, cl, hm, ↓hX]
theorem n_arr3 {H : Hp} {mo : Nat} (hm : H.1.1 = mo + 3) (l1 l2 l3 l4 l5 : Option AV) : run 2 500 76 [some (vo (some (mo, 5, 0))), l1, l2, l3, l4, l5] [] H = run 2 500 85 [some (vo (some (mo, 5, 0))), l1, l2, l3, l4, l5] [] (nA H mo 3 150) := by
  show _ = run 2 500 85 [some (vo (some (mo, 5, 0))), l1, l2, l3, l4, l5] [] (hsR (hmk H 150) mo 6 (some (mo + 3, 13, 150)))
  have cnd : ((150 : Int32) < 0 ∨ 100000 ≤ (150 : Int32).toNatClampNeg) = False := by simp only [eq_iff_iff, iff_false]; decide
  have cl : (150 : Int32).toNatClampNeg = 150 := rfl
  generalize hX : run 2 500 85 _ _ _ = X
  simp (disch := omega) only [x_500, xs, ↓reduceIte, ↓cnd, cl, hm, ↓hX]
theorem n_arr4 {H : Hp} {mo : Nat} (hm : H.1.1 = mo + 4) (l1 l2 l3 l4 l5 : Option AV) : run 2 500 85 [some (vo (some (mo, 5, 0))), l1, l2, l3, l4, l5] [] H = run 2 500 93 [some (vo (some (mo, 5, 0))), l1, l2, l3, l4, l5] [] (nA H mo 4 30) := by
  show _ = run 2 500 93 [some (vo (some (mo, 5, 0))), l1, l2, l3, l4, l5] [] (hsR (hmk H 30) mo 7 (some (mo + 4, 13, 30)))
  have cnd : ((30 : Int32) < 0 ∨ 100000 ≤ (30 : Int32).toNatClampNeg) = False := by simp only [eq_iff_iff, iff_false]; decide
  have cl : (30 : Int32).toNatClampNeg = 30 := rfl
  generalize hX : run 2 500 93 _ _ _ = X
  simp (disch := omega) only [x_500, xs, ↓reduceIte, ↓cnd, cl, hm, ↓hX]
theorem n_arr5 {H : Hp} {mo : Nat} (hm : H.1.1 = mo + 5) (l1 l2 l3 l4 l5 : Option AV) : run 2 500 93 [some (vo (some (mo, 5, 0))), l1, l2, l3, l4, l5] [] H = run 2 500 101 [some (vo (some (mo, 5, 0))), l1, l2, l3, l4, l5] [] (nA H mo 5 30) := by
  show _ = run 2 500 101 [some (vo (some (mo, 5, 0))), l1, l2, l3, l4, l5] [] (hsR (hmk H 30) mo 8 (some (mo + 5, 13, 30)))
  have cnd : ((30 : Int32) < 0 ∨ 100000 ≤ (30 : Int32).toNatClampNeg) = False := by simp only [eq_iff_iff, iff_false]; decide
  have cl : (30 : Int32).toNatClampNeg = 30 := rfl
  generalize hX : run 2 500 101 _ _ _ = X
  simp (disch := omega) only [x_500, xs, ↓reduceIte, ↓cnd, cl, hm, ↓hX]
/-- the moor mo, made: all below it stays -/
theorem n_new {h : Hp} {mo : Nat} {w : Wo} (hm : h.1.1 = mo + 1) (hk : WOK 60 w) : ∃ h2, call 500 [vo (some (mo, 5, 0)), vi (nI (w 0 0)), vi (nI (w 0 1)), vi (nI (w 0 2))] h = some (none, h2) ∧ CM h2 mo w ∧ h2.1 = (mo + 6, h.1.2 + 270) ∧ ∀ i j, i < mo → hI h2 i j = hI h i j ∧ hR h2 i j = hR h i j := by
  have cc := cells_le hk
  have hl := hills_lt hk
  obtain ⟨⟨k1, k2⟩, ⟨k3, k4⟩, kh, -⟩ := id hk
  have fl := frB_lt hk
  have m5 : (if (5 : Int32) < nI (w 0 0) then 5 else nI (w 0 0)) = nI (w 0 0) := if_neg (by rw [show (5 : Int32) = nI 5 from rfl, nl_lt (by decide) (by omega)]; omega)
  have m6 : (if (6 : Int32) < nI (w 0 1) then 6 else nI (w 0 1)) = nI (w 0 1) := if_neg (by rw [show (6 : Int32) = nI 6 from rfl, nl_lt (by decide) (by omega)]; omega)
  have x0 : ∀ x, x < 100 → 0 < x → (if (0 : Int32) < nI x then nI x else 0) = nI x := fun x hx h0 => if_pos (by rw [show (0 : Int32) = nI 0 from rfl, nl_lt (by decide) (by omega)]; omega)
  have p1 : 2 ^ (w 0 0 * w 0 1) ≤ 2 ^ 30 := Nat.pow_le_pow_right (by decide) cc.2
  have p2 := Nat.two_pow_pos (w 0 0 * w 0 1)
  have ps : nI (2 ^ (w 0 0 * w 0 1)) - 1 = nI (2 ^ (w 0 0 * w 0 1) - 1) := by rw [show (1 : Int32) = nI 1 from rfl, pk_sub (by omega)]
  have fe : (nI (w 0 2) ^^^ -1) &&& nI (2 ^ (w 0 0 * w 0 1) - 1) = nI (frB w) := nl_andn' (by omega) (by omega)
  -- the heaps
  have b0 : (nH h mo w).1.1 = mo + 1 := hm
  obtain ⟨c1, c1i, c1z, c1r, c1e⟩ := nA_f (n := 30) b0 (by omega)
  obtain ⟨c2, c2i, c2z, c2r, c2e⟩ := nA_f (h := nA (nH h mo w) mo 1 30) (mo := mo) (k := 2) (n := 30) (by rw [c1]) (by omega)
  obtain ⟨c3, c3i, c3z, c3r, c3e⟩ := nA_f (h := nA (nA (nH h mo w) mo 1 30) mo 2 30) (mo := mo) (k := 3) (n := 150) (by rw [c2]) (by omega)
  obtain ⟨c4, c4i, c4z, c4r, c4e⟩ := nA_f (h := nA (nA (nA (nH h mo w) mo 1 30) mo 2 30) mo 3 150) (mo := mo) (k := 4) (n := 30) (by rw [c3]) (by omega)
  obtain ⟨c5, c5i, c5z, c5r, c5e⟩ := nA_f (h := nA (nA (nA (nA (nH h mo w) mo 1 30) mo 2 30) mo 3 150) mo 4 30) (mo := mo) (k := 5) (n := 30) (by rw [c4]) (by omega)
  have s1 : call 500 [vo (some (mo, 5, 0)), vi (nI (w 0 0)), vi (nI (w 0 1)), vi (nI (w 0 2))] h = run 2 500 60 [some (vo (some (mo, 5, 0))), some (vi (nI (w 0 0))), some (vi (nI (w 0 1))), some (vi (nI (w 0 2))), none, none] [] (nH h mo w) := by
    unfold nH
    have v0 : hI (hsI (hsI h mo 0 (nI (w 0 0))) mo 1 (nI (w 0 1))) mo 0 = nI (w 0 0) := by rw [hI_n (by omega), hI_e]
    generalize hX : run 2 500 60 _ _ _ = X
    simp (disch := omega) only [e_500, x_500, xs, m5, m6, x0, v0, hI_e, pk_mul, nl_s1, ps, fe, ↓hX]
  rw [s1, n_arr1 b0, n_arr2 (by rw [c1]), n_arr3 (by rw [c2]), n_arr4 (by rw [c3]), n_arr5 (by rw [c4])]
  generalize hB : nA (nA (nA (nA (nA (nH h mo w) mo 1 30) mo 2 30) mo 3 150) mo 4 30) mo 5 30 = B at *
  have wire : CN B mo w := by
    refine ⟨⟨?_, ?_, ?_, ?_, c5e⟩, ?_, ?_, ?_, ?_⟩
    · rw [c5r _ _ (by omega) (by omega), c4r _ _ (by omega) (by omega), c3r _ _ (by omega) (by omega), c2r _ _ (by omega) (by omega)]; exact c1e
    · rw [c5r _ _ (by omega) (by omega), c4r _ _ (by omega) (by omega), c3r _ _ (by omega) (by omega)]; exact c2e
    · rw [c5r _ _ (by omega) (by omega), c4r _ _ (by omega) (by omega)]; exact c3e
    · rw [c5r _ _ (by omega) (by omega)]; exact c4e
    · rw [c5i _ _ (by omega), c4i _ _ (by omega), c3i _ _ (by omega), c2i _ _ (by omega), c1i _ _ (by omega)]
      unfold nH; rw [hI_n (by omega), hI_n (by omega), hI_n (by omega), hI_e]
    · rw [c5i _ _ (by omega), c4i _ _ (by omega), c3i _ _ (by omega), c2i _ _ (by omega), c1i _ _ (by omega)]
      unfold nH; rw [hI_n (by omega), hI_n (by omega), hI_e]
    · rw [c5i _ _ (by omega), c4i _ _ (by omega), c3i _ _ (by omega), c2i _ _ (by omega), c1i _ _ (by omega)]
      unfold nH; rw [hI_n (by omega), hI_e]
    · rw [c5i _ _ (by omega), c4i _ _ (by omega), c3i _ _ (by omega), c2i _ _ (by omega), c1i _ _ (by omega)]
      unfold nH; rw [hI_e]
  have low : ∀ i j, i < mo → hI B i j = hI h i j ∧ hR B i j = hR h i j := fun i j hi => by
    refine ⟨?_, ?_⟩
    · rw [c5i _ _ (by omega), c4i _ _ (by omega), c3i _ _ (by omega), c2i _ _ (by omega), c1i _ _ (by omega)]
      unfold nH; rw [hI_n (by omega), hI_n (by omega), hI_n (by omega), hI_n (by omega)]
    · rw [c5r _ _ (by omega) (by omega), c4r _ _ (by omega) (by omega), c3r _ _ (by omega) (by omega), c2r _ _ (by omega) (by omega), c1r _ _ (by omega) (by omega)]
      rfl
  have cnt : B.1 = (mo + 6, h.1.2 + 270) := by
    rw [c5, c4, c3, c2, c1]
    rfl
  have zr : ∀ j, hI B (mo + 4) j = 0 := fun j => by rw [c5i _ _ (by omega)]; exact c4z j
  -- the fill and the loops
  obtain ⟨h1, f1, f2, f3⟩ := c_fill (r := mo + 3) (n := 150) (-9) (by decide) B
  have K1 : ck (nS mo) B h1 := ck_m f2 (fun i j z => by unfold nS; omega)
  have g1 := CN_k K1 wire
  obtain ⟨h2, l6, t1, t2, t3⟩ := n_rows hk g1 (some (vi (nI (w 0 0)))) (some (vi (nI (w 0 1)))) (nI (w 0 2)) (w 0 0) 0 h1 none (by omega) (ck_r _ _) (fun k hk => absurd hk (by omega))
  have K2 : ck (nS mo) h1 h2 := ck_m t2 (fun i j z => by unfold nS; omega)
  have g2 := CN_k K2 g1
  have z4 : ∀ j, hI h2 (mo + 4) j = nI 0 := fun j => by rw [t2.2.2 _ _ (by omega), f2.2.2 _ _ (by omega)]; exact zr j
  have z3 : ∀ j, j < 150 → hI h2 (mo + 3) j = -9 := fun j hj => by rw [t2.2.2 _ _ (by omega)]; exact f3 j hj
  obtain ⟨h3, u1, u2, u3⟩ := n_cells hk g2 t3 z3 z4 (some (vi (nI (w 0 0)))) (some (vi (nI (w 0 1)))) l6 (nI (w 0 2)) (w 0 0 * w 0 1) 0 h2 (by omega) (ck_r _ _) (fun k hk => absurd hk (by omega)) (fun k _ => z4 k) (fun j _ hj => z3 j hj)
  have K3 : ck (nS mo) h2 h3 := ck_m u2 (fun i j z => by unfold nS; omega)
  have KK := ck_t K1 (ck_t K2 K3)
  refine ⟨h3, ?_, ?_, by rw [KK.1]; exact cnt, fun i j hi => ⟨(KK.2.2 i j (by unfold nS; omega)).trans (low i j hi).1, (KK.2.1 i j).trans (low i j hi).2⟩⟩
  · have r6 := wire.1.2.2.1
    rw [← u1, ← t1]
    simp (disch := omega) only [x_500, xs, r6, f1]
    exact rfl
  · have g3 := CN_k KK wire
    refine ⟨g3.1, g3.2, fun c hc => ⟨?_, ?_, (u3 c hc).1, (u3 c hc).2⟩⟩
    · rw [u2.2.2 _ _ (by omega)]; exact (t3 c hc).1
    · rw [u2.2.2 _ _ (by omega)]; exact (t3 c hc).2
