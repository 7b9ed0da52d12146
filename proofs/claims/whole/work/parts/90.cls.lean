/-! THE CLASS: seeds -/
theorem pop_or {a t : Nat} (h : a.testBit t = false) : ∀ n k c, pcF (a ||| 2 ^ t) n k c = pcF a n k c + (if k ≤ t ∧ t < k + n then 1 else 0) := by
  intro n
  induction n with
  | zero => intro k c; unfold pcF; rw [if_neg (by omega)]; rfl
  | succ n ih =>
    intro k c
    unfold pcF
    have e0 : (a ||| 2 ^ t) / 2 ^ k % 2 = a / 2 ^ k % 2 + (if t = k then 1 else 0) := by
      rw [tb_2, tb_2, Nat.testBit_or, Nat.testBit_two_pow]
      by_cases e : t = k
      · subst e; rw [h]; simp
      · simp [e]
    have pc : ∀ n k x y, pcF a n k (x + y) = pcF a n k x + y := by
      intro n
      induction n with
      | zero => intro k x y; rfl
      | succ n ih2 => intro k x y; unfold pcF; rw [show x + y + a / 2 ^ k % 2 = x + a / 2 ^ k % 2 + y by omega, ih2]
    rw [ih, e0, ← Nat.add_assoc, pc]
    by_cases e : t = k
    · subst e
      rw [if_pos rfl, if_neg (by omega), if_pos (by omega)]
    · rw [if_neg e]
      by_cases e2 : k + 1 ≤ t ∧ t < k + 1 + n
      · rw [if_pos e2, if_pos (by omega)]
      · rw [if_neg e2, if_neg (by omega)]
theorem pop_o1 {a t : Nat} (h : a.testBit t = false) (ht : t < 30) : pop (a ||| 2 ^ t) = pop a + 1 := by
  unfold pop
  rw [pop_or h, if_pos (by omega)]
theorem sq_c {R C c s t : Nat} (h : sq R C c s = some t) : (s = 0 ∧ C ≤ c ∧ t = c - C) ∨ (s = 1 ∧ t = c + 1) ∨ (s = 2 ∧ t = c + C) ∨ (s = 3 ∧ 0 < c % C ∧ t = c - 1) ∨ (4 ≤ s ∧ t = c) := by
  unfold sq at h
  split at h
  · split at h
    · cases h; omega
    · cases h
  · split at h
    · cases h; omega
    · cases h
  · split at h
    · cases h; omega
    · cases h
  · split at h
    · cases h; omega
    · cases h
  · rename_i h0 h1 h2 h3
    cases h
    have : s ≠ 0 := fun z => h0 z
    have : s ≠ 1 := fun z => h1 z
    have : s ≠ 2 := fun z => h2 z
    have : s ≠ 3 := fun z => h3 z
    omega
theorem stp_sq {w : Wo} {c s t : Nat} (h : stp w c s = some t) : sq (w 0 0) (w 0 1) c s = some t := by
  unfold stp at h
  split at h
  · rename_i u e
    split at h
    · cases h; exact e
    · cases h
  · cases h
theorem stp_ne {w : Wo} {d c s1 s2 t : Nat} (hk : WOK d w) (h1 : stp w c s1 = some t) (h2 : stp w c s2 = some t) (h5 : s1 < 5) (h6 : s2 < 5) : s1 = s2 := by
  have c2 := hk.2.1.1
  have m1 : c % w 0 1 ≤ c := Nat.mod_le _ _
  have q1 := sq_c (stp_sq h1)
  have q2 := sq_c (stp_sq h2)
  generalize w 0 1 = C at *
  generalize c % C = m at *
  omega
theorem pop_ar {w : Wo} {d c : Nat} (hk : WOK d w) : ∀ n s a, s + n ≤ 5 → (∀ k, a.testBit k = true → ∃ s0, s0 < s ∧ stp w c s0 = some k) → pop (arF w c n s a) = pop a + cnF w c n s := by
  intro n
  induction n with
  | zero => intro s a _ _; rfl
  | succ n ih =>
    intro s a hs ha
    unfold arF cnF
    cases q : stp w c s with
    | none =>
      simp only
      rw [ih (s + 1) a (by omega) (fun k z => by obtain ⟨s0, x, y⟩ := ha k z; exact ⟨s0, by omega, y⟩)]
      omega
    | some t =>
      simp only
      have nb : a.testBit t = false := by
        cases z : a.testBit t with
        | false => rfl
        | true =>
          obtain ⟨s0, x, y⟩ := ha t z
          have := stp_ne hk q y (by omega) (by omega)
          omega
      rw [ih (s + 1) (a ||| 2 ^ t) (by omega) (fun k z => ?_), pop_o1 nb (stp_lt hk q)]
      · omega
      · rw [Nat.testBit_or, Nat.testBit_two_pow] at z
        by_cases e : t = k
        · subst e; exact ⟨s, by omega, q⟩
        · simp only [e, decide_false, Bool.or_false] at z
          obtain ⟨s0, x, y⟩ := ha k z
          exact ⟨s0, by omega, y⟩
theorem pop_0 : pop 0 = 0 := by decide +kernel
theorem pop_arB {w : Wo} {d c : Nat} (hk : WOK d w) (hc : fre w c = true) : pop (arB w c) = cnF w c 5 0 := by
  unfold arB
  rw [if_pos hc, pop_ar hk 5 0 0 (by omega) (fun k z => by simp at z), pop_0]
  omega
theorem c_draw_l {h : Hp} {mo d c : Nat} {w : Wo} (hk : WOK d w) (g : CM h mo w) (hc : fre w c = true) (l2 : Option AV) (x3 : Int32) : ∀ (n s l : Nat) (l6 : Option AV), s + n = 5 → l < 2 ^ 31 → run 2 511 27 [some (vo (some (mo, 5, 0))), some (vi (nI c)), l2, some (vi x3), some (vi (nI l)), some (vi (nI s)), l6] [] h = some (some (vi (nI (drF w c n s l))), h) := by
  intro n
  induction n with
  | zero =>
    intro s l l6 hs hl
    obtain rfl : s = 5 := by omega
    rw [x_511_27]
    simp (disch := omega) only [x_511, xs, ↓reduceIte, cz_5, Nat.le_refl]
    rfl
  | succ n ih =>
    intro s l l6 hs hl
    have n5 : ¬ 5 ≤ s := by omega
    have h1 := c_leads' hk g hc (s := s) (by omega)
    have o9 := oN_9 (o := stp w c s) (fun t z => stp_lt hk z)
    rw [x_511_27]
    unfold drF
    cases hq : stp w c s with
    | none =>
      rw [hq] at h1
      have h1' : call 506 [vo (some (mo, 5, 0)), vi (nI c), vi (nI s)] h = some (some (vi (-9)), h) := h1
      simp only
      rw [← ih (s + 1) l (some (vi (-9))) (by omega) hl]
      simp (disch := omega) only [x_511, xs, ↓reduceIte, cz_5, n5, h1', nl_inc]
    | some t =>
      rw [hq] at h1 o9
      have h1' : call 506 [vo (some (mo, 5, 0)), vi (nI c), vi (nI s)] h = some (some (vi (nI t)), h) := h1
      have o9' : (nI t = -9) = False := by
        have : (oN (some t) = -9) = False := by rw [o9]; simp
        exact this
      simp only
      by_cases e : l = 0
      · rw [if_pos e]
        simp (disch := omega) only [x_511, xs, ↓reduceIte, cz_5, n5, h1', o9', nl_e0, eq_true e]
      · rw [if_neg e, ← ih (s + 1) (l - 1) (some (vi (nI t))) (by omega) (by omega)]
        have em : nI l + -1 = nI (l - 1) := by
          have : nI l - nI 1 = nI (l - 1) := pk_sub (by omega)
          rw [← this, Int32.sub_eq_add_neg]
          rfl
        simp (disch := omega) only [x_511, xs, ↓reduceIte, cz_5, n5, h1', o9', nl_e0, e, em, nl_inc]
theorem cnF_1 {w : Wo} {c : Nat} (hc : fre w c = true) : 1 ≤ cnF w c 5 0 ∧ cnF w c 5 0 ≤ 5 := by
  refine ⟨?_, cnF_le w c 5 0⟩
  simp only [cnF, Nat.zero_add, Nat.reduceAdd, stp_stay hc (Nat.le_refl 4)]
  omega
theorem c_draw {h : Hp} {mo d c k : Nat} {w : Wo} (hk : WOK d w) (g : CM h mo w) (hc : fre w c = true) (hk31 : k < 2 ^ 31) : call 511 [vo (some (mo, 5, 0)), vi (nI c), vi (nI k)] h = some (some (vi (nI (drF w c 5 0 (k % cnF w c 5 0)))), h) := by
  have h1 := c_around hk g (fre_lt hc)
  have h2 := c_bits (h := h) (arB_lt hk c)
  rw [pop_arB hk hc] at h2
  have c1 := cnF_1 hc
  have z0 : (nI (cnF w c 5 0) = 0) = False := by rw [nl_e0 (by omega)]; exact eq_false (by omega)
  have ml : k % cnF w c 5 0 < cnF w c 5 0 := Nat.mod_lt _ (by omega)
  rw [← c_draw_l hk g hc (some (vi (nI k))) (nI (cnF w c 5 0)) 5 0 (k % cnF w c 5 0) none rfl (by omega)]
  simp (disch := omega) only [e_511, x_511, xs, ↓reduceIte, h1, h2, z0, nl_g0, pk_rem]
  exact rfl
theorem us_mx (z : Int32) : ((z &&& 2147483647).toUInt32 >>> ((16 : Int32).toUInt32 &&& Int32.toUInt32 31)).toInt32 = nI ((z &&& 2147483647).toNatClampNeg / 65536) ∧ (z &&& 2147483647).toNatClampNeg / 65536 < 2 ^ 31 := by
  obtain ⟨k, hk, e⟩ := and_mx z
  rw [e, cl_n hk]
  exact ⟨us_16 hk, by omega⟩
theorem c_seed_l {h : Hp} {nw sp : Nat} {L : Nat → Prop} {σ : St} (I : ICn L nw sp σ h) (N e : Nat) (hN : N ≤ 60) (he : e ≤ 1) (l1 l3 l5 : Option AV) : ∀ (n i : Nat) (z : Int32) (c s : Nat) (x5 : Int32), i + n = N → fre σ.1 c = true → s < 2 ^ 30 → run 3 1123 60 [some (vo (some (0, 11, 0))), l1, some (vi (nI N)), l3, some (vi (nI e)), some (vi x5), some (vi (nI c)), some (vi z), some (vi (nI s)), some (vi (nI i))] [] h = some (some (vi (nI (if e = 0 then (sdF σ.1 n z c s).1 else pop (sdF σ.1 n z c s).2))), h) := by
  obtain ⟨hn, hX, -, ⟨hw, ht⟩, -, hG, -⟩ := id I
  have w0 := hX.1.1
  obtain ⟨mo, m1, m2, -⟩ := hw.1
  have cc := cells_le hG.1
  intro n
  induction n with
  | zero =>
    intro i z c s x5 hi hc hs
    have e1 : N ≤ i := by omega
    have hb := c_bits (h := h) hs
    rw [x_1123_60]
    rcases (by omega : e = 0 ∨ e = 1) with rfl | rfl
    · have z0 : (nI 0 = 0) = True := eq_true rfl
      simp (disch := omega) only [x_1123, xs, ↓reduceIte, nl_le, eq_true e1, z0]
      rfl
    · have z0 : (nI 1 = 0) = False := eq_false (by decide)
      simp (disch := omega) only [x_1123, xs, ↓reduceIte, nl_le, eq_true e1, z0, hb, Nat.reduceEqDiff]
      rfl
  | succ n ih =>
    intro i z c s x5 hi hc hs
    have e1 : ¬ N ≤ i := by omega
    obtain ⟨u1, u2⟩ := us_mx (sdN z)
    have u1' : (((z * 1103515245 + 12345) &&& 2147483647).toUInt32 >>> ((16 : Int32).toUInt32 &&& Int32.toUInt32 31)).toInt32 = nI (sdK z) := u1
    have hd := c_draw hG.1 m2 hc (k := sdK z) u2
    have fd := drF_fre hc 5 0 (sdK z % cnF σ.1 c 5 0)
    have fl := fre_lt fd
    have fp := p2_lt (c := drF σ.1 c 5 0 (sdK z % cnF σ.1 c 5 0)) (by omega)
    rw [x_1123_60]
    unfold sdF
    rw [← ih (i + 1) (sdN z) (drF σ.1 c 5 0 (sdK z % cnF σ.1 c 5 0)) (s ||| 2 ^ drF σ.1 c 5 0 (sdK z % cnF σ.1 c 5 0)) x5 (by omega) fd (or_lt hs (by omega))]
    simp (disch := omega) only [x_1123, xs, ↓reduceIte, nl_le, e1, w0, m1, u1', hd, nl_s1, nl_or, nl_inc]
    exact rfl
theorem q_seeds (c n z x : Int32) : Cok 1123 [c, n, z, x] (s_seeds c n z x) := by
  rintro σ h ⟨L, nw, sp, I⟩
  obtain ⟨hn, hX, -, ⟨hw, ht⟩, -, hG, -⟩ := id I
  have h1 := c_nfree c I
  have h2 : call 1129 [vi n, vi 1, vi 60] h = some (some (vi (wdI n (nI 1) (nI 60))), h) := c_out n (nI 1) (nI 60) h
  have h3 : call 1130 [vi x, vi 1] h = some (some (vi (if x < 0 ∨ 1 < x then -2 else 0)), h) := c_ask x 1 h
  unfold s_seeds
  simp only [List.map]
  by_cases e1 : freI σ.1 c = true
  · rw [if_pos e1] at h1 ⊢
    obtain ⟨k, rfl, hk, hk30⟩ := freI_of hG.1 e1
    rcases wd_3 n 1 60 (by decide) (by omega) with ⟨z1, z2⟩ | ⟨z1, z2, z3⟩ | ⟨z1, z2, z3, z4⟩
    · rw [if_pos z1]
      refine ⟨rc h 4, ?_, ⟨L, nw, sp, IC_rz (by decide) I⟩, cB_e rfl⟩
      simp (disch := omega) only [e_1123, x_1123, xs, ↓reduceIte, h1, i00, h2, z2, ltm, c_rf4 hX]
    · rw [if_neg z1, if_pos z2]
      refine ⟨rc h 6, ?_, ⟨L, nw, sp, IC_rz (by decide) I⟩, cB_e rfl⟩
      simp (disch := omega) only [e_1123, x_1123, xs, ↓reduceIte, h1, i00, h2, z3, ltm, c_rf6 hX]
    · rw [if_neg z1, if_neg z2]
      by_cases e2 : x < 0 ∨ 1 < x
      · rw [if_pos e2] at h3 ⊢
        refine ⟨rc h 2, ?_, ⟨L, nw, sp, IC_rz (by decide) I⟩, cB_e rfl⟩
        simp (disch := omega) only [e_1123, x_1123, xs, ↓reduceIte, h1, i00, h2, z3, h3, ltm, c_rf2 hX]
      · rw [if_neg e2] at h3 ⊢
        obtain ⟨-, e, rfl, he⟩ := in1_t e2
        obtain ⟨j, rfl, j1, j2⟩ := z4
        refine ⟨h, ?_, ⟨L, nw, sp, I⟩, cB_e rfl⟩
        rw [cl_n (by omega), cl_n (by omega), cl_n (by omega), ← c_seed_l I j e j2 he (some (vi (nI k))) (some (vi z)) none j 0 z k (2 ^ k) 0 (by omega) hk (p2_lt hk30)]
        simp (disch := omega) only [e_1123, x_1123, xs, ↓reduceIte, h1, i00, h2, z3, h3, nl_s1]
        exact rfl
  · rw [if_neg e1] at h1 ⊢
    refine ⟨rc h 1, ?_, ⟨L, nw, sp, IC_rz (by decide) I⟩, cB_e rfl⟩
    simp (disch := omega) only [e_1123, x_1123, xs, ↓reduceIte, h1, ltm, c_rf1 hX]
