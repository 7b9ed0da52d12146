/-! THE CLASS: ways, fits, guess -/
theorem c_add_s {h : Hp} {mo d c : Nat} {w m : Wo} (hk : WOK d w) (g : SC h mo w m) (hc : c < w 0 0 * w 0 1) (f : Nat → Nat) (U : RV h 38 f) (l2 : Option AV) : ∀ (n s a : Nat) (l6 : Option AV), s + n = 5 → ∃ x6 : Option AV, run 2 711 28 [some (vo (some (33, 7, 0))), some (vo (some (mo, 5, 0))), l2, some (vi (nI c)), some (vi (nI a)), some (vi (nI s)), l6] [] h = run 2 711 72 [some (vo (some (33, 7, 0))), some (vo (some (mo, 5, 0))), l2, some (vi (nI c)), some (vi (nI (if fre w c = true then wyS w f c n s a else a))), some (vi (nI 5)), x6] [] h := by
  have cc := cells_le hk
  have w5 := g.2.2.1.2.2.2.2
  intro n
  induction n with
  | zero =>
    intro s a l6 hs
    obtain rfl : s = 5 := by omega
    refine ⟨l6, ?_⟩
    rw [x_711_28, show (if fre w c = true then wyS w f c 0 5 a else a) = a by unfold wyS; simp]
    generalize hX : run 2 711 72 _ _ _ = X
    simp (disch := omega) only [x_711, xs, ↓reduceIte, cz_5, Nat.le_refl, ↓hX]
  | succ n ih =>
    intro s a l6 hs
    have n5 : ¬ 5 ≤ s := by omega
    have h1 := c_leads hk g.1 hc (s := s) (by omega)
    rw [x_711_28]
    by_cases q : fre w c = true
    · simp only [if_pos q] at ih ⊢
      unfold wyS
      unfold nxV at h1
      rw [if_pos q] at h1
      have o9 := oN_9 (o := stp w c s) (fun t z => stp_lt hk z)
      cases hq : stp w c s with
      | none =>
        rw [hq] at h1
        have h1' : call 506 [vo (some (mo, 5, 0)), vi (nI c), vi (nI s)] h = some (some (vi (-9)), h) := h1
        obtain ⟨x6, r⟩ := ih (s + 1) (a + 0) (some (vi (-9))) (by omega)
        refine ⟨x6, ?_⟩
        simp only
        rw [← r]
        have za : nI a + 0 = nI (a + 0) := by simp
        simp (disch := omega) only [x_711, xs, ↓reduceIte, cz_5, n5, h1', za, nl_inc]
      | some t =>
        rw [hq] at h1 o9
        have h1' : call 506 [vo (some (mo, 5, 0)), vi (nI c), vi (nI s)] h = some (some (vi (nI t)), h) := h1
        have o9' : (nI t = -9) = False := by
          have : (oN (some t) = -9) = False := by rw [o9]; simp
          exact this
        have t30 := stp_lt hk hq
        have v := U t t30
        obtain ⟨x6, r⟩ := ih (s + 1) (a + f t) (some (vi (nI t))) (by omega)
        refine ⟨x6, ?_⟩
        simp only
        rw [← r]
        simp (disch := omega) only [x_711, xs, ↓reduceIte, cz_5, n5, h1', o9', w5, ↓ib_n, cl_n, v, nI_add, nl_inc]
    · simp only [if_neg q] at ih ⊢
      unfold nxV at h1
      rw [if_neg q] at h1
      obtain ⟨x6, r⟩ := ih (s + 1) a (some (vi (-9))) (by omega)
      refine ⟨x6, ?_⟩
      rw [← r]
      have za : nI a + 0 = nI a := by simp
      simp (disch := omega) only [x_711, xs, ↓reduceIte, cz_5, n5, h1, za, nl_inc]
/-- one step more -/
def aS (w : Wo) (f : Nat → Nat) (c : Nat) : Nat := if c < w 0 0 * w 0 1 then (if fre w c = true then wyS w f c 5 0 0 else 0) else f c
theorem c_add_c {h : Hp} {mo d r : Nat} {w m : Wo} (hk : WOK d w) (g : SC h mo w m) (hr : r = 36 ∨ r = 37) (f : Nat → Nat) (U : RV h 38 f) : ∀ (n c : Nat) (hh : Hp) (l4 l5 l6 : Option AV), c + n = w 0 0 * w 0 1 → ck sS h hh → (∀ j, j < 30 → hI hh r j = nI (if j < c then aS w f j else f j)) → (∀ a b, a ≠ r → hI hh a b = hI h a b) → ∃ h2, run 2 711 14 [some (vo (some (33, 7, 0))), some (vo (some (mo, 5, 0))), some (vo (some (r, 13, 30))), some (vi (nI c)), l4, l5, l6] [] hh = some (none, h2) ∧ ck sS h h2 ∧ RV h2 r (aS w f) ∧ ∀ a b, a ≠ r → hI h2 a b = hI h a b := by
  have cc := cells_le hk
  intro n
  induction n with
  | zero =>
    intro c hh l4 l5 l6 hc K V W
    have f2 := (SC_k K g).1.2.1.2.2.1
    have e : w 0 0 * w 0 1 ≤ c := by omega
    refine ⟨hh, ?_, K, fun j hj => ?_, W⟩
    · rw [x_711_14]
      simp (disch := omega) only [x_711, xs, ↓reduceIte, f2, nl_le, eq_true e]
    · rw [V j hj]
      by_cases ej : j < c
      · rw [if_pos ej]
      · rw [if_neg ej]; unfold aS; rw [if_neg (by omega)]
  | succ n ih =>
    intro c hh l4 l5 l6 hc K V W
    have g2 := SC_k K g
    have f2 := g2.1.2.1.2.2.1
    have e : ¬ w 0 0 * w 0 1 ≤ c := by omega
    obtain ⟨x6, rr⟩ := c_add_s hk g2 (c := c) (by omega) f (fun j hj => by rw [W 38 j (by omega)]; exact U j hj) (some (vo (some (r, 13, 30)))) 5 0 0 l6 rfl
    have s0 : run 2 711 14 [some (vo (some (33, 7, 0))), some (vo (some (mo, 5, 0))), some (vo (some (r, 13, 30))), some (vi (nI c)), l4, l5, l6] [] hh = run 2 711 28 [some (vo (some (33, 7, 0))), some (vo (some (mo, 5, 0))), some (vo (some (r, 13, 30))), some (vi (nI c)), some (vi (nI 0)), some (vi (nI 0)), l6] [] hh := by
      rw [x_711_14]
      simp (disch := omega) only [x_711, xs, ↓reduceIte, f2, nl_le, e]
      rfl
    have ea : (if fre w c = true then wyS w f c 5 0 0 else 0) = aS w f c := by unfold aS; rw [if_pos (show c < w 0 0 * w 0 1 by omega)]
    rw [ea] at rr
    obtain ⟨h2, r1, r2, r3, r4⟩ := ih (c + 1) (hsI hh r c (nI (aS w f c))) (some (vi (nI (aS w f c)))) (some (vi (nI 5))) x6 (by omega) (ck_t K (ck_I (by unfold sS; omega))) (fun j hj => by
      by_cases ej : j = c
      · subst ej; rw [hI_e, if_pos (by omega)]
      · rw [hI_n (by omega), V j hj]
        congr 1
        by_cases el : j < c
        · rw [if_pos el, if_pos (by omega)]
        · rw [if_neg el, if_neg (by omega)]) (fun a b n => by rw [hI_n (by omega)]; exact W a b n)
    refine ⟨h2, ?_, r2, r3, r4⟩
    rw [s0, rr, ← r1]
    simp (disch := omega) only [x_711, xs, ↓ib_n, cl_n, nl_inc]
theorem c_addStep {h : Hp} {mo d r : Nat} {w m : Wo} (hk : WOK d w) (g : SC h mo w m) (hr : r = 36 ∨ r = 37) (f : Nat → Nat) (U : RV h r f) : ∃ h2, call 711 [vo (some (33, 7, 0)), vo (some (mo, 5, 0)), vo (some (r, 13, 30))] h = some (none, h2) ∧ ck sS h h2 ∧ RV h2 r (aS w f) ∧ ∀ a b, a ≠ r → a ≠ 38 → hI h2 a b = hI h a b := by
  have w5 := g.2.2.1.2.2.2.2
  have K1 : ck sS h (hcp h r 0 38 0 30) := ⟨rfl, fun _ _ => rfl, fun i j n => by rw [hI_hcp, if_neg (by unfold sS at n; omega)]⟩
  have e38 : ∀ j, j < 30 → hI (hcp h r 0 38 0 30) 38 j = hI h r j := fun j hj => by
    rw [hI_hcp, if_pos (by omega), Nat.zero_add, Nat.sub_zero]
  have eo : ∀ a b, a ≠ 38 → hI (hcp h r 0 38 0 30) a b = hI h a b := fun a b n => by rw [hI_hcp, if_neg (by omega)]
  obtain ⟨h2, r1, r2, r3, r4⟩ := c_add_c hk (SC_k K1 g) hr f (fun j hj => by rw [e38 j hj]; exact U j hj) (w 0 0 * w 0 1) 0 (hcp h r 0 38 0 30) none none none (by omega) (ck_r _ _) (fun j hj => by rw [eo _ _ (by omega), U j hj, if_neg (by omega)]) (fun _ _ _ => rfl)
  refine ⟨h2, ?_, ck_t K1 r2, r3, fun a b n1 n2 => (r4 a b n1).trans (eo a b n2)⟩
  rw [← r1]
  have cnd : ((0 : Int32) < 0 ∨ (0 : Int32) < 0 ∨ (30 : Int32) < 0 ∨ 30 < (0 : Int32).toNatClampNeg + (30 : Int32).toNatClampNeg ∨ 30 < (0 : Int32).toNatClampNeg + (30 : Int32).toNatClampNeg) = False := by
    simp only [eq_iff_iff, iff_false]; decide
  have c0 : (0 : Int32).toNatClampNeg = 0 := rfl
  have c30 : (30 : Int32).toNatClampNeg = 30 := rfl
  simp (disch := omega) only [e_711, x_711, xs, ↓reduceIte, w5, ↓cnd, c0, c30]
  exact rfl
theorem wyF_out {w : Wo} {fr c : Nat} (sn : Nat → Nat → Bool) (hf : fr < w 0 0 * w 0 1) (hc : ¬ c < w 0 0 * w 0 1) : ∀ k, wyF w sn fr k c = 0 := by
  have ff : fre w c = false := by unfold fre; rw [decide_eq_false hc]; rfl
  intro k
  cases k with
  | zero => unfold wyF; rw [if_neg (show ¬ c = fr by omega)]; split <;> rfl
  | succ k => unfold wyF; rw [ff]; split <;> rfl
theorem bkF_out {w : Wo} {N c : Nat} (sn : Nat → Nat → Bool) (hc : ¬ c < w 0 0 * w 0 1) : ∀ k, bkF w sn N k c = 0 := by
  have ff : fre w c = false := by unfold fre; rw [decide_eq_false hc]; rfl
  intro k
  cases k with
  | zero => unfold bkF; rw [ff]; split <;> rfl
  | succ k => unfold bkF; rw [ff]; split <;> rfl
theorem aS_wy {w : Wo} {fr : Nat} (sn : Nat → Nat → Bool) (hf : fr < w 0 0 * w 0 1) (k c : Nat) : (if sn (k + 1) c = true then aS w (wyF w sn fr k) c else 0) = wyF w sn fr (k + 1) c := by
  unfold aS
  by_cases e : c < w 0 0 * w 0 1
  · rw [if_pos e]; rfl
  · rw [if_neg e, wyF_out sn hf e, wyF_out sn hf e]; split <;> rfl
theorem aS_bk {w : Wo} {N : Nat} (sn : Nat → Nat → Bool) (k c : Nat) : (if sn (N - (k + 1)) c = true then aS w (bkF w sn N k) c else 0) = bkF w sn N (k + 1) c := by
  unfold aS
  by_cases e : c < w 0 0 * w 0 1
  · rw [if_pos e]; rfl
  · rw [if_neg e, bkF_out sn e, bkF_out sn e]; split <;> rfl
theorem RV_c {h : Hp} {r : Nat} {f g : Nat → Nat} (U : RV h r f) (e : ∀ c, f c = g c) : RV h r g := fun c hc => by rw [← e c]; exact U c hc
theorem c_walk_l {h : Hp} {mo d fr N : Nat} {w m : Wo} (hk : WOK d w) (g : SC h mo w m) (hf : fr < w 0 0 * w 0 1) (hN : N ≤ 10) (l2 l3 : Option AV) : ∀ (n i : Nat) (hh : Hp), i + n = N → ck sS h hh → RV hh 36 (wyF w sn0 fr i) → ∃ h2, run 3 705 9 [some (vo (some (33, 7, 0))), some (vo (some (mo, 5, 0))), l2, l3, some (vi (nI N)), some (vi (nI i))] [] hh = run 3 705 31 [some (vo (some (33, 7, 0))), some (vo (some (mo, 5, 0))), l2, l3, some (vi (nI N)), some (vi (nI N))] [] h2 ∧ ck sS h h2 ∧ RV h2 36 (wyF w sn0 fr N) := by
  intro n
  induction n with
  | zero =>
    intro i hh hi K U
    obtain rfl : i = N := by omega
    refine ⟨hh, ?_, K, U⟩
    rw [x_705_9]
    generalize hX : run 3 705 31 _ _ _ = X
    simp (disch := omega) only [x_705, xs, ↓reduceIte, nl_le, Nat.le_refl, ↓hX]
  | succ n ih =>
    intro i hh hi K U
    have e : ¬ N ≤ i := by omega
    have g2 := SC_k K g
    have w3 := g2.2.2.1.2.2.1
    obtain ⟨h1, s1, s2, s3, -⟩ := c_addStep hk g2 (Or.inl rfl) _ U
    obtain ⟨h2, r1, r2, r3⟩ := ih (i + 1) h1 (by omega) (ck_t K s2) (RV_c s3 (fun c => aS_wy sn0 hf i c))
    refine ⟨h2, ?_, r2, r3⟩
    rw [x_705_9, ← r1]
    simp (disch := omega) only [x_705, xs, ↓reduceIte, nl_le, e, w3, s1, nl_inc]
theorem c_walks {h : Hp} {mo d fr to N : Nat} {w m : Wo} (hk : WOK d w) (g : SC h mo w m) (hf : fre w fr = true) (ht : to < w 0 0 * w 0 1) (hN : N ≤ 10) : ∃ h2, call 705 [vo (some (33, 7, 0)), vo (some (mo, 5, 0)), vi (nI fr), vi (nI to), vi (nI N)] h = some (some (vi (nI (wyF w sn0 fr N to))), h2) ∧ ck sS h h2 := by
  have cc := cells_le hk
  obtain ⟨h1, s1, s2, s3⟩ := c_start hk g hf
  obtain ⟨h2, r1, r2, r3⟩ := c_walk_l hk (SC_k s2 g) (fre_lt hf) hN (some (vi (nI fr))) (some (vi (nI to))) N 0 h1 (by omega) (ck_r _ _) (RV_c s3 (fun c => rfl))
  have K2 := ck_t s2 r2
  refine ⟨h2, ?_, K2⟩
  have g2 := SC_k K2 g
  have w3 := g2.2.2.1.2.2.1
  have hic := c_isCell (c := to) hk g2.1 (by omega)
  rw [decide_eq_true ht] at hic
  have v := r3 to (by omega)
  have s0 : call 705 [vo (some (33, 7, 0)), vo (some (mo, 5, 0)), vi (nI fr), vi (nI to), vi (nI N)] h = run 3 705 9 [some (vo (some (33, 7, 0))), some (vo (some (mo, 5, 0))), some (vi (nI fr)), some (vi (nI to)), some (vi (nI N)), some (vi (nI 0))] [] h1 := by
    simp (disch := omega) only [e_705, x_705, xs, s1]
    rfl
  rw [s0, r1]
  simp (disch := omega) only [x_705, xs, ↓reduceIte, hic, bI_t, i10, w3, ↓ib_n, cl_n, v]
theorem IC_SC {L : Nat → Prop} {nw sp : Nat} {σ : St} {h : Hp} (I : ICn L nw sp σ h) : ∃ mo, hR h nw 0 = some (mo, 5, 0) ∧ SC h mo σ.1 σ.2.2 := by
  obtain ⟨hn, hX, -, ⟨hw, ht⟩, -, hG, ⟨g1, -, ⟨g4, g5⟩, -⟩, -⟩ := I
  obtain ⟨mo, m1, m2, -, -, m5, -⟩ := hw.1
  obtain ⟨G1, G2⟩ := hG.2.2.2.2.1
  exact ⟨mo, m1, m2, m5, hX.2.2.1, G1, g4, fun i hi => ⟨g5 i hi, G2 i hi⟩⟩
theorem xS_s {L : Nat → Prop} {nw t : Nat} : ∀ i j, sS i j → xS L nw t i j := fun i j z => Or.inr (Or.inl z)
theorem q_ways (a b n : Int32) : Cok 1114 [a, b, n] (s_ways a b n) := by
  rintro σ h ⟨L, nw, sp, I⟩
  obtain ⟨hn, hX, -, ⟨hw, ht⟩, -, hG, -⟩ := id I
  have w0 := hX.1.1
  have w5 := hX.1.2.2.2.2.1
  obtain ⟨mo, m1, g⟩ := IC_SC I
  have h1 := c_nfree a I
  have h2 := c_nfree b I
  have h3 : call 1129 [vi n, vi 0, vi 10] h = some (some (vi (wdI n (nI 0) (nI 10))), h) := c_out n (nI 0) (nI 10) h
  unfold s_ways
  simp only [List.map]
  by_cases ea : freI σ.1 a = true
  · rw [if_pos ea] at h1
    by_cases eb : freI σ.1 b = true
    · rw [if_pos eb] at h2
      rw [if_pos ⟨ea, eb⟩]
      obtain ⟨j, rfl, hj, hj30⟩ := freI_of hG.1 ea
      obtain ⟨k, rfl, hk, hk30⟩ := freI_of hG.1 eb
      rcases wd_3 n 0 10 (by decide) (by omega) with ⟨z1, z2⟩ | ⟨z1, z2, z3⟩ | ⟨z1, z2, z3, z4⟩
      · rw [if_pos z1]
        refine ⟨rc h 4, ?_, ⟨L, nw, sp, IC_rz (by decide) I⟩, cB_e rfl⟩
        simp (disch := omega) only [e_1114, x_1114, xs, ↓reduceIte, h1, h2, i00, h3, z2, ltm, c_rf4 hX]
      · rw [if_neg z1, if_pos z2]
        refine ⟨rc h 6, ?_, ⟨L, nw, sp, IC_rz (by decide) I⟩, cB_e rfl⟩
        simp (disch := omega) only [e_1114, x_1114, xs, ↓reduceIte, h1, h2, i00, h3, z3, ltm, c_rf6 hX]
      · rw [if_neg z1, if_neg z2]
        obtain ⟨t, rfl, -, t2⟩ := z4
        obtain ⟨h2', r1, r2⟩ := c_walks hG.1 g hj (fre_lt hk) t2
        refine ⟨h2', ?_, ⟨L, nw, sp, IC_k (ck_m r2 xS_s) I⟩, cB_e r2.1⟩
        rw [cl_n (by omega), cl_n (by omega), cl_n (by omega)]
        simp (disch := omega) only [e_1114, x_1114, xs, ↓reduceIte, h1, h2, i00, h3, z3, w5, w0, m1, r1]
    · rw [if_neg eb] at h2
      rw [if_neg (fun z => eb z.2)]
      refine ⟨rc h 1, ?_, ⟨L, nw, sp, IC_rz (by decide) I⟩, cB_e rfl⟩
      simp (disch := omega) only [e_1114, x_1114, xs, ↓reduceIte, h1, h2, i00, ltm, c_rf1 hX]
  · rw [if_neg ea] at h1
    rw [if_neg (fun z => ea z.1)]
    refine ⟨rc h 1, ?_, ⟨L, nw, sp, IC_rz (by decide) I⟩, cB_e rfl⟩
    simp (disch := omega) only [e_1114, x_1114, xs, ↓reduceIte, h1, ltm, c_rf1 hX]
