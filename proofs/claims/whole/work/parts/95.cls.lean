/-! THE CLASS: the hunter's turn, the game -/
def hsF (w : Wo) (H : Nat → Nat) (a : Nat) : Nat → Nat → Nat → Nat
  | 0, _, b => b
  | n + 1, s, b => hsF w H a n (s + 1) (match stp w a s with | none => b | some t => b ||| H t)
theorem hsF_t (w : Wo) (H : Nat → Nat) (a r : Nat) : ∀ n s b, (hsF w H a n s b).testBit r = (b.testBit r || anS w a (fun to => (H to).testBit r) n s) := by
  intro n
  induction n with
  | zero => intro s b; simp [hsF, anS]
  | succ n ih =>
    intro s b
    unfold hsF anS
    rw [ih]
    cases stp w a s with
    | none => simp
    | some t => simp only [Nat.testBit_or, Bool.or_assoc]
theorem hsF_lt {w : Wo} {d : Nat} (hk : WOK d w) (H : Nat → Nat) (hH : ∀ t, H t < 2 ^ 30) (a : Nat) : ∀ n s b, b < 2 ^ 30 → hsF w H a n s b < 2 ^ 30 := by
  intro n
  induction n with
  | zero => intro s b h; exact h
  | succ n ih =>
    intro s b h
    unfold hsF
    refine ih _ _ ?_
    cases stp w a s with
    | none => exact h
    | some t => exact Nat.or_lt_two_pow h (hH t)
/-- what is won after the hunter's turn -/
def wH (w : Wo) (W : Nat → Nat → Bool) (a : Nat) : Nat := if fre w a = true then hsF w (hB w W) a 5 0 (wB w W a) else wB w W a
theorem wH_e {w : Wo} {T a : Nat} (ha : a < w 0 0 * w 0 1) : wH w (wn w T) a = wB w (wn w (T + 1)) a := by
  apply Nat.eq_of_testBit_eq
  intro r
  unfold wB
  rw [bB_t, wn_S]
  unfold wH
  by_cases q : fre w a = true
  · rw [if_pos q, hsF_t]
    unfold wB
    rw [bB_t, q]
    by_cases hr : r < w 0 0 * w 0 1
    · rw [decide_eq_true hr, Bool.true_and, Bool.true_and, Bool.true_and]
      congr 1
      rw [Bool.eq_iff_iff, anS_i]
      simp only [Bool.and_eq_true, anS_i]
      constructor
      · rintro ⟨k, t, h1, h2, h3, h4⟩
        unfold hB at h4
        rw [bB_t, decide_eq_true hr, Bool.true_and] at h4
        have ft := stp_fre h3
        have fr : fre w r = true := by
          unfold hP at h4
          cases e : fre w r with
          | true => rfl
          | false =>
            rw [e, Bool.false_and, Bool.or_false] at h4
            rw [of_decide_eq_true h4, e] at ft
            cases ft
        rw [hP_h fr] at h4
        exact ⟨fr, k, t, h1, h2, h3, h4⟩
      · rintro ⟨fr, k, t, h1, h2, h3, h4⟩
        refine ⟨k, t, h1, h2, h3, ?_⟩
        unfold hB
        rw [bB_t, decide_eq_true hr, Bool.true_and, hP_h fr]
        exact h4
    · have : anS w a (fun to => (hB w (wn w T) to).testBit r) 5 0 = false := by
        cases e : anS w a (fun to => (hB w (wn w T) to).testBit r) 5 0 with
        | false => rfl
        | true =>
          obtain ⟨k, t, h1, h2, h3, h4⟩ := (anS_i w a _ 5 0).mp e
          unfold hB at h4
          rw [bB_t, decide_eq_false hr] at h4
          simp at h4
      rw [this, decide_eq_false hr]
      simp
  · rw [if_neg q, bnt q]
    unfold wB
    rw [bB_t]
    simp
theorem c_hunter_i {h : Hp} {mo d a : Nat} {w : Wo} (H : Nat → Nat) (hk : WOK d w) (g : ZC h mo w) (ha : a < w 0 0 * w 0 1) (hH : ∀ t, H t < 2 ^ 30) (hh : ∀ t, t < w 0 0 * w 0 1 → hI h 41 t = nI (H t)) (l2 : Option AV) : ∀ (n s b : Nat) (l6 : Option AV), s + n = 5 → b < 2 ^ 30 → ∃ x6 : Option AV, run 2 4 23 [some (vo (some (39, 0, 0))), some (vo (some (mo, 5, 0))), l2, some (vi (nI a)), some (vi (nI b)), some (vi (nI s)), l6] [] h = run 2 4 67 [some (vo (some (39, 0, 0))), some (vo (some (mo, 5, 0))), l2, some (vi (nI a)), some (vi (nI (if fre w a = true then hsF w H a n s b else b))), some (vi (nI 5)), x6] [] h := by
  have cc := cells_le hk
  have w1 := g.2.2.2
  intro n
  induction n with
  | zero =>
    intro s b l6 hs hb
    obtain rfl : s = 5 := by omega
    refine ⟨l6, ?_⟩
    rw [x_4_23, show (if fre w a = true then hsF w H a 0 5 b else b) = b by unfold hsF; simp]
    generalize hX : run 2 4 67 _ _ _ = X
    simp (disch := omega) only [x_4, xs, ↓reduceIte, cz_5, Nat.le_refl, ↓hX]
  | succ n ih =>
    intro s b l6 hs hb
    have n5 : ¬ 5 ≤ s := by omega
    have h1 := c_leads hk g.1 ha (s := s) (by omega)
    have z0 : nI b ||| 0 = nI b := by simp
    rw [x_4_23]
    by_cases q : fre w a = true
    · simp only [if_pos q] at ih ⊢
      unfold hsF
      unfold nxV at h1
      rw [if_pos q] at h1
      have o9 := oN_9 (o := stp w a s) (fun t z => stp_lt hk z)
      cases hq : stp w a s with
      | none =>
        rw [hq] at h1
        have h1' : call 506 [vo (some (mo, 5, 0)), vi (nI a), vi (nI s)] h = some (some (vi (-9)), h) := h1
        obtain ⟨x6, r⟩ := ih (s + 1) b (some (vi (-9))) (by omega) hb
        refine ⟨x6, ?_⟩
        simp only
        rw [← r]
        simp (disch := omega) only [x_4, xs, ↓reduceIte, cz_5, n5, h1', z0, nl_inc]
      | some t =>
        rw [hq] at h1 o9
        have h1' : call 506 [vo (some (mo, 5, 0)), vi (nI a), vi (nI s)] h = some (some (vi (nI t)), h) := h1
        have o9' : (nI t = -9) = False := by
          have : (oN (some t) = -9) = False := by rw [o9]; simp
          exact this
        have tl := fre_lt (stp_fre hq)
        have v := hh t tl
        have ht := hH t
        obtain ⟨x6, r⟩ := ih (s + 1) (b ||| H t) (some (vi (nI t))) (by omega) (Nat.or_lt_two_pow hb ht)
        refine ⟨x6, ?_⟩
        simp only
        rw [← r]
        simp (disch := omega) only [x_4, xs, ↓reduceIte, cz_5, n5, h1', o9', w1, ↓ib_n, cl_n, v, nl_or, nl_inc]
    · simp only [if_neg q] at ih ⊢
      unfold nxV at h1
      rw [if_neg q] at h1
      obtain ⟨x6, r⟩ := ih (s + 1) b (some (vi (-9))) (by omega) hb
      refine ⟨x6, ?_⟩
      rw [← r]
      simp (disch := omega) only [x_4, xs, ↓reduceIte, cz_5, n5, h1, z0, nl_inc]
theorem bI_or (b c : Bool) : bI b ||| bI c = bI (b || c) := by cases b <;> cases c <;> rfl
theorem c_hunter_l {h : Hp} {mo d T : Nat} {w : Wo} (hk : WOK d w) (g : ZC h mo w) (hh : ∀ t, t < w 0 0 * w 0 1 → hI h 41 t = nI (hB w (wn w T) t)) : ∀ (n a : Nat) (b : Bool) (hx : Hp) (l4 l5 l6 : Option AV), a + n = w 0 0 * w 0 1 → ck (fun i _ => i = 40) h hx → (∀ a2, a2 < w 0 0 * w 0 1 → hI hx 40 a2 = nI (wB w (wn w (if a2 < a then T + 1 else T)) a2)) → (b = true ↔ ∃ a2, a2 < a ∧ wB w (wn w (T + 1)) a2 ≠ wB w (wn w T) a2) → ∃ (h2 : Hp) (b2 : Bool), run 2 4 4 [some (vo (some (39, 0, 0))), some (vo (some (mo, 5, 0))), some (vi (bI b)), some (vi (nI a)), l4, l5, l6] [] hx = some (some (vi (bI b2)), h2) ∧ ck (fun i _ => i = 40) h h2 ∧ (∀ a2, a2 < w 0 0 * w 0 1 → hI h2 40 a2 = nI (wB w (wn w (T + 1)) a2)) ∧ (b2 = true ↔ ∃ a2, a2 < w 0 0 * w 0 1 ∧ wB w (wn w (T + 1)) a2 ≠ wB w (wn w T) a2) := by
  have cc := cells_le hk
  intro n
  induction n with
  | zero =>
    intro a b hx l4 l5 l6 ha K U B
    obtain rfl : a = w 0 0 * w 0 1 := by omega
    have f2 := (ZC_k (ck_m K (fun i j z => Or.inl z)) g).1.2.1.2.2.1
    refine ⟨hx, b, ?_, K, fun a2 h2 => by rw [U a2 h2, if_pos h2], B⟩
    rw [x_4_4]
    simp (disch := omega) only [x_4, xs, ↓reduceIte, f2, nl_le, Nat.le_refl, bI_d]
  | succ n ih =>
    intro a b hx l4 l5 l6 ha K U B
    have g2 := ZC_k (ck_m K (fun i j z => Or.inl z)) g
    have f2 := g2.1.2.1.2.2.1
    have w0 := g2.2.2.1
    have e : ¬ w 0 0 * w 0 1 ≤ a := by omega
    have ua := U a (by omega)
    rw [if_neg (by omega)] at ua
    have wl : wB w (wn w T) a < 2 ^ 30 := bB_30 hk _
    have wl2 : wB w (wn w (T + 1)) a < 2 ^ 30 := bB_30 hk _
    obtain ⟨x6, r⟩ := c_hunter_i (hB w (wn w T)) hk g2 (a := a) (by omega) (fun t => bB_30 hk _) (fun t ht => by rw [K.2.2 _ _ (by omega)]; exact hh t ht) (some (vi (bI b))) 5 0 (wB w (wn w T) a) l6 rfl wl
    have we : (if fre w a = true then hsF w (hB w (wn w T)) a 5 0 (wB w (wn w T) a) else wB w (wn w T) a) = wB w (wn w (T + 1)) a := wH_e (by omega)
    rw [we] at r
    have s0 : run 2 4 4 [some (vo (some (39, 0, 0))), some (vo (some (mo, 5, 0))), some (vi (bI b)), some (vi (nI a)), l4, l5, l6] [] hx = run 2 4 23 [some (vo (some (39, 0, 0))), some (vo (some (mo, 5, 0))), some (vi (bI b)), some (vi (nI a)), some (vi (nI (wB w (wn w T) a))), some (vi (nI 0)), l6] [] hx := by
      rw [x_4_4]
      simp (disch := omega) only [x_4, xs, ↓reduceIte, f2, nl_le, e, w0, ↓ib_n, cl_n, ua]
      rfl
    have key : ∃ c : Bool, (c = true ↔ wB w (wn w (T + 1)) a ≠ wB w (wn w T) a) ∧ run 2 4 67 [some (vo (some (39, 0, 0))), some (vo (some (mo, 5, 0))), some (vi (bI b)), some (vi (nI a)), some (vi (nI (wB w (wn w (T + 1)) a))), some (vi (nI 5)), x6] [] hx = run 2 4 4 [some (vo (some (39, 0, 0))), some (vo (some (mo, 5, 0))), some (vi (bI (b || c))), some (vi (nI (a + 1))), some (vi (nI (wB w (wn w (T + 1)) a))), some (vi (nI 5)), x6] [] (hsI hx 40 a (nI (wB w (wn w (T + 1)) a))) := by
      have o1 : bI b ||| 1 = bI (b || true) := bI_or b true
      have o0 : bI b ||| 0 = bI (b || false) := bI_or b false
      by_cases q : wB w (wn w (T + 1)) a = wB w (wn w T) a
      · refine ⟨false, ⟨(fun z => by cases z), fun z => absurd q z⟩, ?_⟩
        simp (disch := omega) only [x_4, xs, ↓reduceIte, w0, ↓ib_n, cl_n, ua, nl_eq, eq_true q, o0, nl_inc]
      · refine ⟨true, ⟨fun _ => q, fun _ => rfl⟩, ?_⟩
        simp (disch := omega) only [x_4, xs, ↓reduceIte, w0, ↓ib_n, cl_n, ua, nl_eq, q, o1, nl_inc]
    obtain ⟨c, hc, rk⟩ := key
    rw [s0, r, rk]
    refine ih (a + 1) (b || c) _ _ _ _ (by omega) (ck_t K (ck_I rfl)) (fun a2 h2 => ?_) ?_
    · by_cases ea : a2 = a
      · subst ea; rw [hI_e, if_pos (by omega)]
      · rw [hI_n (by omega), U a2 h2]
        by_cases el : a2 < a
        · rw [if_pos el, if_pos (by omega)]
        · rw [if_neg el, if_neg (by omega)]
    · rw [Bool.or_eq_true, B, hc]
      constructor
      · rintro (⟨a2, x, y⟩ | y)
        · exact ⟨a2, by omega, y⟩
        · exact ⟨a, by omega, y⟩
      · rintro ⟨a2, x, y⟩
        by_cases ea : a2 = a
        · subst ea; exact Or.inr y
        · exact Or.inl ⟨a2, by omega, y⟩
theorem c_hunter {h : Hp} {mo d T : Nat} {w : Wo} (hk : WOK d w) (g : ZC h mo w) (hw : ∀ a, a < w 0 0 * w 0 1 → hI h 40 a = nI (wB w (wn w T) a)) (hh : ∀ t, t < w 0 0 * w 0 1 → hI h 41 t = nI (hB w (wn w T) t)) : ∃ (h2 : Hp) (b2 : Bool), call 4 [vo (some (39, 0, 0)), vo (some (mo, 5, 0))] h = some (some (vi (bI b2)), h2) ∧ ck (fun i _ => i = 40) h h2 ∧ (∀ a2, a2 < w 0 0 * w 0 1 → hI h2 40 a2 = nI (wB w (wn w (T + 1)) a2)) ∧ (b2 = true ↔ ∃ a2, a2 < w 0 0 * w 0 1 ∧ wB w (wn w (T + 1)) a2 ≠ wB w (wn w T) a2) := by
  obtain ⟨h2, b2, r1, r2⟩ := c_hunter_l hk g hh (w 0 0 * w 0 1) 0 false h none none none (by omega) (ck_r _ _) (fun a2 h2 => by rw [if_neg (by omega)]; exact hw a2 h2) ⟨(fun z => by cases z), fun ⟨a2, x, _⟩ => by omega⟩
  refine ⟨h2, b2, ?_, r2⟩
  rw [← r1]
  simp only [e_4, x_4, xs]
  exact rfl
theorem wB_t {w : Wo} {W : Nat → Nat → Bool} {a r : Nat} : (wB w W a).testBit r = (decide (r < w 0 0 * w 0 1) && W a r) := bB_t _ _ _
theorem wB_ne {w : Wo} {T : Nat} (hA : 0 < w 0 0 * w 0 1) (b : Bool) (h : b = true ↔ ∃ a, a < w 0 0 * w 0 1 ∧ wB w (wn w (T + 1)) a ≠ wB w (wn w T) a) : Mq w T (w 0 0 * w 0 1 * (w 0 0 * w 0 1)) b := by
  unfold Mq
  rw [h]
  constructor
  · rintro ⟨a, ha, hne⟩
    have : ∃ r, (wB w (wn w (T + 1)) a).testBit r ≠ (wB w (wn w T) a).testBit r := Classical.byContradiction (fun z => hne (Nat.eq_of_testBit_eq (fun r => Classical.byContradiction (fun y => z ⟨r, y⟩))))
    obtain ⟨r, hr⟩ := this
    rw [wB_t, wB_t] at hr
    have rA : r < w 0 0 * w 0 1 := Classical.byContradiction (fun z => hr (by rw [decide_eq_false z]; rfl))
    rw [decide_eq_true rA, Bool.true_and, Bool.true_and] at hr
    have f : wn w T a r = false := by
      cases q : wn w T a r with
      | false => rfl
      | true => exact absurd (by rw [wn_m (by omega : T ≤ T + 1) q, q]) hr
    have t : wn w (T + 1) a r = true := by
      cases q : wn w (T + 1) a r with
      | true => rfl
      | false => exact absurd (by rw [q, f]) hr
    refine ⟨a * (w 0 0 * w 0 1) + r, pr_lt ha rA, ?_⟩
    have e1 : (a * (w 0 0 * w 0 1) + r) / (w 0 0 * w 0 1) = a := by rw [Nat.mul_comm a, Nat.mul_add_div hA, Nat.div_eq_of_lt rA, Nat.add_zero]
    have e2 : (a * (w 0 0 * w 0 1) + r) % (w 0 0 * w 0 1) = r := by rw [Nat.mul_comm a, Nat.mul_add_mod, Nat.mod_eq_of_lt rA]
    rw [e1, e2]
    exact ⟨t, f⟩
  · rintro ⟨j, hj, t, f⟩
    have rA := Nat.mod_lt j hA
    refine ⟨j / (w 0 0 * w 0 1), Nat.div_lt_of_lt_mul hj, fun z => ?_⟩
    have := congrArg (fun x => x.testBit (j % (w 0 0 * w 0 1))) z
    simp only [wB_t, decide_eq_true rA, Bool.true_and, t, f] at this
    cases this
theorem cU_0 {w : Wo} {d : Nat} (hk : WOK d w) : cU w 0 < 900 := by
  have cc := cells_le hk
  have h1 : w 0 0 * w 0 1 * (w 0 0 * w 0 1) ≤ 30 * 30 := Nat.mul_le_mul cc.2 cc.2
  have h2 : 0 < w 0 0 * w 0 1 * (w 0 0 * w 0 1) := Nat.mul_pos (by omega) (by omega)
  have h3 : cU w 0 < cuF (fun _ => true) (w 0 0 * w 0 1 * (w 0 0 * w 0 1)) := cu_lt _ (fun _ _ _ => rfl) ⟨0, h2, rfl, by simp [wn]⟩
  have h4 := cu_b (fun _ => true) (w 0 0 * w 0 1 * (w 0 0 * w 0 1))
  omega
/-- the rounds of the game; u of them are over -/
theorem c_catch_l {h : Hp} {mo d a r : Nat} {w : Wo} (hk : WOK d w) (g : ZC h mo w) (ha : a < w 0 0 * w 0 1) (hr : r < w 0 0 * w 0 1) : ∀ (n u : Nat) (hh : Hp) (l5 : Option AV), u + n = 900 → cU w u + u ≤ 899 → wn w u a r = false → ck zS h hh → (∀ c, c < w 0 0 * w 0 1 → hI hh 40 c = nI (wB w (wn w u) c)) → ∃ h2, run 3 1 58 [some (vo (some (39, 0, 0))), some (vo (some (mo, 5, 0))), some (vi (nI a)), some (vi (nI r)), some (vi (nI (u + 1))), l5] [] hh = some (some (vi (oN (lw w 1000 a r))), h2) ∧ ck zS h h2 ∧ ∀ v, lw w 1000 a r = some (v + 1) → ∀ c, c < w 0 0 * w 0 1 → hI h2 41 c = nI (hB w (wn w v) c) := by
  have cc := cells_le hk
  intro n
  induction n with
  | zero => intro u hh l5 hu hc; omega
  | succ n ih =>
    intro u hh l5 hu hc hn K U
    have g2 := ZC_k K g
    have e9 : ¬ 900 < u + 1 := by omega
    obtain ⟨h1, s1, s2, s3⟩ := c_hare (wn w u) hk g2 U
    have K1 : ck zS h h1 := ck_t K (ck_m s2 (fun i j z => Or.inr z))
    have g3 := ZC_k K1 g
    obtain ⟨h2, b, t1, t2, t3, t4⟩ := c_hunter (T := u) hk g3 (fun c hc => by rw [s2.2.2 _ _ (by omega)]; exact U c hc) s3
    have K2 : ck zS h h2 := ck_t K1 (ck_m t2 (fun i j z => Or.inl z))
    have g4 := ZC_k K2 g
    have w0 := g4.2.2.1
    have va := t3 a ha
    have wl : wB w (wn w (u + 1)) a < 2 ^ 30 := bB_30 hk _
    have held : ∀ c, c < w 0 0 * w 0 1 → hI h2 41 c = nI (hB w (wn w u) c) := fun c hc => by rw [t2.2.2 _ _ (by omega)]; exact s3 c hc
    have Mb := wB_ne (by omega) b t4
    by_cases q : wn w (u + 1) a r = true
    · have tb : (wB w (wn w (u + 1)) a).testBit r = true := by rw [wB_t, decide_eq_true hr, q]; rfl
      have el : lw w 1000 a r = some (u + 1) := by
        rw [lw_same q (by omega)]
        exact lwn_new hn q
      refine ⟨h2, ?_, K2, fun v ev => ?_⟩
      · rw [x_1_58, el]
        simp (disch := omega) only [x_1, xs, ↓reduceIte, cz_900, e9, s1, t1, w0, ↓ib_n, cl_n, va, nl_bit, tb]
        rfl
      · rw [el] at ev
        cases ev
        exact held
    · have q := bnt q
      have tb : (wB w (wn w (u + 1)) a).testBit r = false := by rw [wB_t, decide_eq_true hr, q]; rfl
      cases b with
      | false =>
        have st := Mq_st Mb (by omega)
        have el : lw w 1000 a r = none := by
          rw [← lw_st (T := u) st ha hr (by omega)]
          exact lw_none hn
        refine ⟨h2, ?_, K2, fun v ev => by rw [el] at ev; cases ev⟩
        rw [x_1_58, el]
        simp (disch := omega) only [x_1, xs, ↓reduceIte, cz_900, e9, s1, t1, w0, ↓ib_n, cl_n, va, nl_bit, tb, Bool.false_eq_true, bI_f, i00]
        rfl
      | true =>
        have lt := cU_lt Mb
        obtain ⟨h3, r1, r2, r3⟩ := ih (u + 1) h2 (some (vi 1)) (by omega) (by omega) q K2 t3
        refine ⟨h3, ?_, r2, r3⟩
        rw [x_1_58, ← r1]
        simp (disch := omega) only [x_1, xs, ↓reduceIte, cz_900, e9, s1, t1, w0, ↓ib_n, cl_n, va, nl_bit, tb, Bool.false_eq_true, bI_t, i10, nl_inc]
theorem c_catch_0 {h : Hp} {mo d : Nat} {w : Wo} (hk : WOK d w) (g : ZC h mo w) (l2 : Option AV) (x3 : Int32) : ∀ (n c : Nat) (hh : Hp), c + n = w 0 0 * w 0 1 → ck zS h hh → (∀ j, j < c → hI hh 40 j = nI (wB w (wn w 0) j)) → ∃ h2, run 3 1 29 [some (vo (some (39, 0, 0))), some (vo (some (mo, 5, 0))), l2, some (vi x3), some (vi (nI c)), none] [] hh = run 3 1 58 [some (vo (some (39, 0, 0))), some (vo (some (mo, 5, 0))), l2, some (vi x3), some (vi (nI 1)), none] [] h2 ∧ ck zS h h2 ∧ ∀ j, j < w 0 0 * w 0 1 → hI h2 40 j = nI (wB w (wn w 0) j) := by
  have cc := cells_le hk
  intro n
  induction n with
  | zero =>
    intro c hh hc K U
    obtain rfl : c = w 0 0 * w 0 1 := by omega
    have f2 := (ZC_k K g).1.2.1.2.2.1
    refine ⟨hh, ?_, K, U⟩
    rw [x_1_29]
    simp (disch := omega) only [x_1, xs, ↓reduceIte, f2, nl_le, Nat.le_refl]
    rfl
  | succ n ih =>
    intro c hh hc K U
    have g2 := ZC_k K g
    have f2 := g2.1.2.1.2.2.1
    have w0 := g2.2.2.1
    have e : ¬ w 0 0 * w 0 1 ≤ c := by omega
    have eb : wB w (wn w 0) c = 2 ^ c := by
      apply Nat.eq_of_testBit_eq
      intro k
      rw [wB_t, Nat.testBit_two_pow]
      show (decide (k < w 0 0 * w 0 1) && decide (c = k)) = decide (c = k)
      by_cases q : c = k
      · subst q; rw [decide_eq_true (show c < w 0 0 * w 0 1 by omega)]; rfl
      · rw [decide_eq_false q, Bool.and_false]
    obtain ⟨h2, r1, r2, r3⟩ := ih (c + 1) (hsI hh 40 c (nI (2 ^ c))) (by omega) (ck_t K (ck_I (Or.inl rfl))) (fun j hj => by
      by_cases q : j = c
      · subst q; rw [hI_e, eb]
      · rw [hI_n (by omega)]; exact U j (by omega))
    refine ⟨h2, ?_, r2, r3⟩
    rw [x_1_29, ← r1]
    simp (disch := omega) only [x_1, xs, ↓reduceIte, f2, nl_le, e, w0, ↓ib_n, cl_n, nl_s1, nl_inc]
theorem c_catch {h : Hp} {mo d a r : Nat} {w : Wo} (hk : WOK d w) (g : ZC h mo w) (fa : fre w a = true) (fr : fre w r = true) : ∃ h2, call 1 [vo (some (39, 0, 0)), vo (some (mo, 5, 0)), vi (nI a), vi (nI r)] h = some (some (vi (oN (lw w 1000 a r))), h2) ∧ ck zS h h2 ∧ ∀ v, lw w 1000 a r = some (v + 1) → ∀ c, c < w 0 0 * w 0 1 → hI h2 41 c = nI (hB w (wn w v) c) := by
  have cc := cells_le hk
  have la := fre_lt fa
  have lr := fre_lt fr
  by_cases e : a = r
  · have el : lw w 1000 a r = some 0 := by
      unfold lw fN
      rw [if_pos (by show decide (a = r) = true; exact decide_eq_true e)]
    refine ⟨h, ?_, ck_r _ _, fun v ev => by rw [el] at ev; cases ev⟩
    rw [el]
    simp (disch := omega) only [e_1, x_1, xs, ↓reduceIte, nl_eq, eq_true e]
    rfl
  · have h1 := c_free (c := a) hk g.1 (by omega)
    have h2 := c_free (c := r) hk g.1 (by omega)
    rw [fa] at h1
    rw [fr] at h2
    obtain ⟨h3, s1, s2, s3⟩ := c_catch_0 hk g (some (vi (nI a))) (nI r) (w 0 0 * w 0 1) 0 h (by omega) (ck_r _ _) (fun j hj => absurd hj (by omega))
    have c0 := cU_0 hk
    obtain ⟨h4, t1, t2, t3⟩ := c_catch_l hk (ZC_k s2 g) la lr 900 0 h3 none rfl (by omega) (decide_eq_false e) (ck_r _ _) s3
    refine ⟨h4, ?_, ck_t s2 t2, t3⟩
    have s0 : call 1 [vo (some (39, 0, 0)), vo (some (mo, 5, 0)), vi (nI a), vi (nI r)] h = run 3 1 29 [some (vo (some (39, 0, 0))), some (vo (some (mo, 5, 0))), some (vi (nI a)), some (vi (nI r)), some (vi (nI 0)), none] [] h := by
      simp (disch := omega) only [e_1, x_1, xs, ↓reduceIte, nl_eq, e, h1, h2, bI_t, i10]
      rfl
    rw [s0, s1, t1]
theorem c_first_l {h : Hp} {mo d a r u : Nat} {w : Wo} (hk : WOK d w) (g : ZC h mo w) (fa : fre w a = true) (fr : fre w r = true) (hh : ∀ c, c < w 0 0 * w 0 1 → hI h 41 c = nI (hB w (wn w u) c)) : ∀ (n s : Nat) (l5 : Option AV), s + n = 5 → run 4 2 16 [some (vo (some (39, 0, 0))), some (vo (some (mo, 5, 0))), some (vi (nI a)), some (vi (nI r)), some (vi (nI s)), l5] [] h = some (some (vi (oN (fN (gsP w a r u) n s))), h) := by
  have cc := cells_le hk
  have lr := fre_lt fr
  have w1 := g.2.2.2
  intro n
  induction n with
  | zero =>
    intro s l5 hs
    obtain rfl : s = 5 := by omega
    rw [x_2_16]
    simp (disch := omega) only [x_2, xs, ↓reduceIte, cz_5, Nat.le_refl]
    rfl
  | succ n ih =>
    intro s l5 hs
    have n5 : ¬ 5 ≤ s := by omega
    have h1 := c_leads' hk g.1 fa (s := s) (by omega)
    have o9 := oN_9 (o := stp w a s) (fun t z => stp_lt hk z)
    rw [x_2_16]
    unfold fN
    cases hq : stp w a s with
    | none =>
      rw [hq] at h1
      have h1' : call 506 [vo (some (mo, 5, 0)), vi (nI a), vi (nI s)] h = some (some (vi (-9)), h) := h1
      have : ¬ gsP w a r u s = true := by unfold gsP; rw [hq]; exact Bool.false_ne_true
      rw [if_neg this, ← ih (s + 1) (some (vi (-9))) (by omega)]
      simp (disch := omega) only [x_2, xs, ↓reduceIte, cz_5, n5, h1', nl_inc]
    | some t =>
      rw [hq] at h1 o9
      have h1' : call 506 [vo (some (mo, 5, 0)), vi (nI a), vi (nI s)] h = some (some (vi (nI t)), h) := h1
      have o9' : (nI t = -9) = False := by
        have : (oN (some t) = -9) = False := by rw [o9]; simp
        exact this
      have tl := fre_lt (stp_fre hq)
      have v := hh t tl
      have hl : hB w (wn w u) t < 2 ^ 30 := bB_30 hk _
      have tb : (hB w (wn w u) t).testBit r = hd w (wn w u) t r := by unfold hB; rw [bB_t, decide_eq_true lr, Bool.true_and, hP_h fr]
      have eg : gsP w a r u s = hd w (wn w u) t r := by unfold gsP; rw [hq]
      rw [eg]
      cases q : hd w (wn w u) t r with
      | true =>
        rw [if_pos rfl]
        simp (disch := omega) only [x_2, xs, ↓reduceIte, cz_5, n5, h1', o9', w1, ↓ib_n, cl_n, v, nl_bit, tb, q]
        rfl
      | false =>
        rw [if_neg (by decide), ← ih (s + 1) (some (vi (nI t))) (by omega)]
        simp (disch := omega) only [x_2, xs, ↓reduceIte, cz_5, n5, h1', o9', w1, ↓ib_n, cl_n, v, nl_bit, tb, q, Bool.false_eq_true, nl_inc]
theorem c_first {h : Hp} {mo d a r : Nat} {w : Wo} (hk : WOK d w) (g : ZC h mo w) (fa : fre w a = true) (fr : fre w r = true) : ∃ h2, call 2 [vo (some (39, 0, 0)), vo (some (mo, 5, 0)), vi (nI a), vi (nI r)] h = some (some (vi (oN (gst w a r))), h2) ∧ ck zS h h2 := by
  obtain ⟨h1, s1, s2, s3⟩ := c_catch hk g fa fr
  refine ⟨h1, ?_, s2⟩
  unfold gst
  cases e : lw w 1000 a r with
  | none =>
    rw [e] at s1
    have s1' : call 1 [vo (some (39, 0, 0)), vo (some (mo, 5, 0)), vi (nI a), vi (nI r)] h = some (some (vi (-9)), h1) := s1
    have z : ((0 : Int32) < -9) = False := eq_false (by decide)
    simp (disch := omega) only [e_2, x_2, xs, ↓reduceIte, s1', z]
    rfl
  | some v =>
    rw [e] at s1
    cases v with
    | zero =>
      have s1' : call 1 [vo (some (39, 0, 0)), vo (some (mo, 5, 0)), vi (nI a), vi (nI r)] h = some (some (vi 0), h1) := s1
      have z : ((0 : Int32) < 0) = False := eq_false (by decide)
      simp (disch := omega) only [e_2, x_2, xs, ↓reduceIte, s1', z]
      rfl
    | succ u =>
      have s1' : call 1 [vo (some (39, 0, 0)), vo (some (mo, 5, 0)), vi (nI a), vi (nI r)] h = some (some (vi (nI (u + 1))), h1) := s1
      have ub := lw_bd e
      have z : ((0 : Int32) < nI (u + 1)) = True := by rw [show (0 : Int32) = nI 0 from rfl, nl_lt (by decide) (by omega)]; exact eq_true (by omega)
      have r := c_first_l hk (ZC_k s2 g) fa fr (s3 u e) 5 0 none rfl
      simp only
      rw [← r]
      simp (disch := omega) only [e_2, x_2, xs, ↓reduceIte, s1', z]
      exact rfl
theorem q_game (a b x : Int32) : Cok 1119 [a, b, x] (s_game a b x) := by
  rintro σ h ⟨L, nw, sp, I⟩
  obtain ⟨hn, hX, -, ⟨hw, ht⟩, -, hG, -⟩ := id I
  have w0 := hX.1.1
  have w6 := hX.1.2.2.2.2.2.1
  obtain ⟨mo, m1, m2, -, -, m5, -⟩ := hw.1
  have g : ZC h mo σ.1 := ⟨m2, m5, hX.2.2.2.1, hX.2.2.2.2⟩
  have h1 := c_nfree a I
  have h2 := c_nfree b I
  have h3 : call 1130 [vi x, vi 1] h = some (some (vi (if x < 0 ∨ 1 < x then -2 else 0)), h) := c_ask x 1 h
  have xz : ∀ i j, zS i j → xS L nw (σ.1 0 5) i j := fun i j z => by unfold zS at z; unfold xS; omega
  unfold s_game
  simp only [List.map]
  by_cases ea : freI σ.1 a = true
  · rw [if_pos ea] at h1
    by_cases eb : freI σ.1 b = true
    · rw [if_pos eb] at h2
      rw [if_pos ⟨ea, eb⟩]
      obtain ⟨j, rfl, hj, hj30⟩ := freI_of hG.1 ea
      obtain ⟨k, rfl, hk, hk30⟩ := freI_of hG.1 eb
      by_cases e2 : x < 0 ∨ 1 < x
      · rw [if_pos e2] at h3 ⊢
        refine ⟨rc h 2, ?_, ⟨L, nw, sp, IC_rz (by decide) I⟩, cB_e rfl⟩
        simp (disch := omega) only [e_1119, x_1119, xs, ↓reduceIte, h1, h2, i00, h3, ltm, c_rf2 hX]
      · rw [if_neg e2] at h3 ⊢
        obtain ⟨-, e, rfl, he⟩ := in1_t e2
        rw [cl_n (by omega), cl_n (by omega)]
        rcases (by omega : e = 0 ∨ e = 1) with rfl | rfl
        · obtain ⟨h4, r1, r2, -⟩ := c_catch hG.1 g hj hk
          have z0 : (nI 0 = 0) = True := eq_true rfl
          refine ⟨h4, ?_, ⟨L, nw, sp, IC_k (ck_m r2 xz) I⟩, cB_e r2.1⟩
          simp (disch := omega) only [e_1119, x_1119, xs, ↓reduceIte, h1, h2, i00, h3, z0, w6, w0, m1, r1]
        · obtain ⟨h4, r1, r2⟩ := c_first hG.1 g hj hk
          have z0 : (nI 1 = 0) = False := eq_false (by decide)
          refine ⟨h4, ?_, ⟨L, nw, sp, IC_k (ck_m r2 xz) I⟩, cB_e r2.1⟩
          simp (disch := omega) only [e_1119, x_1119, xs, ↓reduceIte, h1, h2, i00, h3, z0, w6, w0, m1, r1]
    · rw [if_neg eb] at h2
      rw [if_neg (fun z => eb z.2)]
      refine ⟨rc h 1, ?_, ⟨L, nw, sp, IC_rz (by decide) I⟩, cB_e rfl⟩
      simp (disch := omega) only [e_1119, x_1119, xs, ↓reduceIte, h1, h2, i00, ltm, c_rf1 hX]
  · rw [if_neg ea] at h1
    rw [if_neg (fun z => ea z.1)]
    refine ⟨rc h 1, ?_, ⟨L, nw, sp, IC_rz (by decide) I⟩, cB_e rfl⟩
    simp (disch := omega) only [e_1119, x_1119, xs, ↓reduceIte, h1, ltm, c_rf1 hX]
