/-! THE CLASS: statements told to a world -/
def tfr (sp : Nat) (h h2 : Hp) : Prop := h.1.1 ≤ h2.1.1 ∧ h2.1.1 ≤ h.1.1 + 6 ∧ h2.1.2 ≤ h.1.2 + 290 ∧ ∀ i, i < h.1.1 → ¬ (sp ≤ i ∧ i ≤ sp + 7) → ∀ j, hI h2 i j = hI h i j ∧ hR h2 i j = hR h i j
def TT (L : Nat → Prop) (h : Hp) (sp : Nat) (w : Wo) : Prop := CW L h sp w ∧ hI h sp 2 = nI (w 0 5) ∧ (∀ i, i < 5 → pO (hR h (sp + 1) i)) ∧ (∀ i, h.1.1 ≤ i → L i) ∧ 70 ≤ h.1.1
def Lx (L L2 : Nat → Prop) (h h2 : Hp) : Prop := (∀ i, L2 i → L i) ∧ (∀ i, i < h.1.1 → L i → L2 i) ∧ ∀ i, h2.1.1 ≤ i → L2 i
def tlR (L : Nat → Prop) (sp : Nat) (h : Hp) (o : Option Wo) (h2 : Hp) : Prop := ∃ L2, Lx L L2 h h2 ∧ tfr sp h h2 ∧ (∀ w2, o = some w2 → TT L2 h2 sp w2) ∧ CV h2 sp ∧ ∀ i, i < 5 → pO (hR h2 (sp + 1) i)
theorem im_x {L L2 : Nat → Prop} {h h2 : Hp} (x : Lx L L2 h h2) {i : Nat} (z : im L i) : im L2 i := ⟨z.1, fun y => z.2 (x.1 i y)⟩
theorem im_lt {L : Nat → Prop} {h : Hp} (a : ∀ i, h.1.1 ≤ i → L i) {i : Nat} (z : im L i) : i < h.1.1 := by
  rcases Nat.lt_or_ge i h.1.1 with y | y
  · exact y
  · exact absurd (a i y) z.2
theorem tfr_i {L : Nat → Prop} {sp : Nat} {h h2 : Hp} (hs : sp = 7 ∨ sp = 15) (a : ∀ i, h.1.1 ≤ i → L i) (t : tfr sp h h2) : iq L h h2 := fun i z j => t.2.2.2 i (im_lt a z) (fun y => im_n (by omega) z) j
theorem c_tellMoor {L : Nat → Prop} {h : Hp} {n p sp : Nat} {l : Nat → Nat} {w : Wo} (hs : sp = 7 ∨ sp = 15) (g : LT h n l) (T : TT L h sp w) (hk : WOK 60 w) (z : (rdM n l (p + 1)).2.2.2.2 = false) (he : (rdM n l (p + 1)).2.2.2.1 < n) : ∃ h2, call 416 [vo (some (31, 4, 0)), vo (some (sp, 10, 0)), vi (nI p), vi (nI (rdM n l (p + 1)).2.2.2.1)] h = some (none, h2) ∧ tlR L sp h (some (mooW w (rdM n l (p + 1)).1 (rdM n l (p + 1)).2.1 (rdM n l (p + 1)).2.2.1)) h2 := by
  obtain ⟨cw, ct, cu, cl, c70⟩ := id T
  have n80 := g.1
  obtain ⟨k1, k2, k3, k4⟩ := rdM_ok z
  have tg := t_rdM z
  have wk := WOK_moo hk k1 k2 k3
  have cc := cells_le wk
  have hl := hills_lt wk
  have cc' : (rdM n l (p + 1)).1 * (rdM n l (p + 1)).2.1 ≤ 30 := cc.2
  have hl' : (rdM n l (p + 1)).2.2.1 < 2 ^ 30 := hl
  generalize hE : (rdM n l (p + 1)).2.2.2.1 = e at *
  generalize hRr : (rdM n l (p + 1)).1 = R at *
  generalize hCc : (rdM n l (p + 1)).2.1 = C at *
  generalize hHh : (rdM n l (p + 1)).2.2.1 = H at *
  have r := c_tm_l g (by omega : e ≤ n) (some (vo (some (sp, 10, 0)))) (some (vi (nI p))) (e - (p + 1)) (p + 1) (1, 0, 0, 0) (by omega) (by rw [tg.2, Nat.mul_comm]; exact cc') (by decide) (by show 1 + _ ≤ 1000; omega)
  rw [tg.2] at r
  have s0 : call 416 [vo (some (31, 4, 0)), vo (some (sp, 10, 0)), vi (nI p), vi (nI e)] h = run 3 416 17 [some (vo (some (31, 4, 0))), some (vo (some (sp, 10, 0))), some (vi (nI p)), some (vi (nI e)), some (vi (nI 1)), some (vi (nI 0)), some (vi (nI 0)), some (vi (nI 0)), some (vi (nI (p + 1)))] [] h := by
    simp (disch := omega) only [e_416, x_416, xs, nl_inc]
    rfl
  obtain ⟨h1, a1, a2, a3, a4⟩ := n_new (h := hmk h 9) (mo := h.1.1) (w := mooW w R C H) rfl wk
  have a1' : call 500 [vo (some (h.1.1, 5, 0)), vi (nI R), vi (nI C), vi (nI H)] (hmk h 9) = some (none, h1) := a1
  have lowI : ∀ i j, i < h.1.1 → hI h1 i j = hI h i j := fun i j hi => by rw [(a4 i j hi).1, hI_hmk, if_neg (by omega)]
  have lowR : ∀ i j, i < h.1.1 → hR h1 i j = hR h i j := fun i j hi => by rw [(a4 i j hi).2, hR_hmk, if_neg (by omega)]
  have fI : ∀ i j, ¬ (i = sp ∧ (j = 2 ∨ j = 3)) → hI (hsI (hsI (hsR h1 sp 0 (some (h.1.1, 5, 0))) sp 2 0) sp 3 0) i j = hI h1 i j := fun i j nn => by rw [hI_n (by omega), hI_n (by omega)]; rfl
  have fR : ∀ i j, ¬ (i = sp ∧ j = 0) → hR (hsI (hsI (hsR h1 sp 0 (some (h.1.1, 5, 0))) sp 2 0) sp 3 0) i j = hR h1 i j := fun i j nn => by show hR (hsR h1 sp 0 (some (h.1.1, 5, 0))) i j = _; rw [hR_hsR, if_neg nn]
  have b1 : (hsI (hsI (hsR h1 sp 0 (some (h.1.1, 5, 0))) sp 2 0) sp 3 0).1 = h1.1 := rfl
  have cv : CV (hsI (hsI (hsR h1 sp 0 (some (h.1.1, 5, 0))) sp 2 0) sp 3 0) sp := ⟨by rw [fR _ _ (by omega), lowR _ _ (by omega)]; exact cw.2.2.1.1, by rw [fR _ _ (by omega), lowR _ _ (by omega)]; exact cw.2.2.1.2.1, fun i hi => by rw [fR _ _ (by omega), lowR _ _ (by omega)]; exact cw.2.2.1.2.2 i hi⟩
  have po : ∀ i, i < 5 → pO (hR (hsI (hsI (hsR h1 sp 0 (some (h.1.1, 5, 0))) sp 2 0) sp 3 0) (sp + 1) i) := fun i hi => by rw [fR _ _ (by omega), lowR _ _ (by omega)]; exact cu i hi
  refine ⟨hsI (hsI (hsR h1 sp 0 (some (h.1.1, 5, 0))) sp 2 0) sp 3 0, ?_, fun i => L i ∧ ¬ (h.1.1 ≤ i ∧ i ≤ h.1.1 + 4), ⟨fun i y => y.1, fun i hi y => ⟨y, by omega⟩, fun i hi => ?_⟩, ⟨?_, ?_, ?_, fun i hi nn j => ?_⟩, fun w2 ew => ?_, cv, po⟩
  · rw [s0]
    refine r.trans ?_
    have h5 : call 1002 [vo (some (sp, 10, 0)), vo (some (h.1.1, 5, 0))] h1 = some (none, hsI (hsI (hsR h1 sp 0 (some (h.1.1, 5, 0))) sp 2 0) sp 3 0) := by
      simp (disch := omega) only [e_1002, x_1002, xs]
    simp (disch := omega) only [x_416, xs, a1', h5]
  · rw [b1, a3] at hi
    have hi : h.1.1 + 6 ≤ i := hi
    exact ⟨cl i (by omega), by omega⟩
  · rw [b1, a3]; show h.1.1 ≤ h.1.1 + 6; omega
  · rw [b1, a3]; exact Nat.le_refl _
  · rw [b1, a3]; show h.1.2 + 9 + 270 ≤ h.1.2 + 290; omega
  · rw [fI i j (by omega), fR i j (by omega)]; exact ⟨lowI i j hi, lowR i j hi⟩
  · cases ew
    refine ⟨⟨⟨h.1.1, ?_, ?_, ?_, ?_, Or.inr c70, ?_⟩, ⟨?_, ?_⟩, cv, fun q hq => absurd hq (by show ¬ q < 0; omega), fun q hq => absurd hq (by show ¬ q < 0; omega)⟩, ?_, po, fun i hi => ?_, ?_⟩
    · show hR (hsR h1 sp 0 (some (h.1.1, 5, 0))) sp 0 = _
      rw [hR_hsR, if_pos ⟨rfl, rfl⟩]
    · obtain ⟨⟨q1, q2, q3, q4, q5⟩, ⟨f0, f1, f2, f3⟩, gg⟩ := a2
      have eI : ∀ i j, h.1.1 ≤ i → hI (hsI (hsI (hsR h1 sp 0 (some (h.1.1, 5, 0))) sp 2 0) sp 3 0) i j = hI h1 i j := fun i j hi => fI i j (by omega)
      have eR : ∀ j, hR (hsI (hsI (hsR h1 sp 0 (some (h.1.1, 5, 0))) sp 2 0) sp 3 0) h.1.1 j = hR h1 h.1.1 j := fun j => fR _ j (by omega)
      refine ⟨⟨(eR _).trans q1, (eR _).trans q2, (eR _).trans q3, (eR _).trans q4, (eR _).trans q5⟩, ⟨(eI _ _ (by omega)).trans f0, (eI _ _ (by omega)).trans f1, (eI _ _ (by omega)).trans f2, (eI _ _ (by omega)).trans f3⟩, fun c hc => ?_⟩
      obtain ⟨g1, g2, g3, g4⟩ := gg c hc
      exact ⟨(eI _ _ (by omega)).trans g1, (eI _ _ (by omega)).trans g2, (eI _ _ (by omega)).trans g3, fun s hs => (eI _ _ (by omega)).trans (g4 s hs)⟩
    · intro i i1 i2
      exact ⟨by omega, fun y => y.2 ⟨i1, i2⟩⟩
    · exact ⟨cl _ (by omega), by omega⟩
    · rw [b1, a3]; show h.1.1 + 5 < h.1.1 + 6; omega
    · rw [fI _ _ (by omega), lowI _ _ (by omega)]; exact cw.2.1.1
    · rw [hI_e]; rfl
    · rw [hI_n (by omega), hI_e]; rfl
    · rw [b1, a3] at hi
      have hi : h.1.1 + 6 ≤ i := hi
      exact ⟨cl i (by omega), by omega⟩
    · rw [b1, a3]; show 70 ≤ h.1.1 + 6; omega
theorem c_tellDelay {L : Nat → Prop} {h : Hp} {n p sp : Nat} {l : Nat → Nat} {w : Wo} (hs : sp = 7 ∨ sp = 15) (g : LT h n l) (T : TT L h sp w) (hk : WOK 60 w) (hd : isD (hr n l (p + 1)) = true) : ∃ h2, call 418 [vo (some (31, 4, 0)), vo (some (sp, 10, 0)), vi (nI p)] h = some (some (vi (bI (decide (l (p + 1) - 48 < 4)))), h2) ∧ tlR L sp h (if l (p + 1) - 48 < 4 then some (upw w 0 4 (l (p + 1) - 48)) else none) h2 := by
  obtain ⟨cw, ct, cu, cl, c70⟩ := id T
  have dg := c_digit g hd
  have hb := isD_l hd
  have l0 : (nI (l (p + 1) - 48) < 0) = False := nl_l0 (by omega)
  have k3 := hk.2.2.2.1
  by_cases e : l (p + 1) - 48 < 4
  · have e3 : l (p + 1) - 48 ≤ 3 := by omega
    rw [if_pos e, decide_eq_true e]
    have K : ck (fun i j => i = sp ∧ j = 1) h (hsI h sp 1 (nI (l (p + 1) - 48))) := ck_I ⟨rfl, rfl⟩
    have ni : ∀ i b : Nat, im L i → ¬ (i = sp ∧ b = 1) := fun i b z y => im_n (by omega) z
    refine ⟨hsI h sp 1 (nI (l (p + 1) - 48)), ?_, L, ⟨fun i y => y, fun i _ y => y, cl⟩, ⟨Nat.le_refl _, Nat.le_add_right _ _, Nat.le_add_right _ _, fun i hi nn j => ⟨hI_n (by omega), rfl⟩⟩, fun w2 ew => ?_, CV_k K cw.2.2.1, cu⟩
    · simp (disch := omega) only [e_418, x_418, xs, ↓reduceIte, nl_inc, dg, l0, cz_3, eq_true e3]
      rfl
    · cases ew
      obtain ⟨c1, ⟨c2, c3⟩, c4, c5, c6⟩ := cw
      have uw : ∀ a b, a ≠ 0 ∨ b ≠ 4 → upw w 0 4 (l (p + 1) - 48) a b = w a b := fun a b z => upw_n (by omega)
      refine ⟨⟨CG_w (uw _ _ (by omega)) (uw _ _ (by omega)) (uw _ _ (by omega)) (CG_k K ni c1), ⟨by rw [hI_e, upw_e], by rw [hI_n (by omega), uw _ _ (by omega)]; exact c3⟩, CV_k K c4, fun q hq => ?_, fun q hq t htt => ?_⟩, by rw [hI_n (by omega), uw _ _ (by omega)]; exact ct, cu, cl, c70⟩
      · rw [uw _ _ (by omega)] at hq
        exact CP_w (fun i j a b => uw _ _ (by omega)) (by omega) (CP_k K ni (c5 q hq))
      · rw [uw _ _ (by omega)] at hq htt
        rw [uw _ _ (by omega), hI_n (by omega)]
        exact c6 q hq t htt
  · have e3 : ¬ l (p + 1) - 48 ≤ 3 := by omega
    rw [if_neg e, decide_eq_false e]
    refine ⟨h, ?_, L, ⟨fun i y => y, fun i _ y => y, cl⟩, ⟨Nat.le_refl _, Nat.le_add_right _ _, Nat.le_add_right _ _, fun i hi nn j => ⟨rfl, rfl⟩⟩, (fun w2 ew => by cases ew), cw.2.2.1, cu⟩
    simp (disch := omega) only [e_418, x_418, xs, ↓reduceIte, nl_inc, dg, l0, cz_3, e3]
    rfl
theorem c_init {h : Hp} {o k : Nat} {f : Int32} {r : Option Rf} (hk : k = 9 ∨ k = 3 ∨ k = 2 ∨ k = 1 ∨ k = 8 ∨ k = 6) : call 900 [vo (some (o, k, 0)), vi f, vo r] h = some (none, hsR (hsI h o 0 f) o 1 r) := by
  rcases hk with rfl | rfl | rfl | rfl | rfl | rfl <;> simp only [e_900, x_900, xs]
/-- the walker made; its plan r -/
def wH2 (h : Hp) (f : Int32) (r : Option Rf) : Hp := hsR (hsI (hmk h 2) h.1.1 0 f) h.1.1 1 r
theorem c_ofKind {h : Hp} {k : Nat} {f : Int32} {r : Option Rf} (hk : k ≤ 9) : call 901 [vi (nI k), vi f, vo r] h = some (some (vo (if k ≤ 5 then some (h.1.1, kc k, 0) else none)), if k ≤ 5 then wH2 h f r else h) := by
  have zz : ∀ j, j < 6 → (nI k = nI j) = (k = j) := fun j hj => nl_eq (by omega) (by omega)
  have z0 : (nI k = 0) = (k = 0) := zz 0 (by decide)
  have z1 : (nI k = 1) = (k = 1) := zz 1 (by decide)
  have z2 : (nI k = 2) = (k = 2) := zz 2 (by decide)
  have z3 : (nI k = 3) = (k = 3) := zz 3 (by decide)
  have z4 : (nI k = 4) = (k = 4) := zz 4 (by decide)
  have z5 : (nI k = 5) = (k = 5) := zz 5 (by decide)
  have ci : ∀ kd, (kd = 9 ∨ kd = 3 ∨ kd = 2 ∨ kd = 1 ∨ kd = 8 ∨ kd = 6) → call 900 [vo (some (h.1.1, kd, 0)), vi f, vo r] (hmk h 2) = some (none, wH2 h f r) := fun kd hkd => c_init hkd
  have i9 := ci 9 (by omega)
  have i3 : call 300 [vo (some (h.1.1, 3, 0)), vi f, vo r] (hmk h 2) = some (none, wH2 h f r) := by have := ci 3 (by omega); simp only [e_300, x_300, xs, this]
  have i2 : call 200 [vo (some (h.1.1, 2, 0)), vi f, vo r] (hmk h 2) = some (none, wH2 h f r) := by have := ci 2 (by omega); simp only [e_200, x_200, xs, this]
  have i8 : call 800 [vo (some (h.1.1, 8, 0)), vi f, vo r] (hmk h 2) = some (none, wH2 h f r) := by have := ci 8 (by omega); simp only [e_800, x_800, xs, this]
  have i31 : call 300 [vo (some (h.1.1, 1, 0)), vi f, vo r] (hmk h 2) = some (none, wH2 h f r) := by have := ci 1 (by omega); simp only [e_300, x_300, xs, this]
  have i36 : call 300 [vo (some (h.1.1, 6, 0)), vi f, vo r] (hmk h 2) = some (none, wH2 h f r) := by have := ci 6 (by omega); simp only [e_300, x_300, xs, this]
  have i1 : call 100 [vo (some (h.1.1, 1, 0)), vi f, vo r] (hmk h 2) = some (none, wH2 h f r) := by simp only [e_100, x_100, xs, i31]
  have i6 : call 600 [vo (some (h.1.1, 6, 0)), vi f, vo r] (hmk h 2) = some (none, wH2 h f r) := by simp only [e_600, x_600, xs, i36]
  by_cases e : k ≤ 5
  · rw [if_pos e, if_pos e]
    rcases (by omega : k = 0 ∨ k = 1 ∨ k = 2 ∨ k = 3 ∨ k = 4 ∨ k = 5) with rfl | rfl | rfl | rfl | rfl | rfl
    · simp (disch := omega) only [e_901, x_901, xs, ↓reduceIte, z0, i9]; rfl
    · simp (disch := omega) only [e_901, x_901, xs, ↓reduceIte, z0, z1, Nat.reduceEqDiff, i3]; rfl
    · simp (disch := omega) only [e_901, x_901, xs, ↓reduceIte, z0, z1, z2, Nat.reduceEqDiff, i2]; rfl
    · simp (disch := omega) only [e_901, x_901, xs, ↓reduceIte, z0, z1, z2, z3, Nat.reduceEqDiff, i1]; rfl
    · simp (disch := omega) only [e_901, x_901, xs, ↓reduceIte, z0, z1, z2, z3, z4, Nat.reduceEqDiff, i8]; rfl
    · simp (disch := omega) only [e_901, x_901, xs, ↓reduceIte, z0, z1, z2, z3, z4, z5, Nat.reduceEqDiff, i6]; rfl
  · rw [if_neg e, if_neg e]
    have n0 : ¬ k = 0 := by omega
    have n1 : ¬ k = 1 := by omega
    have n2 : ¬ k = 2 := by omega
    have n3 : ¬ k = 3 := by omega
    have n4 : ¬ k = 4 := by omega
    have n5 : ¬ k = 5 := by omega
    simp (disch := omega) only [e_901, x_901, xs, ↓reduceIte, z0, z1, z2, z3, z4, z5, n0, n1, n2, n3, n4, n5]
