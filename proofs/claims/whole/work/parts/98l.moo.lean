/-! THE CLASS: moor -/
theorem CW_x {L L2 : Nat → Prop} {h h2 : Hp} {c : Nat} {w : Wo} (k3 : w 0 3 ≤ 5) (x : Lx L L2 h h2) (cl : ∀ i, h.1.1 ≤ i → L i) (hc : c + 7 < h.1.1) (le : h.1.1 ≤ h2.1.1) (f : ∀ i, i < h.1.1 → (im L i ∨ (c ≤ i ∧ i ≤ c + 7)) → ∀ j, hI h2 i j = hI h i j ∧ hR h2 i j = hR h i j) (cw : CW L h c w) : CW L2 h2 c w := by
  have q : iq L h h2 := fun i z j => f i (im_lt cl z) (Or.inl z) j
  have fc : ∀ i j, c ≤ i → i ≤ c + 7 → hI h2 i j = hI h i j ∧ hR h2 i j = hR h i j := fun i j a b => f i (by omega) (Or.inr ⟨a, b⟩) j
  have cw2 : CW L h2 c w := CW_q k3 q le (fc _ _ (by omega) (by omega)).2 (fun p hp => (fc _ _ (by omega) (by omega)).2) ⟨(fc _ _ (by omega) (by omega)).2.trans cw.2.2.1.1, (fc _ _ (by omega) (by omega)).2.trans cw.2.2.1.2.1, fun i hi => (fc _ _ (by omega) (by omega)).2.trans (cw.2.2.1.2.2 i hi)⟩ (fc _ _ (by omega) (by omega)).1 (fc _ _ (by omega) (by omega)).1 (fun p j hp hj => (fc _ _ (by omega) (by omega)).1) cw
  obtain ⟨mo, y1, y2, y3, y4, y5, y6⟩ := cw2.1
  have xo : mo + 5 < h.1.1 := by
    obtain ⟨mo2, z1, -, -, -, -, z6⟩ := cw.1
    rw [(fc c 0 (by omega) (by omega)).2, z1] at y1
    cases y1; exact z6
  refine ⟨⟨mo, y1, y2, fun i a b => im_x x (y3 i a b), x.2.1 _ xo y4, y5, y6⟩, cw2.2.1, cw2.2.2.1, fun p hp => ?_, cw2.2.2.2.2⟩
  obtain ⟨pid, pla, u1, u2, u3, u4, u5, u6⟩ := cw2.2.2.2.1 p hp
  exact ⟨pid, pla, u1, u2, u3, u4, im_x x u5, im_x x u6⟩
theorem q_moor : Cok 1102 [] s_moor := by
  rintro σ h ⟨L, nw, sp, I⟩
  obtain ⟨hn, hX, ⟨v1, v2, u⟩, ⟨hw, ht⟩, hi, hG, ⟨g1, ⟨g2, g3⟩, ⟨g4, g5⟩, ⟨g6, g7⟩, g8⟩, hL, h70⟩ := id I
  obtain ⟨G1, G2, G3, G4, G5, G6⟩ := id hG
  have k3 := G1.2.2.2.1
  unfold s_moor
  simp only [List.map]
  generalize hnn : σ.2.2 0 1 = n at *
  generalize hll : σ.2.2 1 = l at *
  have gl : LT h n l := ⟨G4.1, g2, hX.2.1, fun i hi => ⟨g3 i hi, G4.2 i hi⟩⟩
  obtain ⟨h1, b1, b2⟩ := c_badPlace gl
  have I1 : ICn L nw sp σ h1 := IC_k (ck_m b2 (fun i j z => by unfold lS at z; unfold xS; omega)) I
  have un : ∀ a b, (a ≠ 0 ∨ b ≠ 1) → upw σ.2.2 0 1 0 a b = σ.2.2 a b := fun a b n => upw_n (by omega)
  have gok : ∀ w, WOK 60 w → GOK (w, σ.2.1, upw σ.2.2 0 1 0) := fun w hw => by
    unfold GOK
    simp (disch := omega) only [un, upw_e]
    exact ⟨hw, G2, G3, ⟨by omega, fun i y => by omega⟩, G5, G6⟩
  have clr : ∀ H : Hp, call 401 [vo (some (31, 4, 0))] H = some (none, hsI (hsI H 31 0 0) 31 2 0) := fun H => by
    simp only [e_401, x_401, xs]
  have w4 := hX.1.2.2.2.1
  by_cases bad : (pF n l 28 0 0).2.2 = true
  · rw [if_pos bad] at b1 ⊢
    have pb : (pF n l 28 0 0).2.1 < 2 ^ 31 := by
      have : ∀ f k p, p ≤ n → (pF n l f k p).2.1 ≤ n := by
        intro f
        induction f with
        | zero => intro k p hp; exact hp
        | succ f ih =>
          intro k p hp
          unfold pF
          split
          · exact hp
          · rename_i e
            have pn : (rdS n l p).1 ≤ n := by
              rcases Nat.lt_or_ge p n with z | z
              · exact (a_stm (n := n) (p := p) (l := l) (q := (0, 0, 0, 0, 0)) rfl z).1
              · have hq : hr n l p = none := if_neg (by omega)
                have : rdS n l p = (p, true) := by unfold rdS rd1 clz; simp [hq]
                rw [this]; exact hp
            split
            · exact pn
            · exact ih _ _ pn
      have := this 28 0 0 (Nat.zero_le _)
      have := G4.1
      omega
    have X1 := I1.2.1
    have w4' := X1.1.2.2.2.1
    obtain ⟨-, -, -, -, -, -, ⟨x1, ⟨x2, x3⟩, x4, x5, x6⟩, -⟩ := id I1
    have K : ck yS h1 (hsI (hsI h1 31 0 0) 31 2 0) := ck_t (ck_I (by unfold yS; omega)) (ck_I (by unfold yS; omega))
    have hq : ∀ i j, (i ≠ 31 ∨ (j ≠ 0 ∧ j ≠ 2)) → hI (hsI (hsI h1 31 0 0) 31 2 0) i j = hI h1 i j := fun i j nn => by rw [hI_n (by omega), hI_n (by omega)]
    refine ⟨hsI (hsI h1 31 0 0) 31 2 0, ?_, ⟨L, nw, sp, IC_g K I1 (gok σ.1 G1) (un _ _ (by omega)) ?_⟩, cB_e b2.1⟩
    · have lz : (nI (pF n l 28 0 0).2.1 < 0) = False := nl_l0 pb
      simp (disch := omega) only [e_1102, x_1102, xs, ↓reduceIte, w4, b1, lz, w4', clr]
    · unfold XG
      simp (disch := omega) only [un, upw_e, hq]
      exact ⟨x1, ⟨by rw [hI_n (by omega), hI_e]; rfl, fun i y => by omega⟩, x4, x5, x6⟩
  · rw [if_neg bad] at b1 ⊢
    have bad := bnt bad
    have n0 : n ≠ 0 := fun z => by
      have e1 : pF 0 l 28 0 0 = (1, 0, true) := by
        have : rdS 0 l 0 = (0, true) := by unfold rdS rd1 clz hr; simp
        unfold pF
        rw [if_neg (fun y => y.1 rfl), this]
        rfl
      rw [z, e1] at bad
      cases bad
    obtain ⟨-, K3n, kend, kgd⟩ := pF_g (l := l) G4.1 28 0 0 rfl rfl (by omega) (by omega) (fun y => by omega) bad
    obtain ⟨hn1, X1, ⟨v1', v2', u'⟩, ⟨hw1, ht1⟩, hi1, hG1, ⟨x1, ⟨x2, x3⟩, x4, x5, x6⟩, hL1, h701⟩ := id I1
    generalize (pF n l 28 0 0).1 = KK at *
    have K28 : KK ≤ 28 := by have := G4.1; omega
    -- the spare becomes what is now
    obtain ⟨h2, c1, B⟩ := c_become (a := sp) (b := nw) (by omega) v1' hw1.2.2.1 (CU_1 (by omega) u')
    have cws : CW L h2 sp σ.1 := BE_t (by omega) G1 B v1' hw1
    have cwn : CW L h2 nw σ.1 := BE_o (by omega) (by omega) G1 B hw1
    have u2 : CU h2 := BE_u (by omega) (by omega) B u'
    have tt : TT L h2 sp σ.1 := ⟨cws, by rw [B.2.2.2.2.1.2.1]; exact ht1, CU_1 (by omega) u2, by rw [B.1]; exact hL1, by rw [B.1]; exact h701⟩
    have bI : ∀ i j, ¬ (sp ≤ i ∧ i ≤ sp + 7) → hI h2 i j = hI h1 i j := fun i j nn => B.2.2.2.2.2.2 i j (by omega) (by omega)
    have bR : ∀ i j, ¬ (sp ≤ i ∧ i ≤ sp + 7) → hR h2 i j = hR h1 i j := fun i j nn => B.2.1 i j (by omega) (by omega)
    have gl1 : LT h1 n l := LT_l b2 gl
    have gl2 : LT h2 n l := ⟨gl1.1, (bI _ _ (by omega)).trans gl1.2.1, (bR _ _ (by omega)).trans gl1.2.2.1, fun i hi => ⟨(bI _ _ (by omega)).trans (gl1.2.2.2 i hi).1, (gl1.2.2.2 i hi).2⟩⟩
    have X2 := BE_x (by omega) B X1
    have h702 : 70 ≤ h2.1.1 := by rw [B.1]; exact h701
    have hL2 : ∀ i, h2.1.1 ≤ i → L i := by rw [B.1]; exact hL1
    obtain ⟨h3, L3, j, jK, y1, y2, y3, y4, y5, y6⟩ := c_all (by omega : sp = 7 ∨ sp = 15) h702 gl2 K28 (fun k hk => kgd k (by omega) hk) kend KK 0 σ.1 h2 L none (by omega) ⟨fun i y => y, fun i _ y => y, hL2⟩ ⟨Nat.le_refl _, Nat.le_add_right _ _, Nat.le_add_right _ _, fun i _ _ j => ⟨rfl, rfl⟩⟩ tt G1
    obtain ⟨f1, f2, f3, f4⟩ := y2
    have fI : ∀ i j, i < 70 → ¬ (sp ≤ i ∧ i ≤ sp + 7) → hI h3 i j = hI h1 i j := fun i j a b => ((f4 i (by omega) b j).1).trans (bI i j b)
    have fR : ∀ i j, i < 70 → ¬ (sp ≤ i ∧ i ≤ sp + 7) → hR h3 i j = hR h1 i j := fun i j a b => ((f4 i (by omega) b j).2).trans (bR i j b)
    have X3 : CX h3 nw sp := by
      have e : ∀ i j, (i = 0 ∨ i = 31 ∨ i = 33 ∨ i = 39) → hR h3 i j = hR h2 i j := fun i j z => (f4 i (by omega) (by omega) j).2
      unfold CX at X2 ⊢
      simp (disch := omega) only [e]
      exact X2
    have oth : ∀ c w, (c = nw ∨ c = 23) → WOK 60 w → CW L h2 c w → CW L3 h3 c w := fun c w hc hw cw => CW_x hw.2.2.2.1 y1 hL2 (by omega) f1 (fun i a b j => f4 i a (by rcases b with z | z; exact fun q => im_n (by omega) z; omega) j) cw
    have cwn3 := oth nw σ.1 (Or.inl rfl) G1 cwn
    have cb : cB h h3 := by
      have q1 : h2.1 = h.1 := B.1.trans b2.1
      have n80 := G4.1
      rw [q1] at f1 f2 f3
      exact ⟨f1, by omega, Nat.le_trans f3 (Nat.add_le_add_left (Nat.le_trans (Nat.mul_le_mul_left 290 (by omega : j ≤ 27)) (by decide)) _)⟩
    have img : σ.2.2 0 0 = 1 → CW L3 h3 23 σ.2.1 ∧ hI h3 23 2 = nI (σ.2.1 0 5) := fun z => by
      obtain ⟨z1, z2⟩ := hi1 z
      exact ⟨oth 23 σ.2.1 (Or.inr rfl) (G3 z) (BE_o (by omega) (by omega) (G3 z) B z1), by rw [fI _ _ (by omega) (by omega)]; exact z2⟩
    have cv23 : CV h3 23 := ⟨(fR _ _ (by omega) (by omega)).trans v2'.1, (fR _ _ (by omega) (by omega)).trans v2'.2.1, fun i hi => (fR _ _ (by omega) (by omega)).trans (v2'.2.2 i hi)⟩
    have cu3 : CU h3 := fun i hi => by
      obtain ⟨a1, a2, a3⟩ := u' i hi
      have p3 := y4 i hi
      rcases hn with ⟨rfl, rfl⟩ | ⟨rfl, rfl⟩
      · exact ⟨by rw [fR _ _ (by omega) (by omega)]; exact a1, p3, by rw [fR _ _ (by omega) (by omega)]; exact a3⟩
      · exact ⟨p3, by rw [fR _ _ (by omega) (by omega)]; exact a2, by rw [fR _ _ (by omega) (by omega)]; exact a3⟩
    have nw2 : hI h3 nw 2 = nI (σ.1 0 5) := by rw [fI _ _ (by omega) (by omega)]; exact ht1
    have w1 := X1.1.2.1
    have w0 := X1.1.1
    have w4' := X1.1.2.2.2.1
    have w4'' := X2.1.2.2.2.1
    have w1'' := X2.1.2.1
    have w4c := X3.1.2.2.2.1
    have w0c := X3.1.1
    have w1c := X3.1.2.1
    have lz : ((-1 : Int32) < 0) = True := eq_true (by decide)
    -- the last thing: the letters are cleared
    have xg : ∀ H : Hp, (∀ i j, (i = 0 ∧ (j = 3 ∨ j = 8)) ∨ (31 ≤ i ∧ i ≤ 43) → hI H i j = hI h3 i j) → XG (hsI (hsI H 31 0 0) 31 2 0) (upw σ.2.2 0 1 0) := fun H hH => by
      have hq : ∀ i j, (i = 0 ∧ (j = 3 ∨ j = 8)) ∨ (32 ≤ i ∧ i ≤ 43) → hI (hsI (hsI H 31 0 0) 31 2 0) i j = hI h1 i j := fun i j nn => by rw [hI_n (by omega), hI_n (by omega), hH _ _ (by omega)]; exact fI _ _ (by omega) (by omega)
      have h33 : hI (hsI (hsI H 31 0 0) 31 2 0) 33 0 = hI h1 33 0 := hq _ _ (by omega)
      unfold XG
      simp (disch := omega) only [un, upw_e, hq]
      exact ⟨x1, ⟨by rw [hI_n (by omega), hI_e]; rfl, fun i y => by omega⟩, x4, x5, x6⟩
    cases et : tlF n l KK 0 σ.1 with
    | mk w2 o =>
      rw [et] at y5 y6
      cases o with
      | none =>
        obtain ⟨r1, r2, r3⟩ := y5 rfl
        have tl : call 415 [vo (some (31, 4, 0)), vo (some (sp, 10, 0))] h2 = some (some (vi (nI KK)), h3) := by
          have p0 : pl n l 0 = 0 := rfl
          rw [p0] at r1
          rw [← r1]
          simp only [e_415, x_415, xs]
          exact rfl
        have ln : (nI KK < 0) = False := nl_l0 (by omega)
        have w1d : hR (hsR h3 0 0 (some (sp, 10, 0))) 0 1 = some (sp, 10, 0) := by rw [hR_hsR, if_neg (by omega)]; exact w1c
        have w4d : hR (hsR (hsR h3 0 0 (some (sp, 10, 0))) 0 1 (some (nw, 10, 0))) 0 4 = some (31, 4, 0) := by rw [hR_hsR, if_neg (by omega), hR_hsR, if_neg (by omega)]; exact w4c
        have sR : ∀ i j, ¬ (i = 0 ∧ (j = 0 ∨ j = 1)) → hR (hsI (hsI (hsR (hsR h3 0 0 (some (sp, 10, 0))) 0 1 (some (nw, 10, 0))) 31 0 0) 31 2 0) i j = hR h3 i j := fun i j nn => by
          rw [hR_s, hR_s, hR_hsR, if_neg (by omega), hR_hsR, if_neg (by omega)]
        have sI : ∀ i j, ¬ (i = 31 ∧ (j = 0 ∨ j = 2)) → hI (hsI (hsI (hsR (hsR h3 0 0 (some (sp, 10, 0))) 0 1 (some (nw, 10, 0))) 31 0 0) 31 2 0) i j = hI h3 i j := fun i j nn => by
          rw [hI_n (by omega), hI_n (by omega)]; rfl
        have sq2 : ∀ c w, (c = 7 ∨ c = 15 ∨ c = 23) → WOK 60 w → CW L3 h3 c w → CW L3 (hsI (hsI (hsR (hsR h3 0 0 (some (sp, 10, 0))) 0 1 (some (nw, 10, 0))) 31 0 0) 31 2 0) c w := fun c w hc hw cw => CW_q hw.2.2.2.1 (fun i z j => ⟨sI i j (fun q => im_n (by omega) z), sR i j (fun q => by unfold im at z; omega)⟩) (Nat.le_refl _) (sR _ _ (by omega)) (fun p hp => sR _ _ (by omega)) ⟨(sR _ _ (by omega)).trans cw.2.2.1.1, (sR _ _ (by omega)).trans cw.2.2.1.2.1, fun i hi => (sR _ _ (by omega)).trans (cw.2.2.1.2.2 i hi)⟩ (sI _ _ (by omega)) (sI _ _ (by omega)) (fun p j hp hj => sI _ _ (by omega)) cw
        refine ⟨hsI (hsI (hsR (hsR h3 0 0 (some (sp, 10, 0))) 0 1 (some (nw, 10, 0))) 31 0 0) 31 2 0, ?_, ⟨L3, sp, nw, by omega, ?_, ⟨?_, ?_, ?_⟩, ⟨sq2 sp w2 (by omega) r3 r2.1, ?_⟩, fun z => ⟨sq2 23 σ.2.1 (by omega) (G3 (by rw [← un 0 0 (by omega)]; exact z)) (img (by rw [← un 0 0 (by omega)]; exact z)).1, ?_⟩, gok w2 r3, xg _ (fun i j _ => rfl), y1.2.2, by show 70 ≤ h3.1.1; omega⟩, cb⟩
        · simp (disch := omega) only [e_1102, x_1102, xs, ↓reduceIte, w4, b1, lz, w1, w0, c1, w4'', w1'', tl, ln, w0c, w1c, w1d, w4d, clr]
        · unfold CX
          simp (disch := omega) only [sR]
          obtain ⟨⟨-, -, q2⟩, q3⟩ := X3
          refine ⟨⟨?_, ?_, q2⟩, q3⟩
          · rw [hR_s, hR_s, hR_hsR, if_neg (by omega), hR_hsR, if_pos ⟨rfl, rfl⟩]
          · rw [hR_s, hR_s, hR_hsR, if_pos ⟨rfl, rfl⟩]
        · exact ⟨(sR _ _ (by omega)).trans cwn3.2.2.1.1, (sR _ _ (by omega)).trans cwn3.2.2.1.2.1, fun i hi => (sR _ _ (by omega)).trans (cwn3.2.2.1.2.2 i hi)⟩
        · exact ⟨(sR _ _ (by omega)).trans cv23.1, (sR _ _ (by omega)).trans cv23.2.1, fun i hi => (sR _ _ (by omega)).trans (cv23.2.2 i hi)⟩
        · exact fun i hi => by rw [sR _ _ (by omega), sR _ _ (by omega), sR _ _ (by omega)]; exact cu3 i hi
        · rw [sI _ _ (by omega)]; exact r2.2.1
        · rw [sI _ _ (by omega)]; exact (img (by rw [← un 0 0 (by omega)]; exact z)).2
      | some p =>
        obtain ⟨p80, r1⟩ := y6 p rfl
        have tl : call 415 [vo (some (31, 4, 0)), vo (some (sp, 10, 0))] h2 = some (some (vi (-2000 - nI p)), h3) := by
          have p0 : pl n l 0 = 0 := rfl
          rw [p0] at r1
          rw [← r1]
          simp only [e_415, x_415, xs]
          exact rfl
        have ln : (-2000 - nI p < 0) = True := by
          have : ∀ p ∈ List.range 81, (-2000 - nI p < 0) = True := by
            intro p hp
            have : ∀ p ∈ List.range 81, -2000 - nI p < 0 := by decide +kernel
            exact eq_true (this p hp)
          exact this p (List.mem_range.mpr (by omega))
        have I3 : ICn L3 nw sp σ h3 := ⟨hn, X3, ⟨y3, cv23, cu3⟩, ⟨cwn3, nw2⟩, img, hG, ⟨by rw [fI _ _ (by omega) (by omega)]; exact x1, ⟨by rw [fI _ _ (by omega) (by omega)]; exact x2, fun i hi => by rw [fI _ _ (by omega) (by omega)]; exact x3 i hi⟩, ⟨by rw [fI _ _ (by omega) (by omega)]; exact x4.1, fun i hi => by rw [fI _ _ (by omega) (by omega), fI _ _ (by omega) (by omega)]; exact x4.2 i hi⟩, ⟨by rw [fI _ _ (by omega) (by omega)]; exact x5.1, fun i hi => by rw [fI _ _ (by omega) (by omega)]; exact x5.2 i hi⟩, fun i hi => by rw [fI _ _ (by omega) (by omega)]; exact x6 i hi⟩, y1.2.2, by omega⟩
        have K : ck yS h3 (hsI (hsI h3 31 0 0) 31 2 0) := ck_t (ck_I (by unfold yS; omega)) (ck_I (by unfold yS; omega))
        refine ⟨hsI (hsI h3 31 0 0) 31 2 0, ?_, ⟨L3, nw, sp, IC_g K I3 (gok σ.1 G1) (un _ _ (by omega)) (xg h3 (fun i j _ => rfl))⟩, cb⟩
        simp (disch := omega) only [e_1102, x_1102, xs, ↓reduceIte, w4, b1, lz, w1, w0, c1, w4'', w1'', tl, ln, w4c, clr]
