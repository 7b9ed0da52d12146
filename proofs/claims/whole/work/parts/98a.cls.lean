/-! THE CLASS: watchers -/
def LK (h : Hp) (mo : Nat) (w : Wo) (L : Nat → Nat) : Prop := CM h mo w ∧ (∀ c, c < w 0 0 * w 0 1 → hI h (mo + 5) c = nI (L c)) ∧ ∀ c, L c < 2 ^ 30
theorem c_last_l {h : Hp} {mo d ms : Nat} {w : Wo} {L : Nat → Nat} (hk : WOK d w) (g : LK h mo w L) (hms : ms < 2 ^ 30) (l2 : Int32) : ∀ (n c : Nat), c + n = w 0 0 * w 0 1 → run 0 515 2 [some (vo (some (mo, 5, 0))), some (vi (nI ms)), some (vi l2), some (vi (nI c))] [] h = some (some (vi (oN (wLs L n c ms))), h) := by
  have cc := cells_le hk
  have f2 := g.1.2.1.2.2.1
  have w8 := g.1.1.2.2.2.2
  intro n
  induction n with
  | zero =>
    intro c hc
    have e : w 0 0 * w 0 1 ≤ c := by omega
    rw [x_515_2]
    simp (disch := omega) only [x_515, xs, ↓reduceIte, f2, nl_le, eq_true e]
    rfl
  | succ n ih =>
    intro c hc
    have e : ¬ w 0 0 * w 0 1 ≤ c := by omega
    have v := g.2.1 c (by omega)
    have lb := g.2.2 c
    have al : andn ms (L c) < 2 ^ 30 := andn_lt hms
    rw [x_515_2]
    unfold wLs
    by_cases q : andn ms (L c) = 0
    · rw [if_pos q]
      have z0 : (nI 0 = 0) = True := eq_true rfl
      simp (disch := omega) only [x_515, xs, ↓reduceIte, f2, nl_le, e, w8, ↓ib_n, cl_n, v, nl_andn, q, z0, nl_s1]
      rfl
    · rw [if_neg q, ← ih (c + 1) (by omega)]
      simp (disch := omega) only [x_515, xs, ↓reduceIte, f2, nl_le, e, w8, ↓ib_n, cl_n, v, nl_andn, nl_e0, q, nl_inc]
theorem wLs_lt {L : Nat → Nat} {ms : Nat} : ∀ n c b, c + n ≤ 30 → wLs L n c ms = some b → b < 2 ^ 30 := by
  intro n
  induction n with
  | zero => intro c b _ h; cases h
  | succ n ih =>
    intro c b hc h
    unfold wLs at h
    split at h
    · cases h; exact p2_lt (by omega)
    · exact ih _ _ (by omega) h
theorem wNx_lt {w : Wo} {L : Nat → Nat} {ms : Nat} {inner : Nat → Nat → Option Nat} (hi : ∀ a c b, c ≤ w 0 0 * w 0 1 → inner a c = some b → b < 2 ^ 30) (hA : w 0 0 * w 0 1 ≤ 30) : ∀ n c b, c + n = w 0 0 * w 0 1 → wNx w L inner n c ms = some b → b < 2 ^ 30 := by
  intro n
  induction n with
  | zero => intro c b _ h; cases h
  | succ n ih =>
    intro c b hc h
    unfold wNx at h
    split at h
    · split at h
      · rename_i b0 e
        cases h
        exact or_lt (hi _ _ _ (by omega) e) (by omega)
      · exact ih _ _ (by omega) h
    · exact ih _ _ (by omega) h
theorem wRc_lt {w : Wo} {L : Nat → Nat} (hA : w 0 0 * w 0 1 ≤ 30) : ∀ m ms c b, c ≤ w 0 0 * w 0 1 → wRc w L m ms c = some b → b < 2 ^ 30 := by
  intro m
  induction m with
  | zero => intro ms c b hc h; exact wLs_lt _ c b (by omega) h
  | succ m ih => intro ms c b hc h; exact wNx_lt ih hA _ c b (by omega) h
theorem oN_b {b : Nat} (hb : b < 2 ^ 31) : (nI b = -9) = False := eq_false (fun z => by
  have h1 := nI_pos' (n := b) (by omega)
  rw [z] at h1
  exact absurd h1 (by decide))
theorem rk_514 (mo : Nat) (a b : Int32) (k : Nat) (hk : k < 100) : am_rk 514 [vo (some (mo, 5, 0)), vi a, vi b, vi (nI k)] = 1 + k := by
  show 1 + (nI k).toNatClampNeg = 1 + k
  rw [cl_n (by omega)]
theorem c_wat_l {h : Hp} {mo d ms m D : Nat} {w : Wo} {L : Nat → Nat} (hk : WOK d w) (g : LK h mo w L) (hms : ms < 2 ^ 30) (hm : m ≤ 3) (hD : ∀ a b : Int32, am_rk 514 [vo (some (mo, 5, 0)), vi a, vi b, vi (nI (m + 1))] < D) (ih0 : ∀ ms c, ms < 2 ^ 30 → c ≤ w 0 0 * w 0 1 → call 514 [vo (some (mo, 5, 0)), vi (nI ms), vi (nI c), vi (nI (m + 1))] h = some (some (vi (oN (wRc w L m ms c))), h)) (l2 : Option AV) : ∀ (n c : Nat) (l5 : Option AV), c + n = w 0 0 * w 0 1 → run D 514 15 [some (vo (some (mo, 5, 0))), some (vi (nI ms)), l2, some (vi (nI (m + 2))), some (vi (nI c)), l5] [] h = some (some (vi (oN (wNx w L (wRc w L m) n c ms))), h) := by
  have cc := cells_le hk
  have f2 := g.1.2.1.2.2.1
  have w8 := g.1.1.2.2.2.2
  intro n
  induction n with
  | zero =>
    intro c l5 hc
    have e : w 0 0 * w 0 1 ≤ c := by omega
    rw [x_514_15]
    simp (disch := omega) only [x_514, xs, ↓reduceIte, f2, nl_le, eq_true e]
    rfl
  | succ n ih =>
    intro c l5 hc
    have e : ¬ w 0 0 * w 0 1 ≤ c := by omega
    have v := g.2.1 c (by omega)
    have lb := g.2.2 c
    have al : andn ms (L c) < 2 ^ 30 := andn_lt hms
    have h1 := c_free (c := c) hk g.1 (by omega)
    have h2 := ih0 (andn ms (L c)) (c + 1) al (by omega)
    have rk := hD (nI (andn ms (L c))) (nI (c + 1))
    have rk4 : am_rk 504 [vo (some (mo, 5, 0)), vi (nI c)] < D := by
      have := hD 0 0
      rw [rk_514 _ _ _ _ (by omega)] at this
      show 0 < D
      omega
    have em : nI (m + 2) - 1 = nI (m + 1) := by rw [show (1 : Int32) = nI 1 from rfl, pk_sub (by omega)]; rfl
    rw [x_514_15]
    unfold wNx
    cases q : fre w c with
    | false =>
      rw [q] at h1
      rw [if_neg (by decide), ← ih (c + 1) l5 (by omega)]
      simp (disch := first | assumption | omega) only [x_514, xs, ↓reduceIte, f2, nl_le, e, h1, bI_f, i00, nl_inc]
    | true =>
      rw [q] at h1
      rw [if_pos rfl]
      cases hq : wRc w L m (andn ms (L c)) (c + 1) with
      | none =>
        rw [hq] at h2
        have h2' : call 514 [vo (some (mo, 5, 0)), vi (nI (andn ms (L c))), vi (nI (c + 1)), vi (nI (m + 1))] h = some (some (vi (-9)), h) := h2
        simp only
        rw [← ih (c + 1) (some (vi (-9))) (by omega)]
        simp (disch := first | assumption | omega) only [x_514, xs, ↓reduceIte, f2, nl_le, e, h1, bI_t, i10, w8, ↓ib_n, cl_n, v, nl_andn, em, h2', nl_inc]
      | some b =>
        rw [hq] at h2
        have h2' : call 514 [vo (some (mo, 5, 0)), vi (nI (andn ms (L c))), vi (nI (c + 1)), vi (nI (m + 1))] h = some (some (vi (nI b)), h) := h2
        have bl := wRc_lt cc.2 m _ _ b (by omega : c + 1 ≤ w 0 0 * w 0 1) hq
        have o9 := oN_b (b := b) (by omega)
        have p2 := p2_lt (c := c) (by omega)
        simp (disch := first | assumption | omega) only [x_514, xs, ↓reduceIte, f2, nl_le, e, h1, bI_t, i10, w8, ↓ib_n, cl_n, v, nl_andn, em, h2', o9, nl_s1, nl_or, nl_inc]
        rfl
theorem c_wat {h : Hp} {mo d : Nat} {w : Wo} {L : Nat → Nat} (hk : WOK d w) (g : LK h mo w L) : ∀ (m ms c : Nat), m ≤ 3 → ms < 2 ^ 30 → c ≤ w 0 0 * w 0 1 → call 514 [vo (some (mo, 5, 0)), vi (nI ms), vi (nI c), vi (nI (m + 1))] h = some (some (vi (oN (wRc w L m ms c))), h) := by
  have cc := cells_le hk
  intro m
  induction m with
  | zero =>
    intro ms c _ hms hc
    have r := c_last_l hk g hms (nI c) (w 0 0 * w 0 1 - c) c (by omega)
    have r' : call 515 [vo (some (mo, 5, 0)), vi (nI ms), vi (nI c)] h = some (some (vi (oN (wRc w L 0 ms c))), h) := by
      unfold wRc
      rw [← r]
      simp only [e_515, x_515, xs]
    have rk : am_rk 515 [vo (some (mo, 5, 0)), vi (nI ms), vi (nI c)] < 1 + (nI (0 + 1)).toNatClampNeg := by rw [cl_n (by omega)]; show 0 < 1 + (0 + 1); omega
    have z : ((1 : Int32) < nI (0 + 1)) = False := eq_false (by decide)
    simp (disch := first | assumption | omega) only [e_514, x_514, xs, ↓reduceIte, z, r']
  | succ m ih =>
    intro ms c hm hms hc
    have r := c_wat_l (D := 1 + (nI (m + 1 + 1)).toNatClampNeg) hk g hms (by omega) (fun a b => by rw [rk_514 _ _ _ _ (by omega), cl_n (by omega)]; omega) (fun ms c h1 h2 => ih ms c (by omega) h1 h2) (some (vi (nI c))) (w 0 0 * w 0 1 - c) c none (by omega)
    have z : ((1 : Int32) < nI (m + 1 + 1)) = True := by rw [show (1 : Int32) = nI 1 from rfl, nl_lt (by decide) (by omega)]; exact eq_true (by omega)
    unfold wRc
    rw [← r]
    simp (disch := first | assumption | omega) only [e_514, x_514, xs, ↓reduceIte, z]
theorem c_lk_i {h : Hp} {mo d s r : Nat} {w : Wo} (hk : WOK d w) (g : CM h mo w) (hs : s < 4) (hr : r ≤ 5) (l1 : Option AV) : ∀ (n i a : Nat) (o : Option Nat), i + n = r → a < 2 ^ 30 → (∀ t, o = some t → fre w t = true) → ∃ x5 x6 : Int32, run 2 513 19 [some (vo (some (mo, 5, 0))), l1, some (vi (nI r)), some (vi (nI a)), some (vi (nI s)), some (vi (oN o)), some (vi (nI i))] [] h = run 2 513 62 [some (vo (some (mo, 5, 0))), l1, some (vi (nI r)), some (vi (nI (match o with | none => a | some t => lkR w s n (stp w t s) a))), some (vi (nI s)), some (vi x5), some (vi x6)] [] h := by
  intro n
  induction n with
  | zero =>
    intro i a o hi ha ho
    have e : r ≤ i := by omega
    refine ⟨oN o, nI i, ?_⟩
    rw [x_513_19]
    cases o with
    | none =>
      generalize hX : run 2 513 62 _ _ _ = X
      simp (disch := omega) only [x_513, xs, ↓reduceIte, nl_le, eq_true e, ↓hX]
    | some t =>
      show _ = run 2 513 62 [some (vo (some (mo, 5, 0))), l1, some (vi (nI r)), some (vi (nI a)), some (vi (nI s)), some (vi (oN (some t))), some (vi (nI i))] [] h
      generalize hX : run 2 513 62 _ _ _ = X
      simp (disch := omega) only [x_513, xs, ↓reduceIte, nl_le, eq_true e, ↓hX]
  | succ n ih =>
    intro i a o hi ha ho
    have e : ¬ r ≤ i := by omega
    rw [x_513_19]
    cases o with
    | none =>
      refine ⟨-9, nI i, ?_⟩
      have z : ((-9 : Int32) = -9) = True := eq_true rfl
      simp only
      generalize hX : run 2 513 62 _ _ _ = X
      simp (disch := omega) only [x_513, xs, ↓reduceIte, nl_le, e, oN_n, z, ↓hX]
    | some t =>
      have ft := ho t rfl
      have tl := fre_lt ft
      have cc := cells_le hk
      have h1 := c_leads' hk g ft (s := s) (by omega)
      have t9 := oN_b (b := t) (by omega)
      simp only
      cases hq : stp w t s with
      | none =>
        rw [hq] at h1
        have h1' : call 506 [vo (some (mo, 5, 0)), vi (nI t), vi (nI s)] h = some (some (vi (-9)), h) := h1
        obtain ⟨x5, x6, r1⟩ := ih (i + 1) a none (by omega) ha (fun t z => by cases z)
        refine ⟨x5, x6, ?_⟩
        have el : lkR w s (n + 1) none a = a := rfl
        simp only at r1
        rw [el, ← r1]
        simp (disch := omega) only [x_513, xs, ↓reduceIte, nl_le, e, oN_s, oN_n, t9, h1', nl_inc]
      | some u =>
        rw [hq] at h1
        have h1' : call 506 [vo (some (mo, 5, 0)), vi (nI t), vi (nI s)] h = some (some (vi (nI u)), h) := h1
        have fu := stp_fre hq
        have ul := fre_lt fu
        have u9 := oN_b (b := u) (by omega)
        have p2 := p2_lt (c := u) (by omega)
        obtain ⟨x5, x6, r1⟩ := ih (i + 1) (a ||| 2 ^ u) (some u) (by omega) (or_lt ha (by omega)) (fun t z => by cases z; exact fu)
        refine ⟨x5, x6, ?_⟩
        have el : lkR w s (n + 1) (some u) a = lkR w s n (stp w u s) (a ||| 2 ^ u) := rfl
        simp only at r1
        rw [el, ← r1]
        simp (disch := omega) only [x_513, xs, ↓reduceIte, nl_le, e, oN_s, t9, h1', u9, nl_s1, nl_or, nl_inc]
theorem c_lk_s {h : Hp} {mo d c r : Nat} {w : Wo} (hk : WOK d w) (g : CM h mo w) (hc : fre w c = true) (hr : r ≤ 5) : ∀ (n s a : Nat) (l5 l6 : Option AV), s + n = 4 → a < 2 ^ 30 → run 2 513 7 [some (vo (some (mo, 5, 0))), some (vi (nI c)), some (vi (nI r)), some (vi (nI a)), some (vi (nI s)), l5, l6] [] h = some (some (vi (nI (lkS w r c n s a))), h) := by
  intro n
  induction n with
  | zero =>
    intro s a l5 l6 hs ha
    obtain rfl : s = 4 := by omega
    rw [x_513_7]
    simp (disch := omega) only [x_513, xs, ↓reduceIte, cz_4, Nat.le_refl]
    rfl
  | succ n ih =>
    intro s a l5 l6 hs ha
    have e : ¬ 4 ≤ s := by omega
    obtain ⟨x5, x6, r1⟩ := c_lk_i (s := s) hk g (by omega) hr (some (vi (nI c))) r 0 a (some c) (by omega) ha (fun t z => by cases z; exact hc)
    have ll := lkR_lt hk s r (stp w c s) a ha (fun t z => stp_lt hk z)
    rw [x_513_7, lkS, ← ih (s + 1) (lkR w s r (stp w c s) a) (some (vi x5)) (some (vi x6)) (by omega) ll]
    have s0 : run 2 513 9 [some (vo (some (mo, 5, 0))), some (vi (nI c)), some (vi (nI r)), some (vi (nI a)), some (vi (nI s)), l5, l6] [vi (nI s)] h = run 2 513 19 [some (vo (some (mo, 5, 0))), some (vi (nI c)), some (vi (nI r)), some (vi (nI a)), some (vi (nI s)), some (vi (oN (some c))), some (vi (nI 0))] [] h := by
      simp (disch := omega) only [x_513, xs, ↓reduceIte, cz_4, e]
      rfl
    rw [s0, r1]
    simp (disch := omega) only [x_513, xs, nl_inc]
theorem c_look {h : Hp} {mo d c r : Nat} {w : Wo} (hk : WOK d w) (g : CM h mo w) (hc : fre w c = true) (hr : r ≤ 5) : call 513 [vo (some (mo, 5, 0)), vi (nI c), vi (nI r)] h = some (some (vi (nI (lkA w r c))), h) := by
  have cc := cells_le hk
  have cl := fre_lt hc
  unfold lkA
  rw [if_pos hc, ← c_lk_s hk g hc hr 4 0 (2 ^ c) none none rfl (p2_lt (by omega))]
  simp (disch := omega) only [e_513, x_513, xs, nl_s1]
  exact rfl
theorem c_few_0 {h : Hp} {mo d r : Nat} {w : Wo} (hk : WOK d w) (g : CM h mo w) (hr : r ≤ 5) : ∀ (n c : Nat) (hh : Hp), c + n = w 0 0 * w 0 1 → ck (fun i _ => i = mo + 5) h hh → (∀ k, k < c → hI hh (mo + 5) k = nI (lkA w r k)) → ∃ h2, run 10 512 12 [some (vo (some (mo, 5, 0))), some (vi (nI r)), some (vi (nI c)), none] [] hh = run 10 512 52 [some (vo (some (mo, 5, 0))), some (vi (nI r)), some (vi (nI 1)), none] [] h2 ∧ ck (fun i _ => i = mo + 5) h h2 ∧ ∀ k, k < w 0 0 * w 0 1 → hI h2 (mo + 5) k = nI (lkA w r k) := by
  have cc := cells_le hk
  intro n
  induction n with
  | zero =>
    intro c hh hc K U
    obtain rfl : c = w 0 0 * w 0 1 := by omega
    have g2 := CM_k K (fun i j x y => by omega) g
    have f2 := g2.2.1.2.2.1
    refine ⟨hh, ?_, K, U⟩
    rw [x_512_12]
    simp (disch := omega) only [x_512, xs, ↓reduceIte, f2, nl_le, Nat.le_refl]
    rfl
  | succ n ih =>
    intro c hh hc K U
    have g2 := CM_k K (fun i j x y => by omega) g
    have f2 := g2.2.1.2.2.1
    have w8 := g2.1.2.2.2.2
    have e : ¬ w 0 0 * w 0 1 ≤ c := by omega
    have h1 := c_free (c := c) hk g2 (by omega)
    obtain ⟨h2, r1, r2, r3⟩ := ih (c + 1) (hsI hh (mo + 5) c (nI (lkA w r c))) (by omega) (ck_t K (ck_I rfl)) (fun k hk => by
      by_cases ek : k = c
      · subst ek; exact hI_e _ _ _ _
      · rw [hI_n (by omega)]; exact U k (by omega))
    refine ⟨h2, ?_, r2, r3⟩
    rw [x_512_12, ← r1]
    cases q : fre w c with
    | true =>
      rw [q] at h1
      have h3 := c_look hk g2 q hr
      simp (disch := omega) only [x_512, xs, ↓reduceIte, f2, nl_le, e, w8, h1, bI_t, i10, h3, ↓ib_n, cl_n, nl_inc]
    | false =>
      rw [q] at h1
      have l0 : lkA w r c = 0 := by unfold lkA; rw [q]; rfl
      rw [l0]
      simp (disch := omega) only [x_512, xs, ↓reduceIte, f2, nl_le, e, w8, h1, bI_f, i00, ↓ib_n, cl_n, nl_inc]
      rfl
def wtB (o : Option (Nat × Nat)) : Int32 := match o with
  | none => -9
  | some (_, b) => nI b
theorem c_few_l {h : Hp} {mo d r : Nat} {w : Wo} (hk : WOK d w) (g : LK h mo w (lkA w r)) (h0 : frB w ≠ 0) (l1 : Int32) : ∀ (n m : Nat) (l3 : Option AV), m + n = 4 → (0 < m → fnd w r m = none) → run 10 512 52 [some (vo (some (mo, 5, 0))), some (vi l1), some (vi (nI (m + 1))), l3] [] h = some (some (vi (wtB (wtF w r n (m + 1)))), h) := by
  have fl := frB_lt hk
  have f3 := g.1.2.1.2.2.2
  intro n
  induction n with
  | zero =>
    intro m l3 hm _
    obtain rfl : m = 4 := by omega
    have e : 4 < 4 + 1 := by omega
    rw [x_512_52]
    simp (disch := omega) only [x_512, xs, ↓reduceIte, cz_4, eq_true e]
    rfl
  | succ n ih =>
    intro m l3 hm hp
    have e : ¬ 4 < m + 1 := by omega
    have h1 := c_wat hk g m (frB w) 0 (by omega) fl (Nat.zero_le _)
    rw [wR_eq hk (by omega) h0 hp] at h1
    have rk : am_rk 514 [vo (some (mo, 5, 0)), vi (nI (frB w)), vi 0, vi (nI (m + 1))] < 10 := by rw [rk_514 _ _ _ _ (by omega)]; omega
    rw [x_512_52, wtF]
    cases q : fnd w r (m + 1) with
    | none =>
      rw [q] at h1
      have h1' : call 514 [vo (some (mo, 5, 0)), vi (nI (frB w)), vi 0, vi (nI (m + 1))] h = some (some (vi (-9)), h) := h1
      simp only
      rw [← ih (m + 1) (some (vi (-9))) (by omega) (fun _ => q)]
      simp (disch := first | assumption | omega) only [x_512, xs, ↓reduceIte, cz_4, e, f3, h1', nl_inc]
    | some b =>
      rw [q] at h1
      have h1' : call 514 [vo (some (mo, 5, 0)), vi (nI (frB w)), vi 0, vi (nI (m + 1))] h = some (some (vi (nI b)), h) := h1
      have bl := (pop_f hk (by omega) q).2
      have o9 := oN_b (b := b) (by omega)
      simp (disch := first | assumption | omega) only [x_512, xs, ↓reduceIte, cz_4, e, f3, h1', o9]
      rfl
theorem c_few {h : Hp} {mo d r : Nat} {w : Wo} (hk : WOK d w) (g : CM h mo w) (hr : r ≤ 5) : ∃ h2, call 512 [vo (some (mo, 5, 0)), vi (nI r)] h = some (some (vi (if frB w = 0 then -9 else wtB (wtF w r 4 1))), h2) ∧ ck (fun i _ => i = mo + 5) h h2 := by
  have fl := frB_lt hk
  have f3 := g.2.1.2.2.2
  by_cases e : frB w = 0
  · rw [if_pos e]
    rw [e] at f3
    have z0 : (nI 0 = 0) = True := eq_true rfl
    refine ⟨h, ?_, ck_r _ _⟩
    simp (disch := omega) only [e_512, x_512, xs, ↓reduceIte, f3, z0]
  · rw [if_neg e]
    obtain ⟨h1, s1, s2, s3⟩ := c_few_0 hk g hr (w 0 0 * w 0 1) 0 h (by omega) (ck_r _ _) (fun k hk => absurd hk (by omega))
    have g2 := CM_k s2 (fun i j x y => by omega) g
    have r1 := c_few_l hk ⟨g2, s3, lkA_lt hk r⟩ e (nI r) 4 0 none rfl (fun z => by omega)
    refine ⟨h1, ?_, s2⟩
    have s0 : call 512 [vo (some (mo, 5, 0)), vi (nI r)] h = run 10 512 12 [some (vo (some (mo, 5, 0))), some (vi (nI r)), some (vi (nI 0)), none] [] h := by
      simp (disch := omega) only [e_512, x_512, xs, ↓reduceIte, f3, nl_e0, e]
      rfl
    rw [s0, s1, ← r1]
theorem wtF_i {w : Wo} {r : Nat} : ∀ n m a b, wtF w r n m = some (a, b) → fnd w r a = some b ∧ m ≤ a ∧ a < m + n := by
  intro n
  induction n with
  | zero => intro m a b h; cases h
  | succ n ih =>
    intro m a b h
    unfold wtF at h
    split at h
    · rename_i b0 e; cases h; exact ⟨e, by omega, by omega⟩
    · obtain ⟨x, y, z⟩ := ih _ _ _ h; exact ⟨x, by omega, by omega⟩
theorem q_watch (r x : Int32) : Cok 1120 [r, x] (s_watch r x) := by
  rintro σ h ⟨L, nw, sp, I⟩
  obtain ⟨hn, hX, -, ⟨hw, ht⟩, -, hG, -⟩ := id I
  have w0 := hX.1.1
  obtain ⟨mo, m1, m2, m3, m4, m5, m6⟩ := hw.1
  have h2 : call 1129 [vi r, vi 1, vi 5] h = some (some (vi (wdI r (nI 1) (nI 5))), h) := c_out r (nI 1) (nI 5) h
  have h3 : call 1130 [vi x, vi 1] h = some (some (vi (if x < 0 ∨ 1 < x then -2 else 0)), h) := c_ask x 1 h
  unfold s_watch
  simp only [List.map]
  rcases wd_3 r 1 5 (by decide) (by omega) with ⟨z1, z2⟩ | ⟨z1, z2, z3⟩ | ⟨z1, z2, z3, z4⟩
  · rw [if_pos z1]
    refine ⟨rc h 4, ?_, ⟨L, nw, sp, IC_rz (by decide) I⟩, cB_e rfl⟩
    simp (disch := omega) only [e_1120, x_1120, xs, ↓reduceIte, h2, z2, ltm, c_rf4 hX]
  · rw [if_neg z1, if_pos z2]
    refine ⟨rc h 6, ?_, ⟨L, nw, sp, IC_rz (by decide) I⟩, cB_e rfl⟩
    simp (disch := omega) only [e_1120, x_1120, xs, ↓reduceIte, h2, z3, ltm, c_rf6 hX]
  · rw [if_neg z1, if_neg z2]
    obtain ⟨k, rfl, k1, k2⟩ := z4
    by_cases e2 : x < 0 ∨ 1 < x
    · rw [if_pos e2] at h3 ⊢
      refine ⟨rc h 2, ?_, ⟨L, nw, sp, IC_rz (by decide) I⟩, cB_e rfl⟩
      simp (disch := omega) only [e_1120, x_1120, xs, ↓reduceIte, h2, z3, i00, h3, ltm, c_rf2 hX]
    · rw [if_neg e2] at h3 ⊢
      obtain ⟨-, e, rfl, he⟩ := in1_t e2
      obtain ⟨h4, r1, r2⟩ := c_few hG.1 m2 k2
      have xz : ∀ i j : Nat, i = mo + 5 → xS L nw (σ.1 0 5) i j := fun i j z => Or.inr (Or.inr (Or.inr (Or.inr (Or.inr ⟨by rw [z]; exact m4, by omega⟩))))
      refine ⟨h4, ?_, ⟨L, nw, sp, IC_k (ck_m r2 xz) I⟩, cB_e r2.1⟩
      rw [cl_n (by omega), cl_n (by omega)]
      have z9 : ((-9 : Int32) = -9) = True := eq_true rfl
      by_cases ef : frB σ.1 = 0
      · rw [if_pos ef] at r1 ⊢
        rcases (by omega : e = 0 ∨ e = 1) with rfl | rfl
        · have q1 : (nI 0 = (1 : Int32)) = False := eq_false (by decide)
          simp (disch := omega) only [e_1120, x_1120, xs, ↓reduceIte, h2, z3, i00, h3, w0, m1, r1, q1, z9]
        · have q1 : (nI 1 = (1 : Int32)) = True := eq_true rfl
          simp (disch := omega) only [e_1120, x_1120, xs, ↓reduceIte, h2, z3, i00, h3, w0, m1, r1, q1]
      · rw [if_neg ef] at r1 ⊢
        cases q : wtF σ.1 k 4 1 with
        | none =>
          rw [q] at r1
          have r1' : call 512 [vo (some (mo, 5, 0)), vi (nI k)] h = some (some (vi (-9)), h4) := r1
          rcases (by omega : e = 0 ∨ e = 1) with rfl | rfl
          · have q1 : (nI 0 = (1 : Int32)) = False := eq_false (by decide)
            simp (disch := omega) only [e_1120, x_1120, xs, ↓reduceIte, h2, z3, i00, h3, w0, m1, r1', q1, z9]
            rfl
          · have q1 : (nI 1 = (1 : Int32)) = True := eq_true rfl
            simp (disch := omega) only [e_1120, x_1120, xs, ↓reduceIte, h2, z3, i00, h3, w0, m1, r1', q1]
            rfl
        | some ab =>
          obtain ⟨a, b⟩ := ab
          rw [q] at r1
          have r1' : call 512 [vo (some (mo, 5, 0)), vi (nI k)] h = some (some (vi (nI b)), h4) := r1
          obtain ⟨y1, y2, y3⟩ := wtF_i 4 1 a b q
          obtain ⟨p1, p2⟩ := pop_f hG.1 (by omega) y1
          have o9 := oN_b (b := b) (by omega)
          have hb := c_bits (h := h4) p2
          rw [p1] at hb
          rcases (by omega : e = 0 ∨ e = 1) with rfl | rfl
          · have q1 : (nI 0 = (1 : Int32)) = False := eq_false (by decide)
            simp (disch := omega) only [e_1120, x_1120, xs, ↓reduceIte, h2, z3, i00, h3, w0, m1, r1', q1, o9, hb]
            rfl
          · have q1 : (nI 1 = (1 : Int32)) = True := eq_true rfl
            simp (disch := omega) only [e_1120, x_1120, xs, ↓reduceIte, h2, z3, i00, h3, w0, m1, r1', q1]
            rfl
