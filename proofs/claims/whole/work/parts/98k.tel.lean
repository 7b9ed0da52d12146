/-! THE CLASS: all statements told -/
theorem cmF_ok {n p : Nat} {l : Nat → Nat} {w w2 : Wo} (hk : WOK 60 w) (g : (rd1 n l p).2 = false) (e : cmF n l p w = some w2) : WOK 60 w2 := by
  have kn := of_decide_eq_true (rd1_p g).2
  unfold rd1 at g
  unfold cmF at e
  by_cases c1 : hr n l p = some 109
  · rw [if_pos c1] at g e
    obtain ⟨b1, b2, b3, -⟩ := rdM_ok g
    cases e
    exact WOK_moo hk b1 b2 b3
  · rw [if_neg c1] at g e
    by_cases c3 : hr n l p = some 100
    · rw [if_pos c3] at e
      split at e
      · cases e; exact WOK_lag hk (by omega)
      · cases e
    · have c2 : hr n l p = some 112 := by
        rcases kn with z | z | z
        · exact absurd z c1
        · exact z
        · exact absurd z c3
      rw [if_neg c3] at e
      rw [if_pos c2] at g
      have d2 := (rdD_ok n l (dg1 n l (p + 1)).2.1 (dg1 n l (p + 1)).2.2).1
      have d5 := dg5_ok g
      have e5 : dg5 n l (p + 1) = spF n l 6 0 (dg4 n l (p + 1)).2.1 := by unfold dg5; rw [if_neg (by rw [show (dg4 n l (p + 1)).2.2 = false from g]; decide)]
      split at e
      · cases e
      · rename_i v
        have k3 := hk.2.2.2.1
        have v3 : w 0 3 ≠ 5 := fun z => v (Or.inr (Or.inr z))
        have v2 : fre w (dg4 n l (p + 1)).1 = true := by
          cases z : fre w (dg4 n l (p + 1)).1 with
          | true => rfl
          | false => exact absurd (Or.inr (Or.inl z)) v
        cases e
        refine WOK_prs hk (by omega) (Nat.le_of_not_lt (fun z => v (Or.inl z))) d2 d5.1 (fun i hi => ?_) v2
        obtain ⟨s, es⟩ := spF_a 6 0 (dg4 n l (p + 1)).2.1 i (by rw [← e5, Nat.zero_add]; exact hi)
        unfold plQ
        rw [es]
        exact stO_lt es
/-- j statements later -/
def tfK (sp j : Nat) (h h2 : Hp) : Prop := h.1.1 ≤ h2.1.1 ∧ h2.1.1 ≤ h.1.1 + 6 * j ∧ h2.1.2 ≤ h.1.2 + 290 * j ∧ ∀ i, i < h.1.1 → ¬ (sp ≤ i ∧ i ≤ sp + 7) → ∀ j, hI h2 i j = hI h i j ∧ hR h2 i j = hR h i j
theorem tfK_s {sp j : Nat} {h h1 h2 : Hp} (a : tfK sp j h h1) (b : tfr sp h1 h2) : tfK sp (j + 1) h h2 := by
  obtain ⟨a1, a2, a3, a4⟩ := a
  obtain ⟨b1, b2, b3, b4⟩ := b
  refine ⟨by omega, by omega, ?_, fun i hi nn k => ⟨(b4 i (by omega) nn k).1.trans (a4 i hi nn k).1, (b4 i (by omega) nn k).2.trans (a4 i hi nn k).2⟩⟩
  rw [Nat.mul_succ, ← Nat.add_assoc]
  exact Nat.le_trans b3 (Nat.add_le_add_right a3 290)
theorem Lx_t {L L1 L2 : Nat → Prop} {h h1 h2 : Hp} (le : h.1.1 ≤ h1.1.1) (a : Lx L L1 h h1) (b : Lx L1 L2 h1 h2) : Lx L L2 h h2 := ⟨fun i y => a.1 i (b.1 i y), fun i hi y => b.2.1 i (by omega) (a.2.1 i hi y), b.2.2⟩
theorem LT_f {sp j n : Nat} {l : Nat → Nat} {h h2 : Hp} (hs : sp = 7 ∨ sp = 15) (h70 : 70 ≤ h.1.1) (a : tfK sp j h h2) (g : LT h n l) : LT h2 n l := ⟨g.1, (a.2.2.2 31 (by omega) (by omega) 0).1.trans g.2.1, (a.2.2.2 31 (by omega) (by omega) 1).2.trans g.2.2.1, fun i hi => ⟨(a.2.2.2 32 (by omega) (by omega) i).1.trans (g.2.2.2 i hi).1, (g.2.2.2 i hi).2⟩⟩
theorem c_skip {h : Hp} {n e : Nat} {l : Nat → Nat} (g : LT h n l) (he : e ≤ n) (l1 l5 : Option AV) (x2 x3 : Int32) : ∀ (m i : Nat), i + m = e → nE l i e → run 5 415 7 [some (vo (some (31, 4, 0))), l1, some (vi x2), some (vi x3), some (vi (nI i)), l5] [] h = run 5 415 7 [some (vo (some (31, 4, 0))), l1, some (vi x2), some (vi x3), some (vi (nI e)), l5] [] h := by
  obtain ⟨n80, t0, t1, t2⟩ := g
  intro m
  induction m with
  | zero =>
    intro i hi _
    obtain rfl : i = e := by omega
    rfl
  | succ m ih =>
    intro i hi hn
    have e1 : ¬ n ≤ i := by omega
    obtain ⟨v, vb⟩ := t2 i (by omega)
    have q : (nI (l i) = 59) = False := by rw [show (59 : Int32) = nI 59 from rfl, nl_eq (by omega) (by decide)]; exact eq_false (hn i (by omega) (by omega))
    rw [← ih (i + 1) (by omega) (fun j a b => hn j (by omega) b), x_415_7]
    simp (disch := omega) only [x_415, xs, ↓reduceIte, t0, nl_le, e1, t1, ↓ib_n, cl_n, v, q, nl_inc]
/-- one statement told, its end reached -/
theorem c_one {L : Nat → Prop} {h : Hp} {n p sp k : Nat} {l : Nat → Nat} {w : Wo} {l5 : Option AV} (hs : sp = 7 ∨ sp = 15) (g : LT h n l) (T : TT L h sp w) (hk : WOK 60 w) (hk28 : k < 100) (gd : (rd1 n l p).2 = false) (h59 : hr n l (rd1 n l p).1 = some 59) : ∃ h2, tlR L sp h (cmF n l p w) h2 ∧ (cmF n l p w = none → run 5 415 7 [some (vo (some (31, 4, 0))), some (vo (some (sp, 10, 0))), some (vi (nI k)), some (vi (nI p)), some (vi (nI (rd1 n l p).1)), l5] [] h = some (some (vi (-2000 - nI p)), h2)) ∧ (cmF n l p w ≠ none → ∃ l6 : Option AV, run 5 415 7 [some (vo (some (31, 4, 0))), some (vo (some (sp, 10, 0))), some (vi (nI k)), some (vi (nI p)), some (vi (nI (rd1 n l p).1)), l5] [] h = run 5 415 7 [some (vo (some (31, 4, 0))), some (vo (some (sp, 10, 0))), some (vi (nI (k + 1))), some (vi (nI ((rd1 n l p).1 + 1))), some (vi (nI ((rd1 n l p).1 + 1))), l6] [] h2) := by
  obtain ⟨n80, t0, t1, t2⟩ := id g
  have kn := of_decide_eq_true (rd1_p gd).2
  obtain ⟨l59, en⟩ := hr_s h59
  obtain ⟨ve, vb⟩ := t2 _ en
  have p2 := (rd1_p gd).1
  obtain ⟨vp, vpb⟩ := t2 p (by omega)
  have e1 : ¬ n ≤ (rd1 n l p).1 := by omega
  have q59 : (nI (l (rd1 n l p).1) = 59) = True := by rw [l59]; exact eq_true rfl
  have q109 : (nI (l p) = 109) = (l p = 109) := by rw [show (109 : Int32) = nI 109 from rfl, nl_eq (by omega) (by decide)]
  have q112 : (nI (l p) = 112) = (l p = 112) := by rw [show (112 : Int32) = nI 112 from rfl, nl_eq (by omega) (by decide)]
  have fin0 : ∀ (h2 : Hp) (x : Int32), True := fun _ _ => trivial
  by_cases c1 : hr n l p = some 109
  · have l1 : l p = 109 := (hr_s c1).1
    have er : rd1 n l p = ((rdM n l (p + 1)).2.2.2.1, (rdM n l (p + 1)).2.2.2.2) := by unfold rd1; rw [if_pos c1]
    have z : (rdM n l (p + 1)).2.2.2.2 = false := by rw [er] at gd; exact gd
    have ee : (rd1 n l p).1 = (rdM n l (p + 1)).2.2.2.1 := by rw [er]
    obtain ⟨h2, r1, r2⟩ := c_tellMoor hs g T hk z (by rw [← ee]; exact en)
    have ec : cmF n l p w = some (mooW w (rdM n l (p + 1)).1 (rdM n l (p + 1)).2.1 (rdM n l (p + 1)).2.2.1) := by unfold cmF; rw [if_pos c1]
    rw [← ee] at r1
    refine ⟨h2, by rw [ec]; exact r2, (fun y => by rw [ec] at y; cases y), fun _ => ⟨some (vi 1), ?_⟩⟩
    rw [x_415_7]
    simp (disch := omega) only [x_415, xs, ↓reduceIte, t0, nl_le, e1, t1, ↓ib_n, cl_n, ve, q59, vp, q109, eq_true l1, r1, i10, nl_inc]
  · have n1 : ¬ l p = 109 := fun y => c1 (by rw [hr_l (by omega), y])
    by_cases c2 : hr n l p = some 112
    · have l1 : l p = 112 := (hr_s c2).1
      have er : rd1 n l p = ((dg5 n l (p + 1)).2, (dg4 n l (p + 1)).2.2) := by unfold rd1; rw [if_neg c1, if_pos c2]
      have z : (dg4 n l (p + 1)).2.2 = false := by rw [er] at gd; exact gd
      have ee : (rd1 n l p).1 = (dg5 n l (p + 1)).2 := by rw [er]
      obtain ⟨h2, r1, r2⟩ := c_tellPerson hs g T hk z (by rw [← ee]; exact en)
      have c3 : ¬ hr n l p = some 100 := by rw [c2]; simp
      have ec : cmF n l p w = (if 5 < (dg1 n l (p + 1)).1 ∨ fre w (dg4 n l (p + 1)).1 = false ∨ w 0 3 = 5 then none else some (prsW w (dg1 n l (p + 1)).1 (dg2 n l (p + 1)).1 (dg5 n l (p + 1)).1 (plQ n l (dg4 n l (p + 1)).2.1) (dg4 n l (p + 1)).1)) := by unfold cmF; rw [if_neg c1, if_neg c3]
      rw [← ee] at r1
      refine ⟨h2, by rw [ec]; exact r2, fun y => ?_, fun y => ⟨some (vi 1), ?_⟩⟩
      · have bd : 5 < (dg1 n l (p + 1)).1 ∨ fre w (dg4 n l (p + 1)).1 = false ∨ w 0 3 = 5 := Classical.byContradiction (fun x => by rw [ec, if_neg x] at y; cases y)
        rw [decide_eq_true bd] at r1
        have r1' : call 417 [vo (some (31, 4, 0)), vo (some (sp, 10, 0)), vi (nI p), vi (nI (rd1 n l p).1)] h = some (some (vi 0), h2) := r1
        rw [x_415_7]
        simp (disch := omega) only [x_415, xs, ↓reduceIte, t0, nl_le, e1, t1, ↓ib_n, cl_n, ve, q59, vp, q109, q112, n1, eq_true l1, r1', i00]
      · have bd : ¬ (5 < (dg1 n l (p + 1)).1 ∨ fre w (dg4 n l (p + 1)).1 = false ∨ w 0 3 = 5) := fun x => y (by rw [ec, if_pos x])
        rw [decide_eq_false bd] at r1
        have r1' : call 417 [vo (some (31, 4, 0)), vo (some (sp, 10, 0)), vi (nI p), vi (nI (rd1 n l p).1)] h = some (some (vi 1), h2) := r1
        rw [x_415_7]
        simp (disch := omega) only [x_415, xs, ↓reduceIte, t0, nl_le, e1, t1, ↓ib_n, cl_n, ve, q59, vp, q109, q112, n1, eq_true l1, r1', i10, nl_inc]
    · have c3 : hr n l p = some 100 := by
        rcases kn with y | y | y
        · exact absurd y c1
        · exact absurd y c2
        · exact y
      have n2 : ¬ l p = 112 := fun y => c2 (by rw [hr_l (by omega), y])
      have er : rd1 n l p = (rdD n l (p + 1) false).2 := by unfold rd1; rw [if_neg c1, if_neg c2, if_pos c3]
      have z : (rdD n l (p + 1) false).2.2 = false := by rw [er] at gd; exact gd
      have zd := ((rdD_ok n l (p + 1) false).2.2 z).2.2.1
      obtain ⟨h2, r1, r2⟩ := c_tellDelay hs g T hk zd
      have ec : cmF n l p w = (if l (p + 1) - 48 < 4 then some (upw w 0 4 (l (p + 1) - 48)) else none) := by unfold cmF; rw [if_neg c1, if_pos c3, rdD_g zd]
      refine ⟨h2, by rw [ec]; exact r2, fun y => ?_, fun y => ⟨some (vi 1), ?_⟩⟩
      · have bd : ¬ l (p + 1) - 48 < 4 := fun x => by rw [ec, if_pos x] at y; cases y
        rw [decide_eq_false bd] at r1
        have r1' : call 418 [vo (some (31, 4, 0)), vo (some (sp, 10, 0)), vi (nI p)] h = some (some (vi 0), h2) := r1
        rw [x_415_7]
        simp (disch := omega) only [x_415, xs, ↓reduceIte, t0, nl_le, e1, t1, ↓ib_n, cl_n, ve, q59, vp, q109, q112, n1, n2, r1', i00]
      · have bd : l (p + 1) - 48 < 4 := Classical.byContradiction (fun x => y (by rw [ec, if_neg x]))
        rw [decide_eq_true bd] at r1
        have r1' : call 418 [vo (some (31, 4, 0)), vo (some (sp, 10, 0)), vi (nI p)] h = some (some (vi 1), h2) := r1
        rw [x_415_7]
        simp (disch := omega) only [x_415, xs, ↓reduceIte, t0, nl_le, e1, t1, ↓ib_n, cl_n, ve, q59, vp, q109, q112, n1, n2, r1', i10, nl_inc]
theorem c_all {L0 : Nat → Prop} {h : Hp} {n K sp : Nat} {l : Nat → Nat} (hs : sp = 7 ∨ sp = 15) (h70 : 70 ≤ h.1.1) (g : LT h n l) (hK : K ≤ 28) (gd : ∀ k, k < K → (rdS n l (pl n l k)).2 = false) (hend : pl n l K = n) : ∀ (m k : Nat) (w : Wo) (hh : Hp) (L : Nat → Prop) (l5 : Option AV), k + m = K → Lx L0 L h hh → tfK sp k h hh → TT L hh sp w → WOK 60 w → ∃ (h2 : Hp) (L2 : Nat → Prop) (j : Nat), j ≤ K ∧ Lx L0 L2 h h2 ∧ tfK sp j h h2 ∧ CV h2 sp ∧ (∀ i, i < 5 → pO (hR h2 (sp + 1) i)) ∧ ((tlF n l m k w).2 = none → run 5 415 7 [some (vo (some (31, 4, 0))), some (vo (some (sp, 10, 0))), some (vi (nI k)), some (vi (nI (pl n l k))), some (vi (nI (pl n l k))), l5] [] hh = some (some (vi (nI K)), h2) ∧ TT L2 h2 sp (tlF n l m k w).1 ∧ WOK 60 (tlF n l m k w).1) ∧ ∀ p, (tlF n l m k w).2 = some p → p ≤ 80 ∧ run 5 415 7 [some (vo (some (31, 4, 0))), some (vo (some (sp, 10, 0))), some (vi (nI k)), some (vi (nI (pl n l k))), some (vi (nI (pl n l k))), l5] [] hh = some (some (vi (-2000 - nI p)), h2) := by
  intro m
  induction m with
  | zero =>
    intro k w hh L l5 hk x f T hw
    obtain rfl : k = K := by omega
    obtain ⟨n80, t0, t1, t2⟩ := LT_f hs h70 f g
    refine ⟨hh, L, k, Nat.le_refl _, x, f, T.1.2.2.1, T.2.2.1, fun _ => ⟨?_, T, hw⟩, fun p y => by cases y⟩
    rw [hend, x_415_7]
    simp (disch := omega) only [x_415, xs, ↓reduceIte, t0, nl_le, Nat.le_refl]
  | succ m ih =>
    intro k w hh L l5 hk x f T hw
    have g2 := LT_f hs h70 f g
    have q := rdS_p (gd k (by omega))
    have en := (hr_s q.2.2.1).2
    have ps := (rd1_p q.2.1).1
    have sk := c_skip g2 (e := (rd1 n l (pl n l k)).1) (by omega) (some (vo (some (sp, 10, 0)))) l5 (nI k) (nI (pl n l k)) ((rd1 n l (pl n l k)).1 - pl n l k) (pl n l k) (by omega) (nE_stm q.2.1)
    obtain ⟨h1, ⟨L1, y1, y2, y3, y4, y5⟩, r1, r2⟩ := c_one (k := k) (l5 := l5) hs g2 T hw (by omega) q.2.1 q.2.2.1
    have pk : pl n l (k + 1) = (rd1 n l (pl n l k)).1 + 1 := q.2.2.2.1
    have x1 := Lx_t f.1 x y1
    have f1 := tfK_s f y2
    rw [sk]
    cases e : cmF n l (pl n l k) w with
    | none =>
      have eF : tlF n l (m + 1) k w = (w, some (pl n l k)) := by rw [tlF, e]
      rw [eF]
      refine ⟨h1, L1, k + 1, by omega, x1, f1, y4, y5, (fun y => by cases y), fun p y => ?_⟩
      cases y
      exact ⟨by have := g.1; omega, r1 e⟩
    | some w2 =>
      have eF : tlF n l (m + 1) k w = tlF n l m (k + 1) w2 := by rw [tlF, e]
      rw [eF]
      obtain ⟨l6, r3⟩ := r2 (by rw [e]; simp)
      rw [r3, ← pk]
      exact ih (k + 1) w2 h1 L1 l6 (by omega) x1 f1 (y3 w2 e) (cmF_ok hw q.2.1 e)
theorem pF_g {n : Nat} {l : Nat → Nat} (n80 : n ≤ 80) : ∀ f k p, k + f = 28 → p = pl n l k → 3 * k ≤ p → p ≤ n → (p = n → k ≠ 0) → (pF n l f k p).2.2 = false → k ≤ (pF n l f k p).1 ∧ 3 * (pF n l f k p).1 ≤ n ∧ pl n l (pF n l f k p).1 = n ∧ ∀ i, k ≤ i → i < (pF n l f k p).1 → (rdS n l (pl n l i)).2 = false := by
  intro f
  induction f with
  | zero => intro k p hk _ h3 hp; omega
  | succ f ih =>
    intro k p hk ep h3 hp hz
    unfold pF
    by_cases e : k ≠ 0 ∧ n ≤ p
    · rw [if_pos e]
      intro _
      exact ⟨Nat.le_refl _, by show 3 * k ≤ n; omega, by show pl n l k = n; omega, fun i a b => by have b : i < k := b; omega⟩
    · rw [if_neg e]
      have pn : p < n := by
        rcases Nat.lt_or_ge p n with z | z
        · exact z
        · exact absurd ⟨hz (by omega), z⟩ e
      by_cases b : (rdS n l p).2 = true
      · rw [if_pos b]; intro z; cases z
      · rw [if_neg b]
        intro z
        have b := bnt b
        have q := rdS_p b
        have s0 := (a_stm (n := n) (p := p) (l := l) (q := (0, 0, 0, 0, 0)) rfl pn).1
        obtain ⟨i1, i2, i3, i4⟩ := ih (k + 1) (rdS n l p).1 (by omega) (by rw [ep]; rfl) (by omega) s0 (fun _ => by omega) z
        refine ⟨by omega, i2, i3, fun i a c => ?_⟩
        by_cases ei : i = k
        · rw [ei, ← ep]; exact b
        · exact i4 i (by omega) c
